theorem dL_law_44 : decode cL_law 44 = .ok (.iload 5, 2) := by decide +kernel
theorem dL_law_46 : decode cL_law 46 = .ok (.bipush 24, 2) := by decide +kernel
theorem dL_law_48 : decode cL_law 48 = .ok (.if_icmp .ge 1315, 3) := by decide +kernel
theorem dL_law_51 : decode cL_law 51 = .ok (.aload_n 0, 1) := by decide +kernel
theorem dL_law_52 : decode cL_law 52 = .ok (.iload 5, 2) := by decide +kernel
theorem dL_law_54 : decode cL_law 54 = .ok (.invokestatic 65, 3) := by decide +kernel
theorem dL_law_57 : decode cL_law 57 = .ok (.istore 6, 2) := by decide +kernel
theorem dL_law_59 : decode cL_law 59 = .ok (.aload_n 0, 1) := by decide +kernel
theorem dL_law_60 : decode cL_law 60 = .ok (.bipush 30, 2) := by decide +kernel
theorem dL_law_62 : decode cL_law 62 = .ok (.iload 5, 2) := by decide +kernel
theorem dL_law_64 : decode cL_law 64 = .ok (.iadd, 1) := by decide +kernel
theorem dL_law_65 : decode cL_law 65 = .ok (.invokestatic 65, 3) := by decide +kernel
theorem dL_law_68 : decode cL_law 68 = .ok (.istore 7, 2) := by decide +kernel
theorem dL_law_70 : decode cL_law 70 = .ok (.iload 6, 2) := by decide +kernel
theorem dL_law_72 : decode cL_law 72 = .ok (.bipush 12, 2) := by decide +kernel
theorem dL_law_74 : decode cL_law 74 = .ok (.invokestatic 55, 3) := by decide +kernel
theorem dL_law_77 : decode cL_law 77 = .ok (.istore 8, 2) := by decide +kernel
theorem dL_law_79 : decode cL_law 79 = .ok (.iconst 1, 1) := by decide +kernel
theorem dL_law_80 : decode cL_law 80 = .ok (.istore 9, 2) := by decide +kernel
theorem dL_law_82 : decode cL_law 82 = .ok (.iload 8, 2) := by decide +kernel
theorem dL_law_84 : decode cL_law 84 = .ok (.bipush 6, 2) := by decide +kernel
theorem dL_law_86 : decode cL_law 86 = .ok (.if_icmp .lt 9, 3) := by decide +kernel
theorem dL_law_89 : decode cL_law 89 = .ok (.iload 5, 2) := by decide +kernel
theorem dL_law_91 : decode cL_law 91 = .ok (.iconst 3, 1) := by decide +kernel
theorem dL_law_92 : decode cL_law 92 = .ok (.if_icmp .ge 333, 3) := by decide +kernel
theorem dL_law_95 : decode cL_law 95 = .ok (.iconst 1, 1) := by decide +kernel
theorem dL_law_96 : decode cL_law 96 = .ok (.iload 6, 2) := by decide +kernel
theorem dL_law_98 : decode cL_law 98 = .ok (.iconst 4, 1) := by decide +kernel
theorem dL_law_99 : decode cL_law 99 = .ok (.ishr, 1) := by decide +kernel
theorem dL_law_100 : decode cL_law 100 = .ok (.iload 6, 2) := by decide +kernel
theorem dL_law_102 : decode cL_law 102 = .ok (.bipush 25, 2) := by decide +kernel
theorem dL_law_104 : decode cL_law 104 = .ok (.ishr, 1) := by decide +kernel
theorem dL_law_105 : decode cL_law 105 = .ok (.iconst 2, 1) := by decide +kernel
theorem dL_law_106 : decode cL_law 106 = .ok (.invokestatic 55, 3) := by decide +kernel
theorem dL_law_109 : decode cL_law 109 = .ok (.ifCond .ne 9, 3) := by decide +kernel
theorem dL_law_112 : decode cL_law 112 = .ok (.sipush 300, 3) := by decide +kernel
theorem dL_law_115 : decode cL_law 115 = .ok (.goto 5, 3) := by decide +kernel
theorem dL_law_118 : decode cL_law 118 = .ok (.bipush 60, 2) := by decide +kernel
theorem dL_law_120 : decode cL_law 120 = .ok (.invokestatic 55, 3) := by decide +kernel
theorem dL_law_123 : decode cL_law 123 = .ok (.iadd, 1) := by decide +kernel
theorem dL_law_124 : decode cL_law 124 = .ok (.istore 10, 2) := by decide +kernel
theorem dL_law_126 : decode cL_law 126 = .ok (.iconst 1, 1) := by decide +kernel
theorem dL_law_127 : decode cL_law 127 = .ok (.iload 6, 2) := by decide +kernel
theorem dL_law_129 : decode cL_law 129 = .ok (.bipush 13, 2) := by decide +kernel
theorem dL_law_131 : decode cL_law 131 = .ok (.ishr, 1) := by decide +kernel
theorem dL_law_132 : decode cL_law 132 = .ok (.bipush 99, 2) := by decide +kernel
theorem dL_law_134 : decode cL_law 134 = .ok (.invokestatic 55, 3) := by decide +kernel
theorem dL_law_137 : decode cL_law 137 = .ok (.iadd, 1) := by decide +kernel
theorem dL_law_138 : decode cL_law 138 = .ok (.istore 11, 2) := by decide +kernel
theorem dL_law_140 : decode cL_law 140 = .ok (.iload 6, 2) := by decide +kernel
theorem dL_law_142 : decode cL_law 142 = .ok (.bipush 20, 2) := by decide +kernel
theorem dL_law_144 : decode cL_law 144 = .ok (.ishr, 1) := by decide +kernel
theorem dL_law_145 : decode cL_law 145 = .ok (.iconst 3, 1) := by decide +kernel
theorem dL_law_146 : decode cL_law 146 = .ok (.invokestatic 55, 3) := by decide +kernel
theorem dL_law_149 : decode cL_law 149 = .ok (.ifCond .le 7, 3) := by decide +kernel
theorem dL_law_152 : decode cL_law 152 = .ok (.iconst 1, 1) := by decide +kernel
theorem dL_law_153 : decode cL_law 153 = .ok (.goto 4, 3) := by decide +kernel
theorem dL_law_156 : decode cL_law 156 = .ok (.iconst 0, 1) := by decide +kernel
theorem dL_law_157 : decode cL_law 157 = .ok (.istore 12, 2) := by decide +kernel
theorem dL_law_159 : decode cL_law 159 = .ok (.iload 12, 2) := by decide +kernel
theorem dL_law_161 : decode cL_law 161 = .ok (.ifCond .eq 7, 3) := by decide +kernel
theorem dL_law_164 : decode cL_law 164 = .ok (.iconst 0, 1) := by decide +kernel
theorem dL_law_165 : decode cL_law 165 = .ok (.goto 12, 3) := by decide +kernel
theorem dL_law_168 : decode cL_law 168 = .ok (.iload 7, 2) := by decide +kernel
theorem dL_law_170 : decode cL_law 170 = .ok (.bipush 11, 2) := by decide +kernel
theorem dL_law_172 : decode cL_law 172 = .ok (.invokestatic 55, 3) := by decide +kernel
theorem dL_law_175 : decode cL_law 175 = .ok (.iconst 5, 1) := by decide +kernel
theorem dL_law_176 : decode cL_law 176 = .ok (.isub, 1) := by decide +kernel
theorem dL_law_177 : decode cL_law 177 = .ok (.istore 13, 2) := by decide +kernel
theorem dL_law_179 : decode cL_law 179 = .ok (.iconst 0, 1) := by decide +kernel
theorem dL_law_180 : decode cL_law 180 = .ok (.istore 14, 2) := by decide +kernel
theorem dL_law_182 : decode cL_law 182 = .ok (.iconst 0, 1) := by decide +kernel
theorem dL_law_183 : decode cL_law 183 = .ok (.istore 15, 2) := by decide +kernel
theorem dL_law_185 : decode cL_law 185 = .ok (.iload 15, 2) := by decide +kernel
theorem dL_law_187 : decode cL_law 187 = .ok (.aload 4, 2) := by decide +kernel
theorem dL_law_189 : decode cL_law 189 = .ok (.bipush 6, 2) := by decide +kernel
theorem dL_law_191 : decode cL_law 191 = .ok (.iaload, 1) := by decide +kernel
theorem dL_law_192 : decode cL_law 192 = .ok (.if_icmp .ge 45, 3) := by decide +kernel
theorem dL_law_195 : decode cL_law 195 = .ok (.iload 14, 2) := by decide +kernel
theorem dL_law_197 : decode cL_law 197 = .ok (.ifCond .ne 27, 3) := by decide +kernel
theorem dL_law_200 : decode cL_law 200 = .ok (.aload_n 2, 1) := by decide +kernel
theorem dL_law_201 : decode cL_law 201 = .ok (.iconst 4, 1) := by decide +kernel
theorem dL_law_202 : decode cL_law 202 = .ok (.iload 15, 2) := by decide +kernel
theorem dL_law_204 : decode cL_law 204 = .ok (.imul, 1) := by decide +kernel
theorem dL_law_205 : decode cL_law 205 = .ok (.iaload, 1) := by decide +kernel
theorem dL_law_206 : decode cL_law 206 = .ok (.iload 10, 2) := by decide +kernel
theorem dL_law_208 : decode cL_law 208 = .ok (.if_icmp .ne 20, 3) := by decide +kernel
theorem dL_law_211 : decode cL_law 211 = .ok (.aload_n 2, 1) := by decide +kernel
theorem dL_law_212 : decode cL_law 212 = .ok (.iconst 4, 1) := by decide +kernel
theorem dL_law_213 : decode cL_law 213 = .ok (.iload 15, 2) := by decide +kernel
theorem dL_law_215 : decode cL_law 215 = .ok (.imul, 1) := by decide +kernel
theorem dL_law_216 : decode cL_law 216 = .ok (.iconst 2, 1) := by decide +kernel
theorem dL_law_217 : decode cL_law 217 = .ok (.iadd, 1) := by decide +kernel
theorem dL_law_218 : decode cL_law 218 = .ok (.iaload, 1) := by decide +kernel
theorem dL_law_219 : decode cL_law 219 = .ok (.iload 13, 2) := by decide +kernel
theorem dL_law_221 : decode cL_law 221 = .ok (.if_icmp .ne 7, 3) := by decide +kernel
theorem dL_law_224 : decode cL_law 224 = .ok (.iconst 1, 1) := by decide +kernel
theorem dL_law_225 : decode cL_law 225 = .ok (.goto 4, 3) := by decide +kernel
theorem dL_law_228 : decode cL_law 228 = .ok (.iconst 0, 1) := by decide +kernel
theorem dL_law_229 : decode cL_law 229 = .ok (.istore 14, 2) := by decide +kernel
theorem dL_law_231 : decode cL_law 231 = .ok (.iinc 15 1, 3) := by decide +kernel
theorem dL_law_234 : decode cL_law 234 = .ok (.goto (-49), 3) := by decide +kernel
theorem dL_law_237 : decode cL_law 237 = .ok (.iload 14, 2) := by decide +kernel
theorem dL_law_239 : decode cL_law 239 = .ok (.ifCond .ne 17, 3) := by decide +kernel
theorem dL_law_242 : decode cL_law 242 = .ok (.aload 4, 2) := by decide +kernel
theorem dL_law_244 : decode cL_law 244 = .ok (.bipush 6, 2) := by decide +kernel
theorem dL_law_246 : decode cL_law 246 = .ok (.iaload, 1) := by decide +kernel
theorem dL_law_247 : decode cL_law 247 = .ok (.bipush 6, 2) := by decide +kernel
theorem dL_law_249 : decode cL_law 249 = .ok (.if_icmp .ge 7, 3) := by decide +kernel
theorem dL_law_252 : decode cL_law 252 = .ok (.iconst 1, 1) := by decide +kernel
theorem dL_law_253 : decode cL_law 253 = .ok (.goto 4, 3) := by decide +kernel
theorem dL_law_256 : decode cL_law 256 = .ok (.iconst 0, 1) := by decide +kernel
theorem dL_law_257 : decode cL_law 257 = .ok (.istore 15, 2) := by decide +kernel
theorem dL_law_259 : decode cL_law 259 = .ok (.iload 12, 2) := by decide +kernel
theorem dL_law_261 : decode cL_law 261 = .ok (.ifCond .eq 15, 3) := by decide +kernel
theorem dL_law_264 : decode cL_law 264 = .ok (.aload_n 1, 1) := by decide +kernel
theorem dL_law_265 : decode cL_law 265 = .ok (.iload 10, 2) := by decide +kernel
theorem dL_law_267 : decode cL_law 267 = .ok (.iload 11, 2) := by decide +kernel
theorem dL_law_269 : decode cL_law 269 = .ok (.iconst 0, 1) := by decide +kernel
theorem dL_law_270 : decode cL_law 270 = .ok (.invokevirtual 69, 3) := by decide +kernel
theorem dL_law_273 : decode cL_law 273 = .ok (.goto 4, 3) := by decide +kernel
theorem dL_law_276 : decode cL_law 276 = .ok (.iconst 0, 1) := by decide +kernel
theorem dL_law_277 : decode cL_law 277 = .ok (.istore 16, 2) := by decide +kernel
theorem dL_law_279 : decode cL_law 279 = .ok (.aload_n 1, 1) := by decide +kernel
theorem dL_law_280 : decode cL_law 280 = .ok (.iload 10, 2) := by decide +kernel
theorem dL_law_282 : decode cL_law 282 = .ok (.iload 11, 2) := by decide +kernel
theorem dL_law_284 : decode cL_law 284 = .ok (.iload 13, 2) := by decide +kernel
theorem dL_law_286 : decode cL_law 286 = .ok (.iload 12, 2) := by decide +kernel
theorem dL_law_288 : decode cL_law 288 = .ok (.invokevirtual 72, 3) := by decide +kernel
theorem dL_law_291 : decode cL_law 291 = .ok (.iload 14, 2) := by decide +kernel
theorem dL_law_293 : decode cL_law 293 = .ok (.ifCond .eq 8, 3) := by decide +kernel
theorem dL_law_296 : decode cL_law 296 = .ok (.bipush (-2), 2) := by decide +kernel
theorem dL_law_298 : decode cL_law 298 = .ok (.goto 18, 3) := by decide +kernel
theorem dL_law_301 : decode cL_law 301 = .ok (.iload 15, 2) := by decide +kernel
theorem dL_law_303 : decode cL_law 303 = .ok (.ifCond .eq 11, 3) := by decide +kernel
theorem dL_law_306 : decode cL_law 306 = .ok (.aload 4, 2) := by decide +kernel
theorem dL_law_308 : decode cL_law 308 = .ok (.bipush 6, 2) := by decide +kernel
theorem dL_law_310 : decode cL_law 310 = .ok (.iaload, 1) := by decide +kernel
theorem dL_law_311 : decode cL_law 311 = .ok (.goto 5, 3) := by decide +kernel
theorem dL_law_314 : decode cL_law 314 = .ok (.bipush (-3), 2) := by decide +kernel
theorem dL_law_316 : decode cL_law 316 = .ok (.if_icmp .ne 42, 3) := by decide +kernel
theorem dL_law_319 : decode cL_law 319 = .ok (.iload 12, 2) := by decide +kernel
theorem dL_law_321 : decode cL_law 321 = .ok (.ifCond .eq 33, 3) := by decide +kernel
theorem dL_law_324 : decode cL_law 324 = .ok (.iload 16, 2) := by decide +kernel
theorem dL_law_326 : decode cL_law 326 = .ok (.iload 14, 2) := by decide +kernel
theorem dL_law_328 : decode cL_law 328 = .ok (.ifCond .eq 8, 3) := by decide +kernel
theorem dL_law_331 : decode cL_law 331 = .ok (.bipush (-2), 2) := by decide +kernel
theorem dL_law_333 : decode cL_law 333 = .ok (.goto 18, 3) := by decide +kernel
theorem dL_law_336 : decode cL_law 336 = .ok (.iload 15, 2) := by decide +kernel
theorem dL_law_338 : decode cL_law 338 = .ok (.ifCond .eq 11, 3) := by decide +kernel
theorem dL_law_341 : decode cL_law 341 = .ok (.aload_n 1, 1) := by decide +kernel
theorem dL_law_342 : decode cL_law 342 = .ok (.iconst 2, 1) := by decide +kernel
theorem dL_law_343 : decode cL_law 343 = .ok (.invokevirtual 37, 3) := by decide +kernel
theorem dL_law_346 : decode cL_law 346 = .ok (.goto 5, 3) := by decide +kernel
theorem dL_law_349 : decode cL_law 349 = .ok (.bipush (-3), 2) := by decide +kernel
theorem dL_law_351 : decode cL_law 351 = .ok (.if_icmp .ne 7, 3) := by decide +kernel
theorem dL_law_354 : decode cL_law 354 = .ok (.iconst 1, 1) := by decide +kernel
theorem dL_law_355 : decode cL_law 355 = .ok (.goto 4, 3) := by decide +kernel
theorem dL_law_358 : decode cL_law 358 = .ok (.iconst 0, 1) := by decide +kernel
theorem dL_law_359 : decode cL_law 359 = .ok (.istore 9, 2) := by decide +kernel
theorem dL_law_361 : decode cL_law 361 = .ok (.iload 15, 2) := by decide +kernel
theorem dL_law_363 : decode cL_law 363 = .ok (.ifCond .eq 59, 3) := by decide +kernel
theorem dL_law_366 : decode cL_law 366 = .ok (.iconst 4, 1) := by decide +kernel
theorem dL_law_367 : decode cL_law 367 = .ok (.aload 4, 2) := by decide +kernel
theorem dL_law_369 : decode cL_law 369 = .ok (.bipush 6, 2) := by decide +kernel
theorem dL_law_371 : decode cL_law 371 = .ok (.iaload, 1) := by decide +kernel
theorem dL_law_372 : decode cL_law 372 = .ok (.imul, 1) := by decide +kernel
theorem dL_law_373 : decode cL_law 373 = .ok (.istore 17, 2) := by decide +kernel
theorem dL_law_375 : decode cL_law 375 = .ok (.aload_n 2, 1) := by decide +kernel
theorem dL_law_376 : decode cL_law 376 = .ok (.iload 17, 2) := by decide +kernel
theorem dL_law_378 : decode cL_law 378 = .ok (.iload 10, 2) := by decide +kernel
theorem dL_law_380 : decode cL_law 380 = .ok (.iastore, 1) := by decide +kernel
theorem dL_law_381 : decode cL_law 381 = .ok (.aload_n 2, 1) := by decide +kernel
theorem dL_law_382 : decode cL_law 382 = .ok (.iload 17, 2) := by decide +kernel
theorem dL_law_384 : decode cL_law 384 = .ok (.iconst 1, 1) := by decide +kernel
theorem dL_law_385 : decode cL_law 385 = .ok (.iadd, 1) := by decide +kernel
theorem dL_law_386 : decode cL_law 386 = .ok (.iload 11, 2) := by decide +kernel
theorem dL_law_388 : decode cL_law 388 = .ok (.iastore, 1) := by decide +kernel
theorem dL_law_389 : decode cL_law 389 = .ok (.aload_n 2, 1) := by decide +kernel
theorem dL_law_390 : decode cL_law 390 = .ok (.iload 17, 2) := by decide +kernel
theorem dL_law_392 : decode cL_law 392 = .ok (.iconst 2, 1) := by decide +kernel
theorem dL_law_393 : decode cL_law 393 = .ok (.iadd, 1) := by decide +kernel
theorem dL_law_394 : decode cL_law 394 = .ok (.iload 13, 2) := by decide +kernel
theorem dL_law_396 : decode cL_law 396 = .ok (.iastore, 1) := by decide +kernel
theorem dL_law_397 : decode cL_law 397 = .ok (.aload_n 2, 1) := by decide +kernel
theorem dL_law_398 : decode cL_law 398 = .ok (.iload 17, 2) := by decide +kernel
theorem dL_law_400 : decode cL_law 400 = .ok (.iconst 3, 1) := by decide +kernel
theorem dL_law_401 : decode cL_law 401 = .ok (.iadd, 1) := by decide +kernel
theorem dL_law_402 : decode cL_law 402 = .ok (.iload 12, 2) := by decide +kernel
theorem dL_law_404 : decode cL_law 404 = .ok (.ifCond .eq 7, 3) := by decide +kernel
theorem dL_law_407 : decode cL_law 407 = .ok (.iconst 1, 1) := by decide +kernel
theorem dL_law_408 : decode cL_law 408 = .ok (.goto 4, 3) := by decide +kernel
theorem dL_law_411 : decode cL_law 411 = .ok (.iconst 0, 1) := by decide +kernel
theorem dL_law_412 : decode cL_law 412 = .ok (.iastore, 1) := by decide +kernel
theorem dL_law_413 : decode cL_law 413 = .ok (.aload 4, 2) := by decide +kernel
theorem dL_law_415 : decode cL_law 415 = .ok (.bipush 6, 2) := by decide +kernel
theorem dL_law_417 : decode cL_law 417 = .ok (.dup2, 1) := by decide +kernel
theorem dL_law_418 : decode cL_law 418 = .ok (.iaload, 1) := by decide +kernel
theorem dL_law_419 : decode cL_law 419 = .ok (.iconst 1, 1) := by decide +kernel
theorem dL_law_420 : decode cL_law 420 = .ok (.iadd, 1) := by decide +kernel
theorem dL_law_421 : decode cL_law 421 = .ok (.iastore, 1) := by decide +kernel
theorem dL_law_422 : decode cL_law 422 = .ok (.goto 483, 3) := by decide +kernel
theorem dL_law_425 : decode cL_law 425 = .ok (.iload 8, 2) := by decide +kernel
theorem dL_law_427 : decode cL_law 427 = .ok (.bipush 6, 2) := by decide +kernel
theorem dL_law_429 : decode cL_law 429 = .ok (.if_icmp .ne 116, 3) := by decide +kernel
theorem dL_law_432 : decode cL_law 432 = .ok (.iload 6, 2) := by decide +kernel
theorem dL_law_434 : decode cL_law 434 = .ok (.iconst 4, 1) := by decide +kernel
theorem dL_law_435 : decode cL_law 435 = .ok (.ishr, 1) := by decide +kernel
theorem dL_law_436 : decode cL_law 436 = .ok (.bipush 6, 2) := by decide +kernel
theorem dL_law_438 : decode cL_law 438 = .ok (.invokestatic 55, 3) := by decide +kernel
theorem dL_law_441 : decode cL_law 441 = .ok (.istore 10, 2) := by decide +kernel
theorem dL_law_443 : decode cL_law 443 = .ok (.iload 10, 2) := by decide +kernel
theorem dL_law_445 : decode cL_law 445 = .ok (.aload 4, 2) := by decide +kernel
theorem dL_law_447 : decode cL_law 447 = .ok (.bipush 6, 2) := by decide +kernel
theorem dL_law_449 : decode cL_law 449 = .ok (.iaload, 1) := by decide +kernel
theorem dL_law_450 : decode cL_law 450 = .ok (.if_icmp .ge 7, 3) := by decide +kernel
theorem dL_law_453 : decode cL_law 453 = .ok (.iconst 1, 1) := by decide +kernel
theorem dL_law_454 : decode cL_law 454 = .ok (.goto 4, 3) := by decide +kernel
theorem dL_law_457 : decode cL_law 457 = .ok (.iconst 0, 1) := by decide +kernel
theorem dL_law_458 : decode cL_law 458 = .ok (.istore 11, 2) := by decide +kernel
theorem dL_law_460 : decode cL_law 460 = .ok (.iconst 4, 1) := by decide +kernel
theorem dL_law_461 : decode cL_law 461 = .ok (.iload 10, 2) := by decide +kernel
theorem dL_law_463 : decode cL_law 463 = .ok (.imul, 1) := by decide +kernel
theorem dL_law_464 : decode cL_law 464 = .ok (.istore 12, 2) := by decide +kernel
theorem dL_law_466 : decode cL_law 466 = .ok (.iload 12, 2) := by decide +kernel
theorem dL_law_468 : decode cL_law 468 = .ok (.bipush 20, 2) := by decide +kernel
theorem dL_law_470 : decode cL_law 470 = .ok (.if_icmp .ge 24, 3) := by decide +kernel
theorem dL_law_473 : decode cL_law 473 = .ok (.iload 11, 2) := by decide +kernel
theorem dL_law_475 : decode cL_law 475 = .ok (.ifCond .eq 19, 3) := by decide +kernel
theorem dL_law_478 : decode cL_law 478 = .ok (.aload_n 2, 1) := by decide +kernel
theorem dL_law_479 : decode cL_law 479 = .ok (.iload 12, 2) := by decide +kernel
theorem dL_law_481 : decode cL_law 481 = .ok (.aload_n 2, 1) := by decide +kernel
theorem dL_law_482 : decode cL_law 482 = .ok (.iload 12, 2) := by decide +kernel
theorem dL_law_484 : decode cL_law 484 = .ok (.iconst 4, 1) := by decide +kernel
theorem dL_law_485 : decode cL_law 485 = .ok (.iadd, 1) := by decide +kernel
theorem dL_law_486 : decode cL_law 486 = .ok (.iaload, 1) := by decide +kernel
theorem dL_law_487 : decode cL_law 487 = .ok (.iastore, 1) := by decide +kernel
theorem dL_law_488 : decode cL_law 488 = .ok (.iinc 12 1, 3) := by decide +kernel
theorem dL_law_491 : decode cL_law 491 = .ok (.goto (-25), 3) := by decide +kernel
theorem dL_law_494 : decode cL_law 494 = .ok (.aload 4, 2) := by decide +kernel
theorem dL_law_496 : decode cL_law 496 = .ok (.bipush 6, 2) := by decide +kernel
theorem dL_law_498 : decode cL_law 498 = .ok (.dup2, 1) := by decide +kernel
theorem dL_law_499 : decode cL_law 499 = .ok (.iaload, 1) := by decide +kernel
theorem dL_law_500 : decode cL_law 500 = .ok (.iload 11, 2) := by decide +kernel
theorem dL_law_502 : decode cL_law 502 = .ok (.ifCond .eq 7, 3) := by decide +kernel
theorem dL_law_505 : decode cL_law 505 = .ok (.iconst 1, 1) := by decide +kernel
theorem dL_law_506 : decode cL_law 506 = .ok (.goto 4, 3) := by decide +kernel
theorem dL_law_509 : decode cL_law 509 = .ok (.iconst 0, 1) := by decide +kernel
theorem dL_law_510 : decode cL_law 510 = .ok (.isub, 1) := by decide +kernel
theorem dL_law_511 : decode cL_law 511 = .ok (.iastore, 1) := by decide +kernel
theorem dL_law_512 : decode cL_law 512 = .ok (.aload_n 1, 1) := by decide +kernel
theorem dL_law_513 : decode cL_law 513 = .ok (.iload 10, 2) := by decide +kernel
theorem dL_law_515 : decode cL_law 515 = .ok (.invokevirtual 76, 3) := by decide +kernel
theorem dL_law_518 : decode cL_law 518 = .ok (.iload 11, 2) := by decide +kernel
theorem dL_law_520 : decode cL_law 520 = .ok (.ifCond .eq 11, 3) := by decide +kernel
theorem dL_law_523 : decode cL_law 523 = .ok (.aload 4, 2) := by decide +kernel
theorem dL_law_525 : decode cL_law 525 = .ok (.bipush 6, 2) := by decide +kernel
theorem dL_law_527 : decode cL_law 527 = .ok (.iaload, 1) := by decide +kernel
theorem dL_law_528 : decode cL_law 528 = .ok (.goto 4, 3) := by decide +kernel
theorem dL_law_531 : decode cL_law 531 = .ok (.iconst (-1), 1) := by decide +kernel
theorem dL_law_532 : decode cL_law 532 = .ok (.if_icmp .ne 7, 3) := by decide +kernel
theorem dL_law_535 : decode cL_law 535 = .ok (.iconst 1, 1) := by decide +kernel
theorem dL_law_536 : decode cL_law 536 = .ok (.goto 4, 3) := by decide +kernel
theorem dL_law_539 : decode cL_law 539 = .ok (.iconst 0, 1) := by decide +kernel
theorem dL_law_540 : decode cL_law 540 = .ok (.istore 9, 2) := by decide +kernel
theorem dL_law_542 : decode cL_law 542 = .ok (.goto 363, 3) := by decide +kernel
theorem dL_law_545 : decode cL_law 545 = .ok (.iload 8, 2) := by decide +kernel
theorem dL_law_547 : decode cL_law 547 = .ok (.bipush 7, 2) := by decide +kernel
theorem dL_law_549 : decode cL_law 549 = .ok (.if_icmp .ne 158, 3) := by decide +kernel
theorem dL_law_552 : decode cL_law 552 = .ok (.iconst 0, 1) := by decide +kernel
theorem dL_law_553 : decode cL_law 553 = .ok (.istore 10, 2) := by decide +kernel
theorem dL_law_555 : decode cL_law 555 = .ok (.iconst 0, 1) := by decide +kernel
theorem dL_law_556 : decode cL_law 556 = .ok (.istore 11, 2) := by decide +kernel
theorem dL_law_558 : decode cL_law 558 = .ok (.iload 11, 2) := by decide +kernel
theorem dL_law_560 : decode cL_law 560 = .ok (.aload 4, 2) := by decide +kernel
theorem dL_law_562 : decode cL_law 562 = .ok (.bipush 6, 2) := by decide +kernel
theorem dL_law_564 : decode cL_law 564 = .ok (.iaload, 1) := by decide +kernel
theorem dL_law_565 : decode cL_law 565 = .ok (.if_icmp .ge 116, 3) := by decide +kernel
theorem dL_law_568 : decode cL_law 568 = .ok (.aload_n 2, 1) := by decide +kernel
theorem dL_law_569 : decode cL_law 569 = .ok (.iconst 4, 1) := by decide +kernel
theorem dL_law_570 : decode cL_law 570 = .ok (.iload 11, 2) := by decide +kernel
theorem dL_law_572 : decode cL_law 572 = .ok (.imul, 1) := by decide +kernel
theorem dL_law_573 : decode cL_law 573 = .ok (.iaload, 1) := by decide +kernel
theorem dL_law_574 : decode cL_law 574 = .ok (.aload 4, 2) := by decide +kernel
theorem dL_law_576 : decode cL_law 576 = .ok (.bipush 7, 2) := by decide +kernel
theorem dL_law_578 : decode cL_law 578 = .ok (.iaload, 1) := by decide +kernel
theorem dL_law_579 : decode cL_law 579 = .ok (.aload_n 2, 1) := by decide +kernel
theorem dL_law_580 : decode cL_law 580 = .ok (.iconst 4, 1) := by decide +kernel
theorem dL_law_581 : decode cL_law 581 = .ok (.iload 11, 2) := by decide +kernel
theorem dL_law_583 : decode cL_law 583 = .ok (.imul, 1) := by decide +kernel
theorem dL_law_584 : decode cL_law 584 = .ok (.iconst 2, 1) := by decide +kernel
theorem dL_law_585 : decode cL_law 585 = .ok (.iadd, 1) := by decide +kernel
theorem dL_law_586 : decode cL_law 586 = .ok (.iaload, 1) := by decide +kernel
theorem dL_law_587 : decode cL_law 587 = .ok (.imul, 1) := by decide +kernel
theorem dL_law_588 : decode cL_law 588 = .ok (.iadd, 1) := by decide +kernel
theorem dL_law_589 : decode cL_law 589 = .ok (.istore 12, 2) := by decide +kernel
theorem dL_law_591 : decode cL_law 591 = .ok (.aload_n 2, 1) := by decide +kernel
theorem dL_law_592 : decode cL_law 592 = .ok (.iconst 4, 1) := by decide +kernel
theorem dL_law_593 : decode cL_law 593 = .ok (.iload 11, 2) := by decide +kernel
theorem dL_law_595 : decode cL_law 595 = .ok (.imul, 1) := by decide +kernel
theorem dL_law_596 : decode cL_law 596 = .ok (.iconst 2, 1) := by decide +kernel
theorem dL_law_597 : decode cL_law 597 = .ok (.iadd, 1) := by decide +kernel
theorem dL_law_598 : decode cL_law 598 = .ok (.iaload, 1) := by decide +kernel
theorem dL_law_599 : decode cL_law 599 = .ok (.istore 13, 2) := by decide +kernel
theorem dL_law_601 : decode cL_law 601 = .ok (.aload_n 2, 1) := by decide +kernel
theorem dL_law_602 : decode cL_law 602 = .ok (.iconst 4, 1) := by decide +kernel
theorem dL_law_603 : decode cL_law 603 = .ok (.iload 11, 2) := by decide +kernel
theorem dL_law_605 : decode cL_law 605 = .ok (.imul, 1) := by decide +kernel
theorem dL_law_606 : decode cL_law 606 = .ok (.iconst 1, 1) := by decide +kernel
theorem dL_law_607 : decode cL_law 607 = .ok (.iadd, 1) := by decide +kernel
theorem dL_law_608 : decode cL_law 608 = .ok (.iaload, 1) := by decide +kernel
theorem dL_law_609 : decode cL_law 609 = .ok (.istore 14, 2) := by decide +kernel
theorem dL_law_611 : decode cL_law 611 = .ok (.aload_n 2, 1) := by decide +kernel
theorem dL_law_612 : decode cL_law 612 = .ok (.iconst 4, 1) := by decide +kernel
theorem dL_law_613 : decode cL_law 613 = .ok (.iload 11, 2) := by decide +kernel
theorem dL_law_615 : decode cL_law 615 = .ok (.imul, 1) := by decide +kernel
theorem dL_law_616 : decode cL_law 616 = .ok (.iconst 3, 1) := by decide +kernel
theorem dL_law_617 : decode cL_law 617 = .ok (.iadd, 1) := by decide +kernel
theorem dL_law_618 : decode cL_law 618 = .ok (.iaload, 1) := by decide +kernel
theorem dL_law_619 : decode cL_law 619 = .ok (.istore 15, 2) := by decide +kernel
theorem dL_law_621 : decode cL_law 621 = .ok (.iload 12, 2) := by decide +kernel
theorem dL_law_623 : decode cL_law 623 = .ok (.ifCond .le 52, 3) := by decide +kernel
theorem dL_law_626 : decode cL_law 626 = .ok (.iload 12, 2) := by decide +kernel
theorem dL_law_628 : decode cL_law 628 = .ok (.sipush 301, 3) := by decide +kernel
theorem dL_law_631 : decode cL_law 631 = .ok (.if_icmp .ge 44, 3) := by decide +kernel
theorem dL_law_634 : decode cL_law 634 = .ok (.aload_n 2, 1) := by decide +kernel
theorem dL_law_635 : decode cL_law 635 = .ok (.iconst 4, 1) := by decide +kernel
theorem dL_law_636 : decode cL_law 636 = .ok (.iload 10, 2) := by decide +kernel
theorem dL_law_638 : decode cL_law 638 = .ok (.imul, 1) := by decide +kernel
theorem dL_law_639 : decode cL_law 639 = .ok (.iload 12, 2) := by decide +kernel
theorem dL_law_641 : decode cL_law 641 = .ok (.iastore, 1) := by decide +kernel
theorem dL_law_642 : decode cL_law 642 = .ok (.aload_n 2, 1) := by decide +kernel
theorem dL_law_643 : decode cL_law 643 = .ok (.iconst 4, 1) := by decide +kernel
theorem dL_law_644 : decode cL_law 644 = .ok (.iload 10, 2) := by decide +kernel
theorem dL_law_646 : decode cL_law 646 = .ok (.imul, 1) := by decide +kernel
theorem dL_law_647 : decode cL_law 647 = .ok (.iconst 1, 1) := by decide +kernel
theorem dL_law_648 : decode cL_law 648 = .ok (.iadd, 1) := by decide +kernel
theorem dL_law_649 : decode cL_law 649 = .ok (.iload 14, 2) := by decide +kernel
theorem dL_law_651 : decode cL_law 651 = .ok (.iastore, 1) := by decide +kernel
theorem dL_law_652 : decode cL_law 652 = .ok (.aload_n 2, 1) := by decide +kernel
theorem dL_law_653 : decode cL_law 653 = .ok (.iconst 4, 1) := by decide +kernel
theorem dL_law_654 : decode cL_law 654 = .ok (.iload 10, 2) := by decide +kernel
theorem dL_law_656 : decode cL_law 656 = .ok (.imul, 1) := by decide +kernel
theorem dL_law_657 : decode cL_law 657 = .ok (.iconst 2, 1) := by decide +kernel
theorem dL_law_658 : decode cL_law 658 = .ok (.iadd, 1) := by decide +kernel
theorem dL_law_659 : decode cL_law 659 = .ok (.iload 13, 2) := by decide +kernel
theorem dL_law_661 : decode cL_law 661 = .ok (.iastore, 1) := by decide +kernel
theorem dL_law_662 : decode cL_law 662 = .ok (.aload_n 2, 1) := by decide +kernel
theorem dL_law_663 : decode cL_law 663 = .ok (.iconst 4, 1) := by decide +kernel
theorem dL_law_664 : decode cL_law 664 = .ok (.iload 10, 2) := by decide +kernel
theorem dL_law_666 : decode cL_law 666 = .ok (.imul, 1) := by decide +kernel
theorem dL_law_667 : decode cL_law 667 = .ok (.iconst 3, 1) := by decide +kernel
theorem dL_law_668 : decode cL_law 668 = .ok (.iadd, 1) := by decide +kernel
theorem dL_law_669 : decode cL_law 669 = .ok (.iload 15, 2) := by decide +kernel
theorem dL_law_671 : decode cL_law 671 = .ok (.iastore, 1) := by decide +kernel
theorem dL_law_672 : decode cL_law 672 = .ok (.iinc 10 1, 3) := by decide +kernel
theorem dL_law_675 : decode cL_law 675 = .ok (.iinc 11 1, 3) := by decide +kernel
theorem dL_law_678 : decode cL_law 678 = .ok (.goto (-120), 3) := by decide +kernel
theorem dL_law_681 : decode cL_law 681 = .ok (.aload 4, 2) := by decide +kernel
theorem dL_law_683 : decode cL_law 683 = .ok (.bipush 6, 2) := by decide +kernel
theorem dL_law_685 : decode cL_law 685 = .ok (.iload 10, 2) := by decide +kernel
theorem dL_law_687 : decode cL_law 687 = .ok (.iastore, 1) := by decide +kernel
theorem dL_law_688 : decode cL_law 688 = .ok (.aload_n 1, 1) := by decide +kernel
theorem dL_law_689 : decode cL_law 689 = .ok (.invokevirtual 79, 3) := by decide +kernel
theorem dL_law_692 : decode cL_law 692 = .ok (.iload 10, 2) := by decide +kernel
theorem dL_law_694 : decode cL_law 694 = .ok (.if_icmp .ne 7, 3) := by decide +kernel
theorem dL_law_697 : decode cL_law 697 = .ok (.iconst 1, 1) := by decide +kernel
theorem dL_law_698 : decode cL_law 698 = .ok (.goto 4, 3) := by decide +kernel
theorem dL_law_701 : decode cL_law 701 = .ok (.iconst 0, 1) := by decide +kernel
theorem dL_law_702 : decode cL_law 702 = .ok (.istore 9, 2) := by decide +kernel
theorem dL_law_704 : decode cL_law 704 = .ok (.goto 201, 3) := by decide +kernel
theorem dL_law_707 : decode cL_law 707 = .ok (.iload 8, 2) := by decide +kernel
theorem dL_law_709 : decode cL_law 709 = .ok (.bipush 10, 2) := by decide +kernel
theorem dL_law_711 : decode cL_law 711 = .ok (.if_icmp .ge 106, 3) := by decide +kernel
theorem dL_law_714 : decode cL_law 714 = .ok (.iconst 1, 1) := by decide +kernel
theorem dL_law_715 : decode cL_law 715 = .ok (.iload 6, 2) := by decide +kernel
theorem dL_law_717 : decode cL_law 717 = .ok (.iconst 4, 1) := by decide +kernel
theorem dL_law_718 : decode cL_law 718 = .ok (.ishr, 1) := by decide +kernel
theorem dL_law_719 : decode cL_law 719 = .ok (.iconst 4, 1) := by decide +kernel
theorem dL_law_720 : decode cL_law 720 = .ok (.invokestatic 55, 3) := by decide +kernel
theorem dL_law_723 : decode cL_law 723 = .ok (.iadd, 1) := by decide +kernel
theorem dL_law_724 : decode cL_law 724 = .ok (.istore 10, 2) := by decide +kernel
theorem dL_law_726 : decode cL_law 726 = .ok (.iconst 0, 1) := by decide +kernel
theorem dL_law_727 : decode cL_law 727 = .ok (.istore 11, 2) := by decide +kernel
theorem dL_law_729 : decode cL_law 729 = .ok (.iload 11, 2) := by decide +kernel
theorem dL_law_731 : decode cL_law 731 = .ok (.iconst 4, 1) := by decide +kernel
theorem dL_law_732 : decode cL_law 732 = .ok (.if_icmp .ge 43, 3) := by decide +kernel
theorem dL_law_735 : decode cL_law 735 = .ok (.aload 4, 2) := by decide +kernel
theorem dL_law_737 : decode cL_law 737 = .ok (.iload 11, 2) := by decide +kernel
theorem dL_law_739 : decode cL_law 739 = .ok (.iload 11, 2) := by decide +kernel
theorem dL_law_741 : decode cL_law 741 = .ok (.iload 10, 2) := by decide +kernel
theorem dL_law_743 : decode cL_law 743 = .ok (.if_icmp .ge 24, 3) := by decide +kernel
theorem dL_law_746 : decode cL_law 746 = .ok (.bipush 10, 2) := by decide +kernel
theorem dL_law_748 : decode cL_law 748 = .ok (.iload 6, 2) := by decide +kernel
theorem dL_law_750 : decode cL_law 750 = .ok (.bipush 6, 2) := by decide +kernel
theorem dL_law_752 : decode cL_law 752 = .ok (.iconst 4, 1) := by decide +kernel
theorem dL_law_753 : decode cL_law 753 = .ok (.iload 11, 2) := by decide +kernel
theorem dL_law_755 : decode cL_law 755 = .ok (.imul, 1) := by decide +kernel
theorem dL_law_756 : decode cL_law 756 = .ok (.iadd, 1) := by decide +kernel
theorem dL_law_757 : decode cL_law 757 = .ok (.ishr, 1) := by decide +kernel
theorem dL_law_758 : decode cL_law 758 = .ok (.bipush 41, 2) := by decide +kernel
theorem dL_law_760 : decode cL_law 760 = .ok (.invokestatic 55, 3) := by decide +kernel
theorem dL_law_763 : decode cL_law 763 = .ok (.iadd, 1) := by decide +kernel
theorem dL_law_764 : decode cL_law 764 = .ok (.goto 4, 3) := by decide +kernel
theorem dL_law_767 : decode cL_law 767 = .ok (.iconst 0, 1) := by decide +kernel
theorem dL_law_768 : decode cL_law 768 = .ok (.iastore, 1) := by decide +kernel
theorem dL_law_769 : decode cL_law 769 = .ok (.iinc 11 1, 3) := by decide +kernel
theorem dL_law_772 : decode cL_law 772 = .ok (.goto (-43), 3) := by decide +kernel
theorem dL_law_775 : decode cL_law 775 = .ok (.aload 4, 2) := by decide +kernel
theorem dL_law_777 : decode cL_law 777 = .ok (.bipush 7, 2) := by decide +kernel
theorem dL_law_779 : decode cL_law 779 = .ok (.iload 10, 2) := by decide +kernel
theorem dL_law_781 : decode cL_law 781 = .ok (.iastore, 1) := by decide +kernel
theorem dL_law_782 : decode cL_law 782 = .ok (.aload_n 1, 1) := by decide +kernel
theorem dL_law_783 : decode cL_law 783 = .ok (.aload 4, 2) := by decide +kernel
theorem dL_law_785 : decode cL_law 785 = .ok (.iconst 0, 1) := by decide +kernel
theorem dL_law_786 : decode cL_law 786 = .ok (.iaload, 1) := by decide +kernel
theorem dL_law_787 : decode cL_law 787 = .ok (.aload 4, 2) := by decide +kernel
theorem dL_law_789 : decode cL_law 789 = .ok (.iconst 1, 1) := by decide +kernel
theorem dL_law_790 : decode cL_law 790 = .ok (.iaload, 1) := by decide +kernel
theorem dL_law_791 : decode cL_law 791 = .ok (.aload 4, 2) := by decide +kernel
theorem dL_law_793 : decode cL_law 793 = .ok (.iconst 2, 1) := by decide +kernel
theorem dL_law_794 : decode cL_law 794 = .ok (.iaload, 1) := by decide +kernel
theorem dL_law_795 : decode cL_law 795 = .ok (.aload 4, 2) := by decide +kernel
theorem dL_law_797 : decode cL_law 797 = .ok (.iconst 3, 1) := by decide +kernel
theorem dL_law_798 : decode cL_law 798 = .ok (.iaload, 1) := by decide +kernel
theorem dL_law_799 : decode cL_law 799 = .ok (.invokevirtual 83, 3) := by decide +kernel
theorem dL_law_802 : decode cL_law 802 = .ok (.iload 10, 2) := by decide +kernel
theorem dL_law_804 : decode cL_law 804 = .ok (.if_icmp .ne 7, 3) := by decide +kernel
theorem dL_law_807 : decode cL_law 807 = .ok (.iconst 1, 1) := by decide +kernel
theorem dL_law_808 : decode cL_law 808 = .ok (.goto 4, 3) := by decide +kernel
theorem dL_law_811 : decode cL_law 811 = .ok (.iconst 0, 1) := by decide +kernel
theorem dL_law_812 : decode cL_law 812 = .ok (.istore 9, 2) := by decide +kernel
theorem dL_law_814 : decode cL_law 814 = .ok (.goto 91, 3) := by decide +kernel
theorem dL_law_817 : decode cL_law 817 = .ok (.iload 8, 2) := by decide +kernel
theorem dL_law_819 : decode cL_law 819 = .ok (.bipush 10, 2) := by decide +kernel
theorem dL_law_821 : decode cL_law 821 = .ok (.isub, 1) := by decide +kernel
theorem dL_law_822 : decode cL_law 822 = .ok (.istore 10, 2) := by decide +kernel
theorem dL_law_824 : decode cL_law 824 = .ok (.iload 10, 2) := by decide +kernel
theorem dL_law_826 : decode cL_law 826 = .ok (.ifCond .ne 15, 3) := by decide +kernel
theorem dL_law_829 : decode cL_law 829 = .ok (.iload 6, 2) := by decide +kernel
theorem dL_law_831 : decode cL_law 831 = .ok (.iconst 4, 1) := by decide +kernel
theorem dL_law_832 : decode cL_law 832 = .ok (.ishr, 1) := by decide +kernel
theorem dL_law_833 : decode cL_law 833 = .ok (.bipush 10, 2) := by decide +kernel
theorem dL_law_835 : decode cL_law 835 = .ok (.invokestatic 55, 3) := by decide +kernel
theorem dL_law_838 : decode cL_law 838 = .ok (.goto 31, 3) := by decide +kernel
theorem dL_law_841 : decode cL_law 841 = .ok (.iconst 1, 1) := by decide +kernel
theorem dL_law_842 : decode cL_law 842 = .ok (.iload 6, 2) := by decide +kernel
theorem dL_law_844 : decode cL_law 844 = .ok (.iconst 4, 1) := by decide +kernel
theorem dL_law_845 : decode cL_law 845 = .ok (.ishr, 1) := by decide +kernel
theorem dL_law_846 : decode cL_law 846 = .ok (.iload 6, 2) := by decide +kernel
theorem dL_law_848 : decode cL_law 848 = .ok (.bipush 12, 2) := by decide +kernel
theorem dL_law_850 : decode cL_law 850 = .ok (.ishr, 1) := by decide +kernel
theorem dL_law_851 : decode cL_law 851 = .ok (.iconst 3, 1) := by decide +kernel
theorem dL_law_852 : decode cL_law 852 = .ok (.invokestatic 55, 3) := by decide +kernel
theorem dL_law_855 : decode cL_law 855 = .ok (.ifCond .ne 8, 3) := by decide +kernel
theorem dL_law_858 : decode cL_law 858 = .ok (.bipush 99, 2) := by decide +kernel
theorem dL_law_860 : decode cL_law 860 = .ok (.goto 5, 3) := by decide +kernel
theorem dL_law_863 : decode cL_law 863 = .ok (.bipush 12, 2) := by decide +kernel
theorem dL_law_865 : decode cL_law 865 = .ok (.invokestatic 55, 3) := by decide +kernel
theorem dL_law_868 : decode cL_law 868 = .ok (.iadd, 1) := by decide +kernel
theorem dL_law_869 : decode cL_law 869 = .ok (.istore 11, 2) := by decide +kernel
theorem dL_law_871 : decode cL_law 871 = .ok (.aload_n 1, 1) := by decide +kernel
theorem dL_law_872 : decode cL_law 872 = .ok (.iload 10, 2) := by decide +kernel
theorem dL_law_874 : decode cL_law 874 = .ok (.iload 11, 2) := by decide +kernel
theorem dL_law_876 : decode cL_law 876 = .ok (.invokevirtual 87, 3) := by decide +kernel
theorem dL_law_879 : decode cL_law 879 = .ok (.aload 4, 2) := by decide +kernel
theorem dL_law_881 : decode cL_law 881 = .ok (.iconst 4, 1) := by decide +kernel
theorem dL_law_882 : decode cL_law 882 = .ok (.iload 10, 2) := by decide +kernel
theorem dL_law_884 : decode cL_law 884 = .ok (.iadd, 1) := by decide +kernel
theorem dL_law_885 : decode cL_law 885 = .ok (.iaload, 1) := by decide +kernel
theorem dL_law_886 : decode cL_law 886 = .ok (.if_icmp .ne 7, 3) := by decide +kernel
theorem dL_law_889 : decode cL_law 889 = .ok (.iconst 1, 1) := by decide +kernel
theorem dL_law_890 : decode cL_law 890 = .ok (.goto 4, 3) := by decide +kernel
theorem dL_law_893 : decode cL_law 893 = .ok (.iconst 0, 1) := by decide +kernel
theorem dL_law_894 : decode cL_law 894 = .ok (.istore 9, 2) := by decide +kernel
theorem dL_law_896 : decode cL_law 896 = .ok (.aload 4, 2) := by decide +kernel
theorem dL_law_898 : decode cL_law 898 = .ok (.iconst 4, 1) := by decide +kernel
theorem dL_law_899 : decode cL_law 899 = .ok (.iload 10, 2) := by decide +kernel
theorem dL_law_901 : decode cL_law 901 = .ok (.iadd, 1) := by decide +kernel
theorem dL_law_902 : decode cL_law 902 = .ok (.iload 11, 2) := by decide +kernel
theorem dL_law_904 : decode cL_law 904 = .ok (.iastore, 1) := by decide +kernel
theorem dL_law_905 : decode cL_law 905 = .ok (.aload_n 2, 1) := by decide +kernel
theorem dL_law_906 : decode cL_law 906 = .ok (.aload_n 3, 1) := by decide +kernel
theorem dL_law_907 : decode cL_law 907 = .ok (.aload 4, 2) := by decide +kernel
theorem dL_law_909 : decode cL_law 909 = .ok (.invokestatic 90, 3) := by decide +kernel
theorem dL_law_912 : decode cL_law 912 = .ok (.iload 9, 2) := by decide +kernel
theorem dL_law_914 : decode cL_law 914 = .ok (.ifCond .eq 38, 3) := by decide +kernel
theorem dL_law_917 : decode cL_law 917 = .ok (.aload_n 1, 1) := by decide +kernel
theorem dL_law_918 : decode cL_law 918 = .ok (.aload_n 2, 1) := by decide +kernel
theorem dL_law_919 : decode cL_law 919 = .ok (.aload_n 3, 1) := by decide +kernel
theorem dL_law_920 : decode cL_law 920 = .ok (.aload 4, 2) := by decide +kernel
theorem dL_law_922 : decode cL_law 922 = .ok (.invokestatic 94, 3) := by decide +kernel
theorem dL_law_925 : decode cL_law 925 = .ok (.ifCond .eq 27, 3) := by decide +kernel
theorem dL_law_928 : decode cL_law 928 = .ok (.aload_n 1, 1) := by decide +kernel
theorem dL_law_929 : decode cL_law 929 = .ok (.aload_n 3, 1) := by decide +kernel
theorem dL_law_930 : decode cL_law 930 = .ok (.aload 4, 2) := by decide +kernel
theorem dL_law_932 : decode cL_law 932 = .ok (.invokestatic 98, 3) := by decide +kernel
theorem dL_law_935 : decode cL_law 935 = .ok (.ifCond .eq 17, 3) := by decide +kernel
theorem dL_law_938 : decode cL_law 938 = .ok (.aload_n 1, 1) := by decide +kernel
theorem dL_law_939 : decode cL_law 939 = .ok (.aload 4, 2) := by decide +kernel
theorem dL_law_941 : decode cL_law 941 = .ok (.iload 7, 2) := by decide +kernel
theorem dL_law_943 : decode cL_law 943 = .ok (.bipush 8, 2) := by decide +kernel
theorem dL_law_945 : decode cL_law 945 = .ok (.ishr, 1) := by decide +kernel
theorem dL_law_946 : decode cL_law 946 = .ok (.invokestatic 102, 3) := by decide +kernel
theorem dL_law_949 : decode cL_law 949 = .ok (.ifCond .ne 5, 3) := by decide +kernel
theorem dL_law_952 : decode cL_law 952 = .ok (.iconst 0, 1) := by decide +kernel
theorem dL_law_953 : decode cL_law 953 = .ok (.ireturn, 1) := by decide +kernel
theorem dL_law_954 : decode cL_law 954 = .ok (.iconst 0, 1) := by decide +kernel
theorem dL_law_955 : decode cL_law 955 = .ok (.istore 10, 2) := by decide +kernel
theorem dL_law_957 : decode cL_law 957 = .ok (.iload 10, 2) := by decide +kernel
theorem dL_law_959 : decode cL_law 959 = .ok (.iconst 4, 1) := by decide +kernel
theorem dL_law_960 : decode cL_law 960 = .ok (.if_icmp .ge 109, 3) := by decide +kernel
theorem dL_law_963 : decode cL_law 963 = .ok (.aload_n 0, 1) := by decide +kernel
theorem dL_law_964 : decode cL_law 964 = .ok (.bipush 60, 2) := by decide +kernel
theorem dL_law_966 : decode cL_law 966 = .ok (.iconst 4, 1) := by decide +kernel
theorem dL_law_967 : decode cL_law 967 = .ok (.iload 5, 2) := by decide +kernel
theorem dL_law_969 : decode cL_law 969 = .ok (.imul, 1) := by decide +kernel
theorem dL_law_970 : decode cL_law 970 = .ok (.iadd, 1) := by decide +kernel
theorem dL_law_971 : decode cL_law 971 = .ok (.iload 10, 2) := by decide +kernel
theorem dL_law_973 : decode cL_law 973 = .ok (.iadd, 1) := by decide +kernel
theorem dL_law_974 : decode cL_law 974 = .ok (.invokestatic 65, 3) := by decide +kernel
theorem dL_law_977 : decode cL_law 977 = .ok (.istore 11, 2) := by decide +kernel
theorem dL_law_979 : decode cL_law 979 = .ok (.iconst 1, 1) := by decide +kernel
theorem dL_law_980 : decode cL_law 980 = .ok (.iload 11, 2) := by decide +kernel
theorem dL_law_982 : decode cL_law 982 = .ok (.sipush 600, 3) := by decide +kernel
theorem dL_law_985 : decode cL_law 985 = .ok (.invokestatic 55, 3) := by decide +kernel
theorem dL_law_988 : decode cL_law 988 = .ok (.iadd, 1) := by decide +kernel
theorem dL_law_989 : decode cL_law 989 = .ok (.istore 12, 2) := by decide +kernel
theorem dL_law_991 : decode cL_law 991 = .ok (.iload 11, 2) := by decide +kernel
theorem dL_law_993 : decode cL_law 993 = .ok (.bipush 10, 2) := by decide +kernel
theorem dL_law_995 : decode cL_law 995 = .ok (.ishr, 1) := by decide +kernel
theorem dL_law_996 : decode cL_law 996 = .ok (.iconst 2, 1) := by decide +kernel
theorem dL_law_997 : decode cL_law 997 = .ok (.invokestatic 55, 3) := by decide +kernel
theorem dL_law_1000 : decode cL_law 1000 = .ok (.ifCond .ne 7, 3) := by decide +kernel
theorem dL_law_1003 : decode cL_law 1003 = .ok (.iconst 0, 1) := by decide +kernel
theorem dL_law_1004 : decode cL_law 1004 = .ok (.goto 15, 3) := by decide +kernel
theorem dL_law_1007 : decode cL_law 1007 = .ok (.iload 11, 2) := by decide +kernel
theorem dL_law_1009 : decode cL_law 1009 = .ok (.bipush 11, 2) := by decide +kernel
theorem dL_law_1011 : decode cL_law 1011 = .ok (.ishr, 1) := by decide +kernel
theorem dL_law_1012 : decode cL_law 1012 = .ok (.bipush 11, 2) := by decide +kernel
theorem dL_law_1014 : decode cL_law 1014 = .ok (.invokestatic 55, 3) := by decide +kernel
theorem dL_law_1017 : decode cL_law 1017 = .ok (.iconst 5, 1) := by decide +kernel
theorem dL_law_1018 : decode cL_law 1018 = .ok (.isub, 1) := by decide +kernel
theorem dL_law_1019 : decode cL_law 1019 = .ok (.istore 13, 2) := by decide +kernel
theorem dL_law_1021 : decode cL_law 1021 = .ok (.iload 11, 2) := by decide +kernel
theorem dL_law_1023 : decode cL_law 1023 = .ok (.bipush 16, 2) := by decide +kernel
theorem dL_law_1025 : decode cL_law 1025 = .ok (.ishr, 1) := by decide +kernel
theorem dL_law_1026 : decode cL_law 1026 = .ok (.aload 4, 2) := by decide +kernel
theorem dL_law_1028 : decode cL_law 1028 = .ok (.bipush 7, 2) := by decide +kernel
theorem dL_law_1030 : decode cL_law 1030 = .ok (.iaload, 1) := by decide +kernel
theorem dL_law_1031 : decode cL_law 1031 = .ok (.invokestatic 55, 3) := by decide +kernel
theorem dL_law_1034 : decode cL_law 1034 = .ok (.istore 14, 2) := by decide +kernel
theorem dL_law_1036 : decode cL_law 1036 = .ok (.aload_n 1, 1) := by decide +kernel
theorem dL_law_1037 : decode cL_law 1037 = .ok (.iload 12, 2) := by decide +kernel
theorem dL_law_1039 : decode cL_law 1039 = .ok (.iload 13, 2) := by decide +kernel
theorem dL_law_1041 : decode cL_law 1041 = .ok (.iload 14, 2) := by decide +kernel
theorem dL_law_1043 : decode cL_law 1043 = .ok (.invokevirtual 106, 3) := by decide +kernel
theorem dL_law_1046 : decode cL_law 1046 = .ok (.aload_n 3, 1) := by decide +kernel
theorem dL_law_1047 : decode cL_law 1047 = .ok (.aload 4, 2) := by decide +kernel
theorem dL_law_1049 : decode cL_law 1049 = .ok (.iload 12, 2) := by decide +kernel
theorem dL_law_1051 : decode cL_law 1051 = .ok (.iload 13, 2) := by decide +kernel
theorem dL_law_1053 : decode cL_law 1053 = .ok (.iload 14, 2) := by decide +kernel
theorem dL_law_1055 : decode cL_law 1055 = .ok (.invokestatic 20, 3) := by decide +kernel
theorem dL_law_1058 : decode cL_law 1058 = .ok (.if_icmp .eq 5, 3) := by decide +kernel
theorem dL_law_1061 : decode cL_law 1061 = .ok (.iconst 0, 1) := by decide +kernel
theorem dL_law_1062 : decode cL_law 1062 = .ok (.ireturn, 1) := by decide +kernel
theorem dL_law_1063 : decode cL_law 1063 = .ok (.iinc 10 1, 3) := by decide +kernel
theorem dL_law_1066 : decode cL_law 1066 = .ok (.goto (-109), 3) := by decide +kernel
theorem dL_law_1069 : decode cL_law 1069 = .ok (.iload 5, 2) := by decide +kernel
theorem dL_law_1071 : decode cL_law 1071 = .ok (.bipush 6, 2) := by decide +kernel
theorem dL_law_1073 : decode cL_law 1073 = .ok (.irem, 1) := by decide +kernel
theorem dL_law_1074 : decode cL_law 1074 = .ok (.iconst 5, 1) := by decide +kernel
theorem dL_law_1075 : decode cL_law 1075 = .ok (.if_icmp .ne 15, 3) := by decide +kernel
theorem dL_law_1078 : decode cL_law 1078 = .ok (.aload_n 1, 1) := by decide +kernel
theorem dL_law_1079 : decode cL_law 1079 = .ok (.aload_n 3, 1) := by decide +kernel
theorem dL_law_1080 : decode cL_law 1080 = .ok (.aload 4, 2) := by decide +kernel
theorem dL_law_1082 : decode cL_law 1082 = .ok (.invokestatic 109, 3) := by decide +kernel
theorem dL_law_1085 : decode cL_law 1085 = .ok (.ifCond .ne 5, 3) := by decide +kernel
theorem dL_law_1088 : decode cL_law 1088 = .ok (.iconst 0, 1) := by decide +kernel
theorem dL_law_1089 : decode cL_law 1089 = .ok (.ireturn, 1) := by decide +kernel
theorem dL_law_1090 : decode cL_law 1090 = .ok (.iload 5, 2) := by decide +kernel
theorem dL_law_1092 : decode cL_law 1092 = .ok (.bipush 8, 2) := by decide +kernel
theorem dL_law_1094 : decode cL_law 1094 = .ok (.irem, 1) := by decide +kernel
theorem dL_law_1095 : decode cL_law 1095 = .ok (.bipush 7, 2) := by decide +kernel
theorem dL_law_1097 : decode cL_law 1097 = .ok (.if_icmp .ne 260, 3) := by decide +kernel
theorem dL_law_1100 : decode cL_law 1100 = .ok (.aload 4, 2) := by decide +kernel
theorem dL_law_1102 : decode cL_law 1102 = .ok (.bipush 7, 2) := by decide +kernel
theorem dL_law_1104 : decode cL_law 1104 = .ok (.iaload, 1) := by decide +kernel
theorem dL_law_1105 : decode cL_law 1105 = .ok (.iconst 4, 1) := by decide +kernel
theorem dL_law_1106 : decode cL_law 1106 = .ok (.if_icmp .ge 251, 3) := by decide +kernel
theorem dL_law_1109 : decode cL_law 1109 = .ok (.bipush 10, 2) := by decide +kernel
theorem dL_law_1111 : decode cL_law 1111 = .ok (.iload 7, 2) := by decide +kernel
theorem dL_law_1113 : decode cL_law 1113 = .ok (.bipush 41, 2) := by decide +kernel
theorem dL_law_1115 : decode cL_law 1115 = .ok (.invokestatic 55, 3) := by decide +kernel
theorem dL_law_1118 : decode cL_law 1118 = .ok (.iadd, 1) := by decide +kernel
theorem dL_law_1119 : decode cL_law 1119 = .ok (.istore 10, 2) := by decide +kernel
theorem dL_law_1121 : decode cL_law 1121 = .ok (.aload 4, 2) := by decide +kernel
theorem dL_law_1123 : decode cL_law 1123 = .ok (.aload 4, 2) := by decide +kernel
theorem dL_law_1125 : decode cL_law 1125 = .ok (.bipush 7, 2) := by decide +kernel
theorem dL_law_1127 : decode cL_law 1127 = .ok (.iaload, 1) := by decide +kernel
theorem dL_law_1128 : decode cL_law 1128 = .ok (.iload 10, 2) := by decide +kernel
theorem dL_law_1130 : decode cL_law 1130 = .ok (.iastore, 1) := by decide +kernel
theorem dL_law_1131 : decode cL_law 1131 = .ok (.aload 4, 2) := by decide +kernel
theorem dL_law_1133 : decode cL_law 1133 = .ok (.bipush 7, 2) := by decide +kernel
theorem dL_law_1135 : decode cL_law 1135 = .ok (.dup2, 1) := by decide +kernel
theorem dL_law_1136 : decode cL_law 1136 = .ok (.iaload, 1) := by decide +kernel
theorem dL_law_1137 : decode cL_law 1137 = .ok (.iconst 1, 1) := by decide +kernel
theorem dL_law_1138 : decode cL_law 1138 = .ok (.iadd, 1) := by decide +kernel
theorem dL_law_1139 : decode cL_law 1139 = .ok (.iastore, 1) := by decide +kernel
theorem dL_law_1140 : decode cL_law 1140 = .ok (.iconst 0, 1) := by decide +kernel
theorem dL_law_1141 : decode cL_law 1141 = .ok (.istore 11, 2) := by decide +kernel
theorem dL_law_1143 : decode cL_law 1143 = .ok (.iconst 0, 1) := by decide +kernel
theorem dL_law_1144 : decode cL_law 1144 = .ok (.istore 12, 2) := by decide +kernel
theorem dL_law_1146 : decode cL_law 1146 = .ok (.iconst 0, 1) := by decide +kernel
theorem dL_law_1147 : decode cL_law 1147 = .ok (.istore 13, 2) := by decide +kernel
theorem dL_law_1149 : decode cL_law 1149 = .ok (.iconst 0, 1) := by decide +kernel
theorem dL_law_1150 : decode cL_law 1150 = .ok (.istore 14, 2) := by decide +kernel
theorem dL_law_1152 : decode cL_law 1152 = .ok (.iload 14, 2) := by decide +kernel
theorem dL_law_1154 : decode cL_law 1154 = .ok (.sipush 6600, 3) := by decide +kernel
theorem dL_law_1157 : decode cL_law 1157 = .ok (.if_icmp .ge 92, 3) := by decide +kernel
theorem dL_law_1160 : decode cL_law 1160 = .ok (.aload_n 3, 1) := by decide +kernel
theorem dL_law_1161 : decode cL_law 1161 = .ok (.aload 4, 2) := by decide +kernel
theorem dL_law_1163 : decode cL_law 1163 = .ok (.iconst 1, 1) := by decide +kernel
theorem dL_law_1164 : decode cL_law 1164 = .ok (.iload 14, 2) := by decide +kernel
theorem dL_law_1166 : decode cL_law 1166 = .ok (.bipush 11, 2) := by decide +kernel
theorem dL_law_1168 : decode cL_law 1168 = .ok (.idiv, 1) := by decide +kernel
theorem dL_law_1169 : decode cL_law 1169 = .ok (.iadd, 1) := by decide +kernel
theorem dL_law_1170 : decode cL_law 1170 = .ok (.iload 14, 2) := by decide +kernel
theorem dL_law_1172 : decode cL_law 1172 = .ok (.bipush 11, 2) := by decide +kernel
theorem dL_law_1174 : decode cL_law 1174 = .ok (.irem, 1) := by decide +kernel
theorem dL_law_1175 : decode cL_law 1175 = .ok (.iconst 5, 1) := by decide +kernel
theorem dL_law_1176 : decode cL_law 1176 = .ok (.isub, 1) := by decide +kernel
theorem dL_law_1177 : decode cL_law 1177 = .ok (.invokestatic 33, 3) := by decide +kernel
theorem dL_law_1180 : decode cL_law 1180 = .ok (.ifCond .le 7, 3) := by decide +kernel
theorem dL_law_1183 : decode cL_law 1183 = .ok (.iconst 1, 1) := by decide +kernel
theorem dL_law_1184 : decode cL_law 1184 = .ok (.goto 4, 3) := by decide +kernel
theorem dL_law_1187 : decode cL_law 1187 = .ok (.iconst 0, 1) := by decide +kernel
theorem dL_law_1188 : decode cL_law 1188 = .ok (.istore 15, 2) := by decide +kernel
theorem dL_law_1190 : decode cL_law 1190 = .ok (.iload 11, 2) := by decide +kernel
theorem dL_law_1192 : decode cL_law 1192 = .ok (.iload 15, 2) := by decide +kernel
theorem dL_law_1194 : decode cL_law 1194 = .ok (.ifCond .eq 7, 3) := by decide +kernel
theorem dL_law_1197 : decode cL_law 1197 = .ok (.iconst 1, 1) := by decide +kernel
theorem dL_law_1198 : decode cL_law 1198 = .ok (.goto 4, 3) := by decide +kernel
theorem dL_law_1201 : decode cL_law 1201 = .ok (.iconst 0, 1) := by decide +kernel
theorem dL_law_1202 : decode cL_law 1202 = .ok (.iadd, 1) := by decide +kernel
theorem dL_law_1203 : decode cL_law 1203 = .ok (.istore 11, 2) := by decide +kernel
theorem dL_law_1205 : decode cL_law 1205 = .ok (.iload 12, 2) := by decide +kernel
theorem dL_law_1207 : decode cL_law 1207 = .ok (.iload 15, 2) := by decide +kernel
theorem dL_law_1209 : decode cL_law 1209 = .ok (.ifCond .eq 30, 3) := by decide +kernel
theorem dL_law_1212 : decode cL_law 1212 = .ok (.aload_n 3, 1) := by decide +kernel
theorem dL_law_1213 : decode cL_law 1213 = .ok (.aload 4, 2) := by decide +kernel
theorem dL_law_1215 : decode cL_law 1215 = .ok (.iconst 1, 1) := by decide +kernel
theorem dL_law_1216 : decode cL_law 1216 = .ok (.iload 14, 2) := by decide +kernel
theorem dL_law_1218 : decode cL_law 1218 = .ok (.bipush 11, 2) := by decide +kernel
theorem dL_law_1220 : decode cL_law 1220 = .ok (.idiv, 1) := by decide +kernel
theorem dL_law_1221 : decode cL_law 1221 = .ok (.iadd, 1) := by decide +kernel
theorem dL_law_1222 : decode cL_law 1222 = .ok (.iload 14, 2) := by decide +kernel
theorem dL_law_1224 : decode cL_law 1224 = .ok (.bipush 11, 2) := by decide +kernel
theorem dL_law_1226 : decode cL_law 1226 = .ok (.irem, 1) := by decide +kernel
theorem dL_law_1227 : decode cL_law 1227 = .ok (.iconst 5, 1) := by decide +kernel
theorem dL_law_1228 : decode cL_law 1228 = .ok (.isub, 1) := by decide +kernel
theorem dL_law_1229 : decode cL_law 1229 = .ok (.invokestatic 45, 3) := by decide +kernel
theorem dL_law_1232 : decode cL_law 1232 = .ok (.ifCond .ne 7, 3) := by decide +kernel
theorem dL_law_1235 : decode cL_law 1235 = .ok (.iconst 1, 1) := by decide +kernel
theorem dL_law_1236 : decode cL_law 1236 = .ok (.goto 4, 3) := by decide +kernel
theorem dL_law_1239 : decode cL_law 1239 = .ok (.iconst 0, 1) := by decide +kernel
theorem dL_law_1240 : decode cL_law 1240 = .ok (.iadd, 1) := by decide +kernel
theorem dL_law_1241 : decode cL_law 1241 = .ok (.istore 12, 2) := by decide +kernel
theorem dL_law_1243 : decode cL_law 1243 = .ok (.iinc 14 1, 3) := by decide +kernel
theorem dL_law_1246 : decode cL_law 1246 = .ok (.goto (-94), 3) := by decide +kernel
theorem dL_law_1249 : decode cL_law 1249 = .ok (.iconst 0, 1) := by decide +kernel
theorem dL_law_1250 : decode cL_law 1250 = .ok (.istore 14, 2) := by decide +kernel
theorem dL_law_1252 : decode cL_law 1252 = .ok (.iload 14, 2) := by decide +kernel
theorem dL_law_1254 : decode cL_law 1254 = .ok (.aload 4, 2) := by decide +kernel
theorem dL_law_1256 : decode cL_law 1256 = .ok (.bipush 8, 2) := by decide +kernel
theorem dL_law_1258 : decode cL_law 1258 = .ok (.iaload, 1) := by decide +kernel
theorem dL_law_1259 : decode cL_law 1259 = .ok (.if_icmp .ge 42, 3) := by decide +kernel
theorem dL_law_1262 : decode cL_law 1262 = .ok (.iload 13, 2) := by decide +kernel
theorem dL_law_1264 : decode cL_law 1264 = .ok (.aload_n 3, 1) := by decide +kernel
theorem dL_law_1265 : decode cL_law 1265 = .ok (.aload 4, 2) := by decide +kernel
theorem dL_law_1267 : decode cL_law 1267 = .ok (.aload_n 3, 1) := by decide +kernel
theorem dL_law_1268 : decode cL_law 1268 = .ok (.iconst 3, 1) := by decide +kernel
theorem dL_law_1269 : decode cL_law 1269 = .ok (.iload 14, 2) := by decide +kernel
theorem dL_law_1271 : decode cL_law 1271 = .ok (.imul, 1) := by decide +kernel
theorem dL_law_1272 : decode cL_law 1272 = .ok (.iaload, 1) := by decide +kernel
theorem dL_law_1273 : decode cL_law 1273 = .ok (.aload_n 3, 1) := by decide +kernel
theorem dL_law_1274 : decode cL_law 1274 = .ok (.iconst 3, 1) := by decide +kernel
theorem dL_law_1275 : decode cL_law 1275 = .ok (.iload 14, 2) := by decide +kernel
theorem dL_law_1277 : decode cL_law 1277 = .ok (.imul, 1) := by decide +kernel
theorem dL_law_1278 : decode cL_law 1278 = .ok (.iconst 2, 1) := by decide +kernel
theorem dL_law_1279 : decode cL_law 1279 = .ok (.iadd, 1) := by decide +kernel
theorem dL_law_1280 : decode cL_law 1280 = .ok (.iaload, 1) := by decide +kernel
theorem dL_law_1281 : decode cL_law 1281 = .ok (.invokestatic 33, 3) := by decide +kernel
theorem dL_law_1284 : decode cL_law 1284 = .ok (.ifCond .le 7, 3) := by decide +kernel
theorem dL_law_1287 : decode cL_law 1287 = .ok (.iconst 0, 1) := by decide +kernel
theorem dL_law_1288 : decode cL_law 1288 = .ok (.goto 4, 3) := by decide +kernel
theorem dL_law_1291 : decode cL_law 1291 = .ok (.iconst 1, 1) := by decide +kernel
theorem dL_law_1292 : decode cL_law 1292 = .ok (.iadd, 1) := by decide +kernel
theorem dL_law_1293 : decode cL_law 1293 = .ok (.istore 13, 2) := by decide +kernel
theorem dL_law_1295 : decode cL_law 1295 = .ok (.iinc 14 1, 3) := by decide +kernel
theorem dL_law_1298 : decode cL_law 1298 = .ok (.goto (-46), 3) := by decide +kernel
theorem dL_law_1301 : decode cL_law 1301 = .ok (.aload 4, 2) := by decide +kernel
theorem dL_law_1303 : decode cL_law 1303 = .ok (.bipush 7, 2) := by decide +kernel
theorem dL_law_1305 : decode cL_law 1305 = .ok (.dup2, 1) := by decide +kernel
theorem dL_law_1306 : decode cL_law 1306 = .ok (.iaload, 1) := by decide +kernel
theorem dL_law_1307 : decode cL_law 1307 = .ok (.iconst 1, 1) := by decide +kernel
theorem dL_law_1308 : decode cL_law 1308 = .ok (.isub, 1) := by decide +kernel
theorem dL_law_1309 : decode cL_law 1309 = .ok (.iastore, 1) := by decide +kernel
theorem dL_law_1310 : decode cL_law 1310 = .ok (.aload 4, 2) := by decide +kernel
theorem dL_law_1312 : decode cL_law 1312 = .ok (.aload 4, 2) := by decide +kernel
theorem dL_law_1314 : decode cL_law 1314 = .ok (.bipush 7, 2) := by decide +kernel
theorem dL_law_1316 : decode cL_law 1316 = .ok (.iaload, 1) := by decide +kernel
theorem dL_law_1317 : decode cL_law 1317 = .ok (.iconst 0, 1) := by decide +kernel
theorem dL_law_1318 : decode cL_law 1318 = .ok (.iastore, 1) := by decide +kernel
theorem dL_law_1319 : decode cL_law 1319 = .ok (.aload_n 1, 1) := by decide +kernel
theorem dL_law_1320 : decode cL_law 1320 = .ok (.iload 10, 2) := by decide +kernel
theorem dL_law_1322 : decode cL_law 1322 = .ok (.iconst 0, 1) := by decide +kernel
theorem dL_law_1323 : decode cL_law 1323 = .ok (.invokevirtual 112, 3) := by decide +kernel
theorem dL_law_1326 : decode cL_law 1326 = .ok (.iload 11, 2) := by decide +kernel
theorem dL_law_1328 : decode cL_law 1328 = .ok (.if_icmp .ne 27, 3) := by decide +kernel
theorem dL_law_1331 : decode cL_law 1331 = .ok (.aload_n 1, 1) := by decide +kernel
theorem dL_law_1332 : decode cL_law 1332 = .ok (.iload 10, 2) := by decide +kernel
theorem dL_law_1334 : decode cL_law 1334 = .ok (.iconst 1, 1) := by decide +kernel
theorem dL_law_1335 : decode cL_law 1335 = .ok (.invokevirtual 112, 3) := by decide +kernel
theorem dL_law_1338 : decode cL_law 1338 = .ok (.iload 12, 2) := by decide +kernel
theorem dL_law_1340 : decode cL_law 1340 = .ok (.if_icmp .ne 15, 3) := by decide +kernel
theorem dL_law_1343 : decode cL_law 1343 = .ok (.aload_n 1, 1) := by decide +kernel
theorem dL_law_1344 : decode cL_law 1344 = .ok (.iload 10, 2) := by decide +kernel
theorem dL_law_1346 : decode cL_law 1346 = .ok (.iconst 2, 1) := by decide +kernel
theorem dL_law_1347 : decode cL_law 1347 = .ok (.invokevirtual 112, 3) := by decide +kernel
theorem dL_law_1350 : decode cL_law 1350 = .ok (.iload 13, 2) := by decide +kernel
theorem dL_law_1352 : decode cL_law 1352 = .ok (.if_icmp .eq 5, 3) := by decide +kernel
theorem dL_law_1355 : decode cL_law 1355 = .ok (.iconst 0, 1) := by decide +kernel
theorem dL_law_1356 : decode cL_law 1356 = .ok (.ireturn, 1) := by decide +kernel
theorem dL_law_1357 : decode cL_law 1357 = .ok (.iinc 5 1, 3) := by decide +kernel
theorem dL_law_1360 : decode cL_law 1360 = .ok (.goto (-1316), 3) := by decide +kernel
theorem dL_law_1363 : decode cL_law 1363 = .ok (.iconst 1, 1) := by decide +kernel
theorem dL_law_1364 : decode cL_law 1364 = .ok (.ireturn, 1) := by decide +kernel
