/-! the law itself, from behind speak on (by program) -/
theorem dL_law_0 : decode code 0 = .ok (.new 20, 3) := by decide +kernel
theorem dL_law_3 : decode code 3 = .ok (.dup, 1) := by decide +kernel
theorem dL_law_4 : decode code 4 = .ok (.invokespecial 51, 3) := by decide +kernel
theorem dL_law_7 : decode code 7 = .ok (.astore_n 1, 1) := by decide +kernel
theorem dL_law_8 : decode code 8 = .ok (.aload_n 1, 1) := by decide +kernel
theorem dL_law_9 : decode code 9 = .ok (.aload_n 0, 1) := by decide +kernel
theorem dL_law_10 : decode code 10 = .ok (.iconst 0, 1) := by decide +kernel
theorem dL_law_11 : decode code 11 = .ok (.bipush 12, 2) := by decide +kernel
theorem dL_law_13 : decode code 13 = .ok (.bipush 112, 2) := by decide +kernel
theorem dL_law_15 : decode code 15 = .ok (.newarray .int, 2) := by decide +kernel
theorem dL_law_17 : decode code 17 = .ok (.bipush 12, 2) := by decide +kernel
theorem dL_law_19 : decode code 19 = .ok (.newarray .int, 2) := by decide +kernel
theorem dL_law_21 : decode code 21 = .ok (.invokestatic 52, 3) := by decide +kernel
theorem dL_law_24 : decode code 24 = .ok (.istore_n 2, 1) := by decide +kernel
theorem dL_law_25 : decode code 25 = .ok (.iload_n 2, 1) := by decide +kernel
theorem dL_law_26 : decode code 26 = .ok (.ifCond .ge 5, 3) := by decide +kernel
theorem dL_law_29 : decode code 29 = .ok (.iconst 0, 1) := by decide +kernel
theorem dL_law_30 : decode code 30 = .ok (.ireturn, 1) := by decide +kernel
theorem dL_law_31 : decode code 31 = .ok (.sipush 256, 3) := by decide +kernel
theorem dL_law_34 : decode code 34 = .ok (.newarray .int, 2) := by decide +kernel
theorem dL_law_36 : decode code 36 = .ok (.astore_n 3, 1) := by decide +kernel
theorem dL_law_37 : decode code 37 = .ok (.aload_n 1, 1) := by decide +kernel
theorem dL_law_38 : decode code 38 = .ok (.aload_n 0, 1) := by decide +kernel
theorem dL_law_39 : decode code 39 = .ok (.bipush 11, 2) := by decide +kernel
theorem dL_law_41 : decode code 41 = .ok (.iload_n 2, 1) := by decide +kernel
theorem dL_law_42 : decode code 42 = .ok (.aload_n 3, 1) := by decide +kernel
theorem dL_law_43 : decode code 43 = .ok (.invokestatic 56, 3) := by decide +kernel
theorem dL_law_46 : decode code 46 = .ok (.ifCond .ne 5, 3) := by decide +kernel
theorem dL_law_49 : decode code 49 = .ok (.iconst 0, 1) := by decide +kernel
theorem dL_law_50 : decode code 50 = .ok (.ireturn, 1) := by decide +kernel
theorem dL_law_51 : decode code 51 = .ok (.iconst 1, 1) := by decide +kernel
theorem dL_law_52 : decode code 52 = .ok (.aload_n 0, 1) := by decide +kernel
theorem dL_law_53 : decode code 53 = .ok (.bipush 10, 2) := by decide +kernel
theorem dL_law_55 : decode code 55 = .ok (.invokestatic 9, 3) := by decide +kernel
theorem dL_law_58 : decode code 58 = .ok (.bipush 30, 2) := by decide +kernel
theorem dL_law_60 : decode code 60 = .ok (.invokestatic 15, 3) := by decide +kernel
theorem dL_law_63 : decode code 63 = .ok (.iadd, 1) := by decide +kernel
theorem dL_law_64 : decode code 64 = .ok (.istore 4, 2) := by decide +kernel
theorem dL_law_66 : decode code 66 = .ok (.aload_n 1, 1) := by decide +kernel
theorem dL_law_67 : decode code 67 = .ok (.iload 4, 2) := by decide +kernel
theorem dL_law_69 : decode code 69 = .ok (.invokevirtual 60, 3) := by decide +kernel
theorem dL_law_72 : decode code 72 = .ok (.pop, 1) := by decide +kernel
theorem dL_law_73 : decode code 73 = .ok (.aload_n 1, 1) := by decide +kernel
theorem dL_law_74 : decode code 74 = .ok (.aload_n 0, 1) := by decide +kernel
theorem dL_law_75 : decode code 75 = .ok (.bipush 10, 2) := by decide +kernel
theorem dL_law_77 : decode code 77 = .ok (.invokestatic 9, 3) := by decide +kernel
theorem dL_law_80 : decode code 80 = .ok (.bipush 6, 2) := by decide +kernel
theorem dL_law_82 : decode code 82 = .ok (.ishr, 1) := by decide +kernel
theorem dL_law_83 : decode code 83 = .ok (.iconst 3, 1) := by decide +kernel
theorem dL_law_84 : decode code 84 = .ok (.invokestatic 15, 3) := by decide +kernel
theorem dL_law_87 : decode code 87 = .ok (.invokevirtual 64, 3) := by decide +kernel
theorem dL_law_90 : decode code 90 = .ok (.pop, 1) := by decide +kernel
theorem dL_law_91 : decode code 91 = .ok (.iconst 0, 1) := by decide +kernel
theorem dL_law_92 : decode code 92 = .ok (.istore 5, 2) := by decide +kernel
theorem dL_law_94 : decode code 94 = .ok (.aload_n 1, 1) := by decide +kernel
theorem dL_law_95 : decode code 95 = .ok (.invokevirtual 67, 3) := by decide +kernel
theorem dL_law_98 : decode code 98 = .ok (.istore 6, 2) := by decide +kernel
theorem dL_law_100 : decode code 100 = .ok (.iconst 0, 1) := by decide +kernel
theorem dL_law_101 : decode code 101 = .ok (.istore 7, 2) := by decide +kernel
theorem dL_law_103 : decode code 103 = .ok (.iload 7, 2) := by decide +kernel
theorem dL_law_105 : decode code 105 = .ok (.iload 6, 2) := by decide +kernel
theorem dL_law_107 : decode code 107 = .ok (.if_icmp .ge 203, 3) := by decide +kernel
theorem dL_law_110 : decode code 110 = .ok (.aload_n 1, 1) := by decide +kernel
theorem dL_law_111 : decode code 111 = .ok (.iload 7, 2) := by decide +kernel
theorem dL_law_113 : decode code 113 = .ok (.invokevirtual 70, 3) := by decide +kernel
theorem dL_law_116 : decode code 116 = .ok (.istore 8, 2) := by decide +kernel
theorem dL_law_118 : decode code 118 = .ok (.iload 8, 2) := by decide +kernel
theorem dL_law_120 : decode code 120 = .ok (.ifCond .eq 35, 3) := by decide +kernel
theorem dL_law_123 : decode code 123 = .ok (.iload 5, 2) := by decide +kernel
theorem dL_law_125 : decode code 125 = .ok (.iload 8, 2) := by decide +kernel
theorem dL_law_127 : decode code 127 = .ok (.iand, 1) := by decide +kernel
theorem dL_law_128 : decode code 128 = .ok (.ifCond .ne 27, 3) := by decide +kernel
theorem dL_law_131 : decode code 131 = .ok (.iload 7, 2) := by decide +kernel
theorem dL_law_133 : decode code 133 = .ok (.ifCond .le 24, 3) := by decide +kernel
theorem dL_law_136 : decode code 136 = .ok (.aload_n 1, 1) := by decide +kernel
theorem dL_law_137 : decode code 137 = .ok (.iload 7, 2) := by decide +kernel
theorem dL_law_139 : decode code 139 = .ok (.iconst 1, 1) := by decide +kernel
theorem dL_law_140 : decode code 140 = .ok (.isub, 1) := by decide +kernel
theorem dL_law_141 : decode code 141 = .ok (.invokevirtual 70, 3) := by decide +kernel
theorem dL_law_144 : decode code 144 = .ok (.invokestatic 73, 3) := by decide +kernel
theorem dL_law_147 : decode code 147 = .ok (.iload 8, 2) := by decide +kernel
theorem dL_law_149 : decode code 149 = .ok (.invokestatic 73, 3) := by decide +kernel
theorem dL_law_152 : decode code 152 = .ok (.if_icmp .le 5, 3) := by decide +kernel
theorem dL_law_155 : decode code 155 = .ok (.iconst 0, 1) := by decide +kernel
theorem dL_law_156 : decode code 156 = .ok (.ireturn, 1) := by decide +kernel
theorem dL_law_157 : decode code 157 = .ok (.iload 5, 2) := by decide +kernel
theorem dL_law_159 : decode code 159 = .ok (.iload 8, 2) := by decide +kernel
theorem dL_law_161 : decode code 161 = .ok (.ior, 1) := by decide +kernel
theorem dL_law_162 : decode code 162 = .ok (.istore 5, 2) := by decide +kernel
theorem dL_law_164 : decode code 164 = .ok (.iconst 0, 1) := by decide +kernel
theorem dL_law_165 : decode code 165 = .ok (.istore 9, 2) := by decide +kernel
theorem dL_law_167 : decode code 167 = .ok (.iload 9, 2) := by decide +kernel
theorem dL_law_169 : decode code 169 = .ok (.iload 7, 2) := by decide +kernel
theorem dL_law_171 : decode code 171 = .ok (.if_icmp .ge 133, 3) := by decide +kernel
theorem dL_law_174 : decode code 174 = .ok (.iconst 0, 1) := by decide +kernel
theorem dL_law_175 : decode code 175 = .ok (.istore 10, 2) := by decide +kernel
theorem dL_law_177 : decode code 177 = .ok (.iconst 0, 1) := by decide +kernel
theorem dL_law_178 : decode code 178 = .ok (.istore 11, 2) := by decide +kernel
theorem dL_law_180 : decode code 180 = .ok (.iload 11, 2) := by decide +kernel
theorem dL_law_182 : decode code 182 = .ok (.iload_n 2, 1) := by decide +kernel
theorem dL_law_183 : decode code 183 = .ok (.if_icmp .ge 76, 3) := by decide +kernel
theorem dL_law_186 : decode code 186 = .ok (.iconst 0, 1) := by decide +kernel
theorem dL_law_187 : decode code 187 = .ok (.istore 12, 2) := by decide +kernel
theorem dL_law_189 : decode code 189 = .ok (.iload 12, 2) := by decide +kernel
theorem dL_law_191 : decode code 191 = .ok (.iload_n 2, 1) := by decide +kernel
theorem dL_law_192 : decode code 192 = .ok (.if_icmp .ge 61, 3) := by decide +kernel
theorem dL_law_195 : decode code 195 = .ok (.iload 10, 2) := by decide +kernel
theorem dL_law_197 : decode code 197 = .ok (.ifCond .ne 43, 3) := by decide +kernel
theorem dL_law_200 : decode code 200 = .ok (.iload 8, 2) := by decide +kernel
theorem dL_law_202 : decode code 202 = .ok (.iload 11, 2) := by decide +kernel
theorem dL_law_204 : decode code 204 = .ok (.ishr, 1) := by decide +kernel
theorem dL_law_205 : decode code 205 = .ok (.iconst 1, 1) := by decide +kernel
theorem dL_law_206 : decode code 206 = .ok (.iand, 1) := by decide +kernel
theorem dL_law_207 : decode code 207 = .ok (.iconst 1, 1) := by decide +kernel
theorem dL_law_208 : decode code 208 = .ok (.if_icmp .ne 36, 3) := by decide +kernel
theorem dL_law_211 : decode code 211 = .ok (.aload_n 1, 1) := by decide +kernel
theorem dL_law_212 : decode code 212 = .ok (.iload 9, 2) := by decide +kernel
theorem dL_law_214 : decode code 214 = .ok (.invokevirtual 70, 3) := by decide +kernel
theorem dL_law_217 : decode code 217 = .ok (.iload 12, 2) := by decide +kernel
theorem dL_law_219 : decode code 219 = .ok (.ishr, 1) := by decide +kernel
theorem dL_law_220 : decode code 220 = .ok (.iconst 1, 1) := by decide +kernel
theorem dL_law_221 : decode code 221 = .ok (.iand, 1) := by decide +kernel
theorem dL_law_222 : decode code 222 = .ok (.iconst 1, 1) := by decide +kernel
theorem dL_law_223 : decode code 223 = .ok (.if_icmp .ne 21, 3) := by decide +kernel
theorem dL_law_226 : decode code 226 = .ok (.aload_n 3, 1) := by decide +kernel
theorem dL_law_227 : decode code 227 = .ok (.bipush 16, 2) := by decide +kernel
theorem dL_law_229 : decode code 229 = .ok (.iload 11, 2) := by decide +kernel
theorem dL_law_231 : decode code 231 = .ok (.imul, 1) := by decide +kernel
theorem dL_law_232 : decode code 232 = .ok (.iload 12, 2) := by decide +kernel
theorem dL_law_234 : decode code 234 = .ok (.iadd, 1) := by decide +kernel
theorem dL_law_235 : decode code 235 = .ok (.iaload, 1) := by decide +kernel
theorem dL_law_236 : decode code 236 = .ok (.iconst 2, 1) := by decide +kernel
theorem dL_law_237 : decode code 237 = .ok (.if_icmp .ne 7, 3) := by decide +kernel
theorem dL_law_240 : decode code 240 = .ok (.iconst 1, 1) := by decide +kernel
theorem dL_law_241 : decode code 241 = .ok (.goto 4, 3) := by decide +kernel
theorem dL_law_244 : decode code 244 = .ok (.iconst 0, 1) := by decide +kernel
theorem dL_law_245 : decode code 245 = .ok (.istore 10, 2) := by decide +kernel
theorem dL_law_247 : decode code 247 = .ok (.iinc 12 1, 3) := by decide +kernel
theorem dL_law_250 : decode code 250 = .ok (.goto (-61), 3) := by decide +kernel
theorem dL_law_253 : decode code 253 = .ok (.iinc 11 1, 3) := by decide +kernel
theorem dL_law_256 : decode code 256 = .ok (.goto (-76), 3) := by decide +kernel
theorem dL_law_259 : decode code 259 = .ok (.iload 10, 2) := by decide +kernel
theorem dL_law_261 : decode code 261 = .ok (.ifCond .ne 16, 3) := by decide +kernel
theorem dL_law_264 : decode code 264 = .ok (.aload_n 1, 1) := by decide +kernel
theorem dL_law_265 : decode code 265 = .ok (.iload 7, 2) := by decide +kernel
theorem dL_law_267 : decode code 267 = .ok (.iload 9, 2) := by decide +kernel
theorem dL_law_269 : decode code 269 = .ok (.invokevirtual 78, 3) := by decide +kernel
theorem dL_law_272 : decode code 272 = .ok (.iload 4, 2) := by decide +kernel
theorem dL_law_274 : decode code 274 = .ok (.if_icmp .ge 22, 3) := by decide +kernel
theorem dL_law_277 : decode code 277 = .ok (.aload_n 1, 1) := by decide +kernel
theorem dL_law_278 : decode code 278 = .ok (.iload 7, 2) := by decide +kernel
theorem dL_law_280 : decode code 280 = .ok (.iload 9, 2) := by decide +kernel
theorem dL_law_282 : decode code 282 = .ok (.invokevirtual 78, 3) := by decide +kernel
theorem dL_law_285 : decode code 285 = .ok (.aload_n 1, 1) := by decide +kernel
theorem dL_law_286 : decode code 286 = .ok (.iload 9, 2) := by decide +kernel
theorem dL_law_288 : decode code 288 = .ok (.iload 7, 2) := by decide +kernel
theorem dL_law_290 : decode code 290 = .ok (.invokevirtual 78, 3) := by decide +kernel
theorem dL_law_293 : decode code 293 = .ok (.if_icmp .eq 5, 3) := by decide +kernel
theorem dL_law_296 : decode code 296 = .ok (.iconst 0, 1) := by decide +kernel
theorem dL_law_297 : decode code 297 = .ok (.ireturn, 1) := by decide +kernel
theorem dL_law_298 : decode code 298 = .ok (.iinc 9 1, 3) := by decide +kernel
theorem dL_law_301 : decode code 301 = .ok (.goto (-134), 3) := by decide +kernel
theorem dL_law_304 : decode code 304 = .ok (.iinc 7 1, 3) := by decide +kernel
theorem dL_law_307 : decode code 307 = .ok (.goto (-204), 3) := by decide +kernel
theorem dL_law_310 : decode code 310 = .ok (.iload 5, 2) := by decide +kernel
theorem dL_law_312 : decode code 312 = .ok (.iconst 1, 1) := by decide +kernel
theorem dL_law_313 : decode code 313 = .ok (.iload_n 2, 1) := by decide +kernel
theorem dL_law_314 : decode code 314 = .ok (.ishl, 1) := by decide +kernel
theorem dL_law_315 : decode code 315 = .ok (.iconst 1, 1) := by decide +kernel
theorem dL_law_316 : decode code 316 = .ok (.isub, 1) := by decide +kernel
theorem dL_law_317 : decode code 317 = .ok (.if_icmp .ne 20, 3) := by decide +kernel
theorem dL_law_320 : decode code 320 = .ok (.aload_n 1, 1) := by decide +kernel
theorem dL_law_321 : decode code 321 = .ok (.invokevirtual 81, 3) := by decide +kernel
theorem dL_law_324 : decode code 324 = .ok (.iconst (-1), 1) := by decide +kernel
theorem dL_law_325 : decode code 325 = .ok (.if_icmp .eq 14, 3) := by decide +kernel
theorem dL_law_328 : decode code 328 = .ok (.aload_n 1, 1) := by decide +kernel
theorem dL_law_329 : decode code 329 = .ok (.invokevirtual 81, 3) := by decide +kernel
theorem dL_law_332 : decode code 332 = .ok (.iload 4, 2) := by decide +kernel
theorem dL_law_334 : decode code 334 = .ok (.if_icmp .ge 5, 3) := by decide +kernel
theorem dL_law_337 : decode code 337 = .ok (.iconst 0, 1) := by decide +kernel
theorem dL_law_338 : decode code 338 = .ok (.ireturn, 1) := by decide +kernel
theorem dL_law_339 : decode code 339 = .ok (.iconst 0, 1) := by decide +kernel
theorem dL_law_340 : decode code 340 = .ok (.istore 7, 2) := by decide +kernel
theorem dL_law_342 : decode code 342 = .ok (.iload 7, 2) := by decide +kernel
theorem dL_law_344 : decode code 344 = .ok (.iload_n 2, 1) := by decide +kernel
theorem dL_law_345 : decode code 345 = .ok (.if_icmp .ge 163, 3) := by decide +kernel
theorem dL_law_348 : decode code 348 = .ok (.iconst 0, 1) := by decide +kernel
theorem dL_law_349 : decode code 349 = .ok (.istore 8, 2) := by decide +kernel
theorem dL_law_351 : decode code 351 = .ok (.iload 8, 2) := by decide +kernel
theorem dL_law_353 : decode code 353 = .ok (.iload 7, 2) := by decide +kernel
theorem dL_law_355 : decode code 355 = .ok (.if_icmp .ge 147, 3) := by decide +kernel
theorem dL_law_358 : decode code 358 = .ok (.aload_n 1, 1) := by decide +kernel
theorem dL_law_359 : decode code 359 = .ok (.iload 7, 2) := by decide +kernel
theorem dL_law_361 : decode code 361 = .ok (.invokevirtual 84, 3) := by decide +kernel
theorem dL_law_364 : decode code 364 = .ok (.aload_n 1, 1) := by decide +kernel
theorem dL_law_365 : decode code 365 = .ok (.iload 8, 2) := by decide +kernel
theorem dL_law_367 : decode code 367 = .ok (.invokevirtual 84, 3) := by decide +kernel
theorem dL_law_370 : decode code 370 = .ok (.if_icmp .ne 7, 3) := by decide +kernel
theorem dL_law_373 : decode code 373 = .ok (.iconst 1, 1) := by decide +kernel
theorem dL_law_374 : decode code 374 = .ok (.goto 4, 3) := by decide +kernel
theorem dL_law_377 : decode code 377 = .ok (.iconst 0, 1) := by decide +kernel
theorem dL_law_378 : decode code 378 = .ok (.istore 9, 2) := by decide +kernel
theorem dL_law_380 : decode code 380 = .ok (.aload_n 3, 1) := by decide +kernel
theorem dL_law_381 : decode code 381 = .ok (.bipush 16, 2) := by decide +kernel
theorem dL_law_383 : decode code 383 = .ok (.iload 7, 2) := by decide +kernel
theorem dL_law_385 : decode code 385 = .ok (.imul, 1) := by decide +kernel
theorem dL_law_386 : decode code 386 = .ok (.iload 8, 2) := by decide +kernel
theorem dL_law_388 : decode code 388 = .ok (.iadd, 1) := by decide +kernel
theorem dL_law_389 : decode code 389 = .ok (.iaload, 1) := by decide +kernel
theorem dL_law_390 : decode code 390 = .ok (.iconst 1, 1) := by decide +kernel
theorem dL_law_391 : decode code 391 = .ok (.if_icmp .ne 8, 3) := by decide +kernel
theorem dL_law_394 : decode code 394 = .ok (.iload 9, 2) := by decide +kernel
theorem dL_law_396 : decode code 396 = .ok (.ifCond .eq 22, 3) := by decide +kernel
theorem dL_law_399 : decode code 399 = .ok (.aload_n 3, 1) := by decide +kernel
theorem dL_law_400 : decode code 400 = .ok (.bipush 16, 2) := by decide +kernel
theorem dL_law_402 : decode code 402 = .ok (.iload 7, 2) := by decide +kernel
theorem dL_law_404 : decode code 404 = .ok (.imul, 1) := by decide +kernel
theorem dL_law_405 : decode code 405 = .ok (.iload 8, 2) := by decide +kernel
theorem dL_law_407 : decode code 407 = .ok (.iadd, 1) := by decide +kernel
theorem dL_law_408 : decode code 408 = .ok (.iaload, 1) := by decide +kernel
theorem dL_law_409 : decode code 409 = .ok (.iconst 2, 1) := by decide +kernel
theorem dL_law_410 : decode code 410 = .ok (.if_icmp .ne 10, 3) := by decide +kernel
theorem dL_law_413 : decode code 413 = .ok (.iload 9, 2) := by decide +kernel
theorem dL_law_415 : decode code 415 = .ok (.ifCond .eq 5, 3) := by decide +kernel
theorem dL_law_418 : decode code 418 = .ok (.iconst 0, 1) := by decide +kernel
theorem dL_law_419 : decode code 419 = .ok (.ireturn, 1) := by decide +kernel
theorem dL_law_420 : decode code 420 = .ok (.iload 9, 2) := by decide +kernel
theorem dL_law_422 : decode code 422 = .ok (.ifCond .eq 20, 3) := by decide +kernel
theorem dL_law_425 : decode code 425 = .ok (.aload_n 1, 1) := by decide +kernel
theorem dL_law_426 : decode code 426 = .ok (.iload 7, 2) := by decide +kernel
theorem dL_law_428 : decode code 428 = .ok (.invokevirtual 87, 3) := by decide +kernel
theorem dL_law_431 : decode code 431 = .ok (.aload_n 1, 1) := by decide +kernel
theorem dL_law_432 : decode code 432 = .ok (.iload 8, 2) := by decide +kernel
theorem dL_law_434 : decode code 434 = .ok (.invokevirtual 87, 3) := by decide +kernel
theorem dL_law_437 : decode code 437 = .ok (.if_icmp .eq 5, 3) := by decide +kernel
theorem dL_law_440 : decode code 440 = .ok (.iconst 0, 1) := by decide +kernel
theorem dL_law_441 : decode code 441 = .ok (.ireturn, 1) := by decide +kernel
theorem dL_law_442 : decode code 442 = .ok (.aload_n 1, 1) := by decide +kernel
theorem dL_law_443 : decode code 443 = .ok (.iload 7, 2) := by decide +kernel
theorem dL_law_445 : decode code 445 = .ok (.iload 8, 2) := by decide +kernel
theorem dL_law_447 : decode code 447 = .ok (.invokevirtual 90, 3) := by decide +kernel
theorem dL_law_450 : decode code 450 = .ok (.ifCond .eq 18, 3) := by decide +kernel
theorem dL_law_453 : decode code 453 = .ok (.aload_n 1, 1) := by decide +kernel
theorem dL_law_454 : decode code 454 = .ok (.iload 7, 2) := by decide +kernel
theorem dL_law_456 : decode code 456 = .ok (.invokevirtual 87, 3) := by decide +kernel
theorem dL_law_459 : decode code 459 = .ok (.aload_n 1, 1) := by decide +kernel
theorem dL_law_460 : decode code 460 = .ok (.iload 8, 2) := by decide +kernel
theorem dL_law_462 : decode code 462 = .ok (.invokevirtual 87, 3) := by decide +kernel
theorem dL_law_465 : decode code 465 = .ok (.if_icmp .lt 29, 3) := by decide +kernel
theorem dL_law_468 : decode code 468 = .ok (.aload_n 1, 1) := by decide +kernel
theorem dL_law_469 : decode code 469 = .ok (.iload 8, 2) := by decide +kernel
theorem dL_law_471 : decode code 471 = .ok (.iload 7, 2) := by decide +kernel
theorem dL_law_473 : decode code 473 = .ok (.invokevirtual 90, 3) := by decide +kernel
theorem dL_law_476 : decode code 476 = .ok (.ifCond .eq 20, 3) := by decide +kernel
theorem dL_law_479 : decode code 479 = .ok (.aload_n 1, 1) := by decide +kernel
theorem dL_law_480 : decode code 480 = .ok (.iload 8, 2) := by decide +kernel
theorem dL_law_482 : decode code 482 = .ok (.invokevirtual 87, 3) := by decide +kernel
theorem dL_law_485 : decode code 485 = .ok (.aload_n 1, 1) := by decide +kernel
theorem dL_law_486 : decode code 486 = .ok (.iload 7, 2) := by decide +kernel
theorem dL_law_488 : decode code 488 = .ok (.invokevirtual 87, 3) := by decide +kernel
theorem dL_law_491 : decode code 491 = .ok (.if_icmp .ge 5, 3) := by decide +kernel
theorem dL_law_494 : decode code 494 = .ok (.iconst 0, 1) := by decide +kernel
theorem dL_law_495 : decode code 495 = .ok (.ireturn, 1) := by decide +kernel
theorem dL_law_496 : decode code 496 = .ok (.iinc 8 1, 3) := by decide +kernel
theorem dL_law_499 : decode code 499 = .ok (.goto (-148), 3) := by decide +kernel
theorem dL_law_502 : decode code 502 = .ok (.iinc 7 1, 3) := by decide +kernel
theorem dL_law_505 : decode code 505 = .ok (.goto (-163), 3) := by decide +kernel
theorem dL_law_508 : decode code 508 = .ok (.aload_n 1, 1) := by decide +kernel
theorem dL_law_509 : decode code 509 = .ok (.invokevirtual 94, 3) := by decide +kernel
theorem dL_law_512 : decode code 512 = .ok (.istore 7, 2) := by decide +kernel
theorem dL_law_514 : decode code 514 = .ok (.iconst 0, 1) := by decide +kernel
theorem dL_law_515 : decode code 515 = .ok (.istore 8, 2) := by decide +kernel
theorem dL_law_517 : decode code 517 = .ok (.iconst 0, 1) := by decide +kernel
theorem dL_law_518 : decode code 518 = .ok (.istore 9, 2) := by decide +kernel
theorem dL_law_520 : decode code 520 = .ok (.iconst 0, 1) := by decide +kernel
theorem dL_law_521 : decode code 521 = .ok (.istore 10, 2) := by decide +kernel
theorem dL_law_523 : decode code 523 = .ok (.iload 10, 2) := by decide +kernel
theorem dL_law_525 : decode code 525 = .ok (.iload 7, 2) := by decide +kernel
theorem dL_law_527 : decode code 527 = .ok (.if_icmp .ge 54, 3) := by decide +kernel
theorem dL_law_530 : decode code 530 = .ok (.aload_n 1, 1) := by decide +kernel
theorem dL_law_531 : decode code 531 = .ok (.iload 10, 2) := by decide +kernel
theorem dL_law_533 : decode code 533 = .ok (.invokevirtual 97, 3) := by decide +kernel
theorem dL_law_536 : decode code 536 = .ok (.ifCond .eq 15, 3) := by decide +kernel
theorem dL_law_539 : decode code 539 = .ok (.iload 8, 2) := by decide +kernel
theorem dL_law_541 : decode code 541 = .ok (.aload_n 1, 1) := by decide +kernel
theorem dL_law_542 : decode code 542 = .ok (.iload 10, 2) := by decide +kernel
theorem dL_law_544 : decode code 544 = .ok (.invokevirtual 97, 3) := by decide +kernel
theorem dL_law_547 : decode code 547 = .ok (.iand, 1) := by decide +kernel
theorem dL_law_548 : decode code 548 = .ok (.ifCond .eq 5, 3) := by decide +kernel
theorem dL_law_551 : decode code 551 = .ok (.iconst 0, 1) := by decide +kernel
theorem dL_law_552 : decode code 552 = .ok (.ireturn, 1) := by decide +kernel
theorem dL_law_553 : decode code 553 = .ok (.iload 8, 2) := by decide +kernel
theorem dL_law_555 : decode code 555 = .ok (.aload_n 1, 1) := by decide +kernel
theorem dL_law_556 : decode code 556 = .ok (.iload 10, 2) := by decide +kernel
theorem dL_law_558 : decode code 558 = .ok (.invokevirtual 97, 3) := by decide +kernel
theorem dL_law_561 : decode code 561 = .ok (.ior, 1) := by decide +kernel
theorem dL_law_562 : decode code 562 = .ok (.istore 8, 2) := by decide +kernel
theorem dL_law_564 : decode code 564 = .ok (.iload 9, 2) := by decide +kernel
theorem dL_law_566 : decode code 566 = .ok (.aload_n 1, 1) := by decide +kernel
theorem dL_law_567 : decode code 567 = .ok (.iload 10, 2) := by decide +kernel
theorem dL_law_569 : decode code 569 = .ok (.invokevirtual 100, 3) := by decide +kernel
theorem dL_law_572 : decode code 572 = .ok (.iadd, 1) := by decide +kernel
theorem dL_law_573 : decode code 573 = .ok (.istore 9, 2) := by decide +kernel
theorem dL_law_575 : decode code 575 = .ok (.iinc 10 1, 3) := by decide +kernel
theorem dL_law_578 : decode code 578 = .ok (.goto (-55), 3) := by decide +kernel
theorem dL_law_581 : decode code 581 = .ok (.iload 8, 2) := by decide +kernel
theorem dL_law_583 : decode code 583 = .ok (.iload 5, 2) := by decide +kernel
theorem dL_law_585 : decode code 585 = .ok (.if_icmp .ne 24, 3) := by decide +kernel
theorem dL_law_588 : decode code 588 = .ok (.iload 7, 2) := by decide +kernel
theorem dL_law_590 : decode code 590 = .ok (.iload 6, 2) := by decide +kernel
theorem dL_law_592 : decode code 592 = .ok (.if_icmp .gt 17, 3) := by decide +kernel
theorem dL_law_595 : decode code 595 = .ok (.aload_n 1, 1) := by decide +kernel
theorem dL_law_596 : decode code 596 = .ok (.invokevirtual 103, 3) := by decide +kernel
theorem dL_law_599 : decode code 599 = .ok (.iload 7, 2) := by decide +kernel
theorem dL_law_601 : decode code 601 = .ok (.if_icmp .gt 8, 3) := by decide +kernel
theorem dL_law_604 : decode code 604 = .ok (.iload 9, 2) := by decide +kernel
theorem dL_law_606 : decode code 606 = .ok (.ifCond .ge 5, 3) := by decide +kernel
theorem dL_law_609 : decode code 609 = .ok (.iconst 0, 1) := by decide +kernel
theorem dL_law_610 : decode code 610 = .ok (.ireturn, 1) := by decide +kernel
theorem dL_law_611 : decode code 611 = .ok (.iload 7, 2) := by decide +kernel
theorem dL_law_613 : decode code 613 = .ok (.bipush 9, 2) := by decide +kernel
theorem dL_law_615 : decode code 615 = .ok (.if_icmp .le 5, 3) := by decide +kernel
theorem dL_law_618 : decode code 618 = .ok (.iconst 1, 1) := by decide +kernel
theorem dL_law_619 : decode code 619 = .ok (.ireturn, 1) := by decide +kernel
theorem dL_law_620 : decode code 620 = .ok (.aload_n 1, 1) := by decide +kernel
theorem dL_law_621 : decode code 621 = .ok (.invokevirtual 106, 3) := by decide +kernel
theorem dL_law_624 : decode code 624 = .ok (.istore 10, 2) := by decide +kernel
theorem dL_law_626 : decode code 626 = .ok (.iconst 0, 1) := by decide +kernel
theorem dL_law_627 : decode code 627 = .ok (.istore 11, 2) := by decide +kernel
theorem dL_law_629 : decode code 629 = .ok (.iconst 0, 1) := by decide +kernel
theorem dL_law_630 : decode code 630 = .ok (.istore 12, 2) := by decide +kernel
theorem dL_law_632 : decode code 632 = .ok (.iconst 0, 1) := by decide +kernel
theorem dL_law_633 : decode code 633 = .ok (.istore 13, 2) := by decide +kernel
theorem dL_law_635 : decode code 635 = .ok (.iconst 0, 1) := by decide +kernel
theorem dL_law_636 : decode code 636 = .ok (.istore 14, 2) := by decide +kernel
theorem dL_law_638 : decode code 638 = .ok (.iload 14, 2) := by decide +kernel
theorem dL_law_640 : decode code 640 = .ok (.iload 7, 2) := by decide +kernel
theorem dL_law_642 : decode code 642 = .ok (.if_icmp .ge 64, 3) := by decide +kernel
theorem dL_law_645 : decode code 645 = .ok (.aload_n 1, 1) := by decide +kernel
theorem dL_law_646 : decode code 646 = .ok (.iload 14, 2) := by decide +kernel
theorem dL_law_648 : decode code 648 = .ok (.invokevirtual 109, 3) := by decide +kernel
theorem dL_law_651 : decode code 651 = .ok (.istore 15, 2) := by decide +kernel
theorem dL_law_653 : decode code 653 = .ok (.iload 12, 2) := by decide +kernel
theorem dL_law_655 : decode code 655 = .ok (.iload 15, 2) := by decide +kernel
theorem dL_law_657 : decode code 657 = .ok (.ishr, 1) := by decide +kernel
theorem dL_law_658 : decode code 658 = .ok (.iconst 1, 1) := by decide +kernel
theorem dL_law_659 : decode code 659 = .ok (.iand, 1) := by decide +kernel
theorem dL_law_660 : decode code 660 = .ok (.iconst 1, 1) := by decide +kernel
theorem dL_law_661 : decode code 661 = .ok (.if_icmp .ne 5, 3) := by decide +kernel
theorem dL_law_664 : decode code 664 = .ok (.iconst 0, 1) := by decide +kernel
theorem dL_law_665 : decode code 665 = .ok (.ireturn, 1) := by decide +kernel
theorem dL_law_666 : decode code 666 = .ok (.iload 12, 2) := by decide +kernel
theorem dL_law_668 : decode code 668 = .ok (.iconst 1, 1) := by decide +kernel
theorem dL_law_669 : decode code 669 = .ok (.iload 15, 2) := by decide +kernel
theorem dL_law_671 : decode code 671 = .ok (.ishl, 1) := by decide +kernel
theorem dL_law_672 : decode code 672 = .ok (.ior, 1) := by decide +kernel
theorem dL_law_673 : decode code 673 = .ok (.istore 12, 2) := by decide +kernel
theorem dL_law_675 : decode code 675 = .ok (.iload 13, 2) := by decide +kernel
theorem dL_law_677 : decode code 677 = .ok (.aload_n 1, 1) := by decide +kernel
theorem dL_law_678 : decode code 678 = .ok (.iload 15, 2) := by decide +kernel
theorem dL_law_680 : decode code 680 = .ok (.invokevirtual 97, 3) := by decide +kernel
theorem dL_law_683 : decode code 683 = .ok (.ior, 1) := by decide +kernel
theorem dL_law_684 : decode code 684 = .ok (.istore 13, 2) := by decide +kernel
theorem dL_law_686 : decode code 686 = .ok (.iload 11, 2) := by decide +kernel
theorem dL_law_688 : decode code 688 = .ok (.aload_n 1, 1) := by decide +kernel
theorem dL_law_689 : decode code 689 = .ok (.iload 13, 2) := by decide +kernel
theorem dL_law_691 : decode code 691 = .ok (.invokevirtual 112, 3) := by decide +kernel
theorem dL_law_694 : decode code 694 = .ok (.invokestatic 115, 3) := by decide +kernel
theorem dL_law_697 : decode code 697 = .ok (.iadd, 1) := by decide +kernel
theorem dL_law_698 : decode code 698 = .ok (.istore 11, 2) := by decide +kernel
theorem dL_law_700 : decode code 700 = .ok (.iinc 14 1, 3) := by decide +kernel
theorem dL_law_703 : decode code 703 = .ok (.goto (-65), 3) := by decide +kernel
theorem dL_law_706 : decode code 706 = .ok (.iload 11, 2) := by decide +kernel
theorem dL_law_708 : decode code 708 = .ok (.iload 10, 2) := by decide +kernel
theorem dL_law_710 : decode code 710 = .ok (.if_icmp .ne 16, 3) := by decide +kernel
theorem dL_law_713 : decode code 713 = .ok (.iload 10, 2) := by decide +kernel
theorem dL_law_715 : decode code 715 = .ok (.aload_n 1, 1) := by decide +kernel
theorem dL_law_716 : decode code 716 = .ok (.invokevirtual 118, 3) := by decide +kernel
theorem dL_law_719 : decode code 719 = .ok (.if_icmp .gt 7, 3) := by decide +kernel
theorem dL_law_722 : decode code 722 = .ok (.iconst 1, 1) := by decide +kernel
theorem dL_law_723 : decode code 723 = .ok (.goto 4, 3) := by decide +kernel
theorem dL_law_726 : decode code 726 = .ok (.iconst 0, 1) := by decide +kernel
theorem dL_law_727 : decode code 727 = .ok (.ireturn, 1) := by decide +kernel
set_option maxHeartbeats 4000000 in
set_option maxRecDepth 100000 in
theorem mL_law_L4 {p : Program} {l : Launch} {e : Env} {R : Room} {s : State} {m : MethodId} {args : Array Value} {below : List Frame} {meth : Method} {c : Code} {Q : State → Prop} {D : va_G} {U : zz_U} {A : Nat → Prop} {ad : Nat → Nat} {b L : Nat} {xs : Nat → Int32} {r0 : Nat} (C : zz_C p l R s m meth c D U A RL code 16 ret [] 12) (hX : va_X b L xs s s.heap) (hbl : b < s.heap.size) (hbA : ¬ A b) (K N : Nat) (hK : K ≤ R.cells) (hN : N ≤ R.slots) (u1 : (Nat → Int32)) (many_ : Int32) (threshold_ : Int32) (pieces_ : Int32) (groups_ : Int32) (g_ : Int32) (set_ : Int32) (h_ : Int32) (p_ : Int32) : ∀ (n : Nat) (isBarred_ : Int32) (q_ : Int32) (σ : zz_St) (q : (Int32 × Int32 × zz_St)) (cells slots : Nat), fL_law_L4 u1 many_ set_ h_ p_ n isBarred_ q_ σ = some q → cells + n * 1 ≤ K → slots + n * 6 ≤ N → (zz_Z p l e R s m args below meth c Q D A 16 K N (zz_wc U ad q.2.2 [(r0, .inl (U.1, 256, .inl u1))]) 253 [(0, .ref b), (1, .ref (ad 0)), (2, .int many_), (3, .ref r0), (4, .int threshold_), (5, .int pieces_), (6, .int groups_), (7, .int g_), (8, .int set_), (9, .int h_), (10, .int q.1), (11, .int p_), (12, .int q.2.1)] []) → zz_Z p l e R s m args below meth c Q D A 16 cells slots (zz_wc U ad σ [(r0, .inl (U.1, 256, .inl u1))]) 189 [(0, .ref b), (1, .ref (ad 0)), (2, .int many_), (3, .ref r0), (4, .int threshold_), (5, .int pieces_), (6, .int groups_), (7, .int g_), (8, .int set_), (9, .int h_), (10, .int isBarred_), (11, .int p_), (12, .int q_)] [] := by
  intro n
  induction n with
  | zero => intro isBarred_ q_ σ q cells slots hf; rw [fL_law_L4] at hf; cases hf
  | succ n ih =>
    intro isBarred_ q_ σ q cells slots hf hc hs kx
    rw [fL_law_L4] at hf
    rw [show (n + 1) * 1 = n * 1 + 1 from Nat.succ_mul n 1] at hc
    rw [show (n + 1) * 6 = n * 6 + 6 from Nat.succ_mul n 6] at hs
    generalize n * 1 = X1 at hc ih
    generalize n * 6 = X2 at hs ih
    refine zz_iload C 12 dL_law_189 rfl ?_
    refine zz_iload_n C 2 dL_law_191 rfl rfl ?_
    refine zz_icmp_ge (tgt := 253) C dL_law_192 (by decide) (fun g43 => ?_) (fun g43 => ?_)
    · rw [if_pos g43] at hf
      cases hf
      refine zz_widen (k := K) (n := N) (by omega) (by omega) ?_
      exact kx
    · rw [if_neg g43] at hf
      obtain ⟨b44, h45, hf⟩ := zz_bind hf
      refine zx_cut (cells + 1) (slots + 6) 245 [(0, .ref b), (1, .ref (ad 0)), (2, .int many_), (3, .ref r0), (4, .int threshold_), (5, .int pieces_), (6, .int groups_), (7, .int g_), (8, .int set_), (9, .int h_), (10, .int isBarred_), (11, .int p_), (12, .int q_)] [.int (zz_bi b44.1)] (zz_wc U ad b44.2 [(r0, .inl (U.1, 256, .inl u1))]) ?_ (fun J46 => ?_)
      · obtain ⟨x56, h57, hf⟩ := zz_bind hf
        refine zz_topi (Option.some.inj h57) ?_
        refine zz_istore C dL_law_245 (by decide) (lv' := [(10, .int x56), (0, .ref b), (1, .ref (ad 0)), (2, .int many_), (3, .ref r0), (4, .int threshold_), (5, .int pieces_), (6, .int groups_), (7, .int g_), (8, .int set_), (9, .int h_), (11, .int p_), (12, .int q_)]) rfl ?_
        refine zz_iinc (v := (q_ + (1 : Int32))) C 12 dL_law_247 rfl (by rfl) (by decide) (lv' := [(12, .int (q_ + (1 : Int32))), (10, .int x56), (0, .ref b), (1, .ref (ad 0)), (2, .int many_), (3, .ref r0), (4, .int threshold_), (5, .int pieces_), (6, .int groups_), (7, .int g_), (8, .int set_), (9, .int h_), (11, .int p_)]) rfl ?_
        refine zz_goto (tgt := 189) C dL_law_250 (by decide) ?_
        refine zz_sub [2, 3, 4, 5, 6, 7, 8, 9, 10, 11, 1, 12, 0] rfl ?_
        refine zz_widen (k := cells + 1) (n := slots + 6) (by omega) (by omega) ?_
        exact ih x56 (q_ + (1 : Int32)) b44.2 _ (cells + 1) (slots + 6) hf (by omega) (by omega) kx
      refine zz_iload C 10 dL_law_195 rfl ?_
      refine zz_if_ne (tgt := 240) C dL_law_197 (by decide) (fun g47 => ?_) (fun g47 => ?_)
      · rw [if_neg g47] at h45
        refine zz_iconst (v := 1) C dL_law_240 (by decide) ?_
        refine zz_goto (tgt := 245) C dL_law_241 (by decide) ?_
        cases h45
        refine zz_widen (k := (cells + 1)) (n := (slots + 6)) (by omega) (by omega) ?_
        exact J46
      · rw [if_pos g47] at h45
        refine zz_iload C 8 dL_law_200 rfl ?_
        refine zz_iload C 11 dL_law_202 rfl ?_
        refine zz_ishr C dL_law_204 ?_
        refine zz_iconst (v := (1 : Int32)) C dL_law_205 (by decide) ?_
        refine zz_iand C dL_law_206 ?_
        refine zz_iconst (v := (1 : Int32)) C dL_law_207 (by decide) ?_
        refine zz_icmp_ne (tgt := 244) C dL_law_208 (by decide) (fun g48 => ?_) (fun g48 => ?_)
        · rw [if_neg g48] at h45
          refine zz_iconst (v := 0) C dL_law_244 (by decide) ?_
          cases h45
          refine zz_widen (k := (cells + 1)) (n := (slots + 6)) (by omega) (by omega) ?_
          exact J46
        · rw [if_pos g48] at h45
          refine zz_aload_n C 1 dL_law_211 rfl rfl ?_
          refine zz_iload C 9 dL_law_212 rfl ?_
          obtain ⟨⟨x49, σ51⟩, h50, h45⟩ := zz_bind h45
          rcases x49 with x49 | _
          · try dsimp only at h45
            refine zz_callV1 (As := [.int h_]) (rest := []) C 0 (mX7_group_r σ h_ x49 σ51 h50) dL_law_214 rfl rfl rfl zwl_15 zy_X7_group rfl (by decide) (by decide) (Nat.le_of_ble_eq_true rfl) (by omega) (by omega) rfl ?_
            refine zz_iload C 12 dL_law_217 rfl ?_
            refine zz_ishr C dL_law_219 ?_
            refine zz_iconst (v := (1 : Int32)) C dL_law_220 (by decide) ?_
            refine zz_iand C dL_law_221 ?_
            refine zz_iconst (v := (1 : Int32)) C dL_law_222 (by decide) ?_
            refine zz_icmp_ne (tgt := 244) C dL_law_223 (by decide) (fun g52 => ?_) (fun g52 => ?_)
            · rw [if_neg g52] at h45
              refine zz_iconst (v := 0) C dL_law_244 (by decide) ?_
              cases h45
              refine zz_widen (k := (cells + 1)) (n := (slots + 6)) (by omega) (by omega) ?_
              exact J46
            · rw [if_pos g52] at h45
              refine zz_aload_n C 3 dL_law_226 rfl rfl ?_
              refine zz_bipush (v := (16 : Int32)) C dL_law_227 (by decide) ?_
              refine zz_iload C 11 dL_law_229 rfl ?_
              refine zz_imul C dL_law_231 ?_
              refine zz_iload C 12 dL_law_232 rfl ?_
              refine zz_iadd C dL_law_234 ?_
              obtain ⟨x53, h54, h45⟩ := zz_bind h45
              refine zx_ld 47 C dL_law_235 rfl h54 ?_
              refine zz_iconst (v := (2 : Int32)) C dL_law_236 (by decide) ?_
              refine zz_icmp_ne (tgt := 244) C dL_law_237 (by decide) (fun g55 => ?_) (fun g55 => ?_)
              · rw [if_neg g55] at h45
                refine zz_iconst (v := 0) C dL_law_244 (by decide) ?_
                cases h45
                refine zz_widen (k := (cells + 1)) (n := (slots + 6)) (by omega) (by omega) ?_
                exact J46
              · rw [if_pos g55] at h45
                refine zz_iconst (v := 1) C dL_law_240 (by decide) ?_
                refine zz_goto (tgt := 245) C dL_law_241 (by decide) ?_
                cases h45
                refine zz_widen (k := (cells + 1)) (n := (slots + 6)) (by omega) (by omega) ?_
                exact J46
          · cases h45
set_option maxHeartbeats 4000000 in
set_option maxRecDepth 100000 in
theorem mL_law_L3 {p : Program} {l : Launch} {e : Env} {R : Room} {s : State} {m : MethodId} {args : Array Value} {below : List Frame} {meth : Method} {c : Code} {Q : State → Prop} {D : va_G} {U : zz_U} {A : Nat → Prop} {ad : Nat → Nat} {b L : Nat} {xs : Nat → Int32} {r0 : Nat} (C : zz_C p l R s m meth c D U A RL code 16 ret [] 12) (hX : va_X b L xs s s.heap) (hbl : b < s.heap.size) (hbA : ¬ A b) (K N : Nat) (hK : K ≤ R.cells) (hN : N ≤ R.slots) (u1 : (Nat → Int32)) (many_ : Int32) (threshold_ : Int32) (pieces_ : Int32) (groups_ : Int32) (g_ : Int32) (set_ : Int32) (h_ : Int32) : ∀ (n : Nat) (isBarred_ : Int32) (p_ : Int32) (σ : zz_St) (q : (Int32 × Int32 × zz_St)) (cells slots : Nat), fL_law_L3 u1 many_ set_ h_ n isBarred_ p_ σ = some q → cells + n * 14 ≤ K → slots + n * 84 ≤ N → (zz_Z p l e R s m args below meth c Q D A 16 K N (zz_wc U ad q.2.2 [(r0, .inl (U.1, 256, .inl u1))]) 259 [(0, .ref b), (1, .ref (ad 0)), (2, .int many_), (3, .ref r0), (4, .int threshold_), (5, .int pieces_), (6, .int groups_), (7, .int g_), (8, .int set_), (9, .int h_), (10, .int q.1), (11, .int q.2.1)] []) → zz_Z p l e R s m args below meth c Q D A 16 cells slots (zz_wc U ad σ [(r0, .inl (U.1, 256, .inl u1))]) 180 [(0, .ref b), (1, .ref (ad 0)), (2, .int many_), (3, .ref r0), (4, .int threshold_), (5, .int pieces_), (6, .int groups_), (7, .int g_), (8, .int set_), (9, .int h_), (10, .int isBarred_), (11, .int p_)] [] := by
  intro n
  induction n with
  | zero => intro isBarred_ p_ σ q cells slots hf; rw [fL_law_L3] at hf; cases hf
  | succ n ih =>
    intro isBarred_ p_ σ q cells slots hf hc hs kx
    rw [fL_law_L3] at hf
    rw [show (n + 1) * 14 = n * 14 + 14 from Nat.succ_mul n 14] at hc
    rw [show (n + 1) * 84 = n * 84 + 84 from Nat.succ_mul n 84] at hs
    generalize n * 14 = X1 at hc ih
    generalize n * 84 = X2 at hs ih
    refine zz_iload C 11 dL_law_180 rfl ?_
    refine zz_iload_n C 2 dL_law_182 rfl rfl ?_
    refine zz_icmp_ge (tgt := 259) C dL_law_183 (by decide) (fun g42 => ?_) (fun g42 => ?_)
    · rw [if_pos g42] at hf
      cases hf
      refine zz_widen (k := K) (n := N) (by omega) (by omega) ?_
      exact kx
    · rw [if_neg g42] at hf
      refine zz_iconst (v := (0 : Int32)) C dL_law_186 (by decide) ?_
      refine zz_istore C dL_law_187 (by decide) (lv' := [(12, .int (0 : Int32)), (0, .ref b), (1, .ref (ad 0)), (2, .int many_), (3, .ref r0), (4, .int threshold_), (5, .int pieces_), (6, .int groups_), (7, .int g_), (8, .int set_), (9, .int h_), (10, .int isBarred_), (11, .int p_)]) rfl ?_
      obtain ⟨q58, h59, hf⟩ := zz_bind hf
      refine zz_sub [1, 2, 3, 4, 5, 6, 7, 8, 9, 10, 11, 12, 0] rfl ?_
      refine mL_law_L4 C hX hbl hbA (cells + 14) (slots + 84) (by omega) (by omega) u1 many_ threshold_ pieces_ groups_ g_ set_ h_ p_ 14 isBarred_ (0 : Int32) σ q58 _ _ h59 (by omega) (by omega) ?_
      refine zz_iinc (v := (p_ + (1 : Int32))) C 11 dL_law_253 rfl (by rfl) (by decide) (lv' := [(11, .int (p_ + (1 : Int32))), (0, .ref b), (1, .ref (ad 0)), (2, .int many_), (3, .ref r0), (4, .int threshold_), (5, .int pieces_), (6, .int groups_), (7, .int g_), (8, .int set_), (9, .int h_), (10, .int q58.1), (12, .int q58.2.1)]) rfl ?_
      refine zz_goto (tgt := 180) C dL_law_256 (by decide) ?_
      refine zz_sub [1, 2, 3, 4, 5, 6, 7, 8, 9, 10, 11, 0] rfl ?_
      refine zz_widen (k := cells + 14) (n := slots + 84) (by omega) (by omega) ?_
      exact ih q58.1 (p_ + (1 : Int32)) q58.2.2 _ (cells + 14) (slots + 84) hf (by omega) (by omega) kx
set_option maxHeartbeats 4000000 in
set_option maxRecDepth 100000 in
theorem mL_law_L2 {p : Program} {l : Launch} {e : Env} {R : Room} {s : State} {m : MethodId} {args : Array Value} {below : List Frame} {meth : Method} {c : Code} {Q : State → Prop} {D : va_G} {U : zz_U} {A : Nat → Prop} {ad : Nat → Nat} {b L : Nat} {xs : Nat → Int32} {r0 : Nat} (C : zz_C p l R s m meth c D U A RL code 16 ret [] 12) (hX : va_X b L xs s s.heap) (hbl : b < s.heap.size) (hbA : ¬ A b) (K N : Nat) (hK : K ≤ R.cells) (hN : N ≤ R.slots) (u1 : (Nat → Int32)) (many_ : Int32) (threshold_ : Int32) (pieces_ : Int32) (groups_ : Int32) (g_ : Int32) (set_ : Int32) : ∀ (n : Nat) (h_ : Int32) (σ : zz_St) (q : ((Int32 × zz_St) ⊕ (Int32 × zz_St))) (cells slots : Nat), fL_law_L2 u1 many_ threshold_ g_ set_ n h_ σ = some q → cells + n * 205 ≤ K → slots + n * 1230 ≤ N → (∀ (v : Int32) (m0 : zz_St) (pc' : Nat), q = .inl (v, m0) → decode code pc' = .ok (.ireturn, 1) → zz_Z p l e R s m args below meth c Q D A 16 K N (zz_wc U ad m0 [(r0, .inl (U.1, 256, .inl u1))]) pc' [] [.int v]) → (∀ w : Int32 × zz_St, q = .inr w → zz_Z p l e R s m args below meth c Q D A 16 K N (zz_wc U ad w.2 [(r0, .inl (U.1, 256, .inl u1))]) 304 [(0, .ref b), (1, .ref (ad 0)), (2, .int many_), (3, .ref r0), (4, .int threshold_), (5, .int pieces_), (6, .int groups_), (7, .int g_), (8, .int set_), (9, .int w.1)] []) → zz_Z p l e R s m args below meth c Q D A 16 cells slots (zz_wc U ad σ [(r0, .inl (U.1, 256, .inl u1))]) 167 [(0, .ref b), (1, .ref (ad 0)), (2, .int many_), (3, .ref r0), (4, .int threshold_), (5, .int pieces_), (6, .int groups_), (7, .int g_), (8, .int set_), (9, .int h_)] [] := by
  intro n
  induction n with
  | zero => intro h_ σ q cells slots hf; rw [fL_law_L2] at hf; cases hf
  | succ n ih =>
    intro h_ σ q cells slots hf hc hs kr kx
    rw [fL_law_L2] at hf
    rw [show (n + 1) * 205 = n * 205 + 205 from Nat.succ_mul n 205] at hc
    rw [show (n + 1) * 1230 = n * 1230 + 1230 from Nat.succ_mul n 1230] at hs
    generalize n * 205 = X1 at hc ih
    generalize n * 1230 = X2 at hs ih
    refine zz_iload C 9 dL_law_167 rfl ?_
    refine zz_iload C 7 dL_law_169 rfl ?_
    refine zz_icmp_ge (tgt := 304) C dL_law_171 (by decide) (fun g41 => ?_) (fun g41 => ?_)
    · rw [if_pos g41] at hf
      cases hf
      refine zz_widen (k := K) (n := N) (by omega) (by omega) ?_
      exact kx _ rfl
    · rw [if_neg g41] at hf
      refine zz_iconst (v := (0 : Int32)) C dL_law_174 (by decide) ?_
      refine zz_istore C dL_law_175 (by decide) (lv' := [(10, .int (0 : Int32)), (0, .ref b), (1, .ref (ad 0)), (2, .int many_), (3, .ref r0), (4, .int threshold_), (5, .int pieces_), (6, .int groups_), (7, .int g_), (8, .int set_), (9, .int h_)]) rfl ?_
      refine zz_iconst (v := (0 : Int32)) C dL_law_177 (by decide) ?_
      refine zz_istore C dL_law_178 (by decide) (lv' := [(11, .int (0 : Int32)), (10, .int (0 : Int32)), (0, .ref b), (1, .ref (ad 0)), (2, .int many_), (3, .ref r0), (4, .int threshold_), (5, .int pieces_), (6, .int groups_), (7, .int g_), (8, .int set_), (9, .int h_)]) rfl ?_
      obtain ⟨q60, h61, hf⟩ := zz_bind hf
      refine zz_sub [2, 3, 4, 5, 6, 7, 8, 9, 10, 11, 1, 0] rfl ?_
      refine mL_law_L3 C hX hbl hbA (cells + 196) (slots + 1176) (by omega) (by omega) u1 many_ threshold_ pieces_ groups_ g_ set_ h_ 14 (0 : Int32) (0 : Int32) σ q60 _ _ h61 (by omega) (by omega) ?_
      obtain ⟨b62, h63, hf⟩ := zz_bind hf
      refine zx_cutI (P := b62.1 = true) (cells + 205) (slots + 1230) 296 [(0, .ref b), (1, .ref (ad 0)), (2, .int many_), (3, .ref r0), (4, .int threshold_), (5, .int pieces_), (6, .int groups_), (7, .int g_), (8, .int set_), (9, .int h_), (10, .int q60.1), (11, .int q60.2.1)] [] (zz_wc U ad b62.2 [(r0, .inl (U.1, 256, .inl u1))]) (fun g66 => ?_) (fun J64 => ?_)
      · rw [if_pos g66] at hf
        refine zz_iconst (v := (0 : Int32)) C dL_law_296 (by decide) ?_
        refine zz_sub [] rfl ?_
        cases hf
        refine zz_widen (k := K) (n := N) (by omega) (by omega) ?_
        exact kr _ _ _ rfl dL_law_297
      refine zx_cutI (P := b62.1 = false) (cells + 205) (slots + 1230) 298 [(0, .ref b), (1, .ref (ad 0)), (2, .int many_), (3, .ref r0), (4, .int threshold_), (5, .int pieces_), (6, .int groups_), (7, .int g_), (8, .int set_), (9, .int h_), (10, .int q60.1), (11, .int q60.2.1)] [] (zz_wc U ad b62.2 [(r0, .inl (U.1, 256, .inl u1))]) (fun g66 => ?_) (fun J65 => ?_)
      · rw [if_neg (show ¬ b62.1 = true by rw [g66]; decide)] at hf
        refine zz_iinc (v := (h_ + (1 : Int32))) C 9 dL_law_298 rfl (by rfl) (by decide) (lv' := [(9, .int (h_ + (1 : Int32))), (0, .ref b), (1, .ref (ad 0)), (2, .int many_), (3, .ref r0), (4, .int threshold_), (5, .int pieces_), (6, .int groups_), (7, .int g_), (8, .int set_), (10, .int q60.1), (11, .int q60.2.1)]) rfl ?_
        refine zz_goto (tgt := 167) C dL_law_301 (by decide) ?_
        refine zz_sub [1, 2, 3, 4, 5, 6, 7, 8, 9, 0] rfl ?_
        refine zz_widen (k := cells + 205) (n := slots + 1230) (by omega) (by omega) ?_
        exact ih (h_ + (1 : Int32)) b62.2 _ (cells + 205) (slots + 1230) hf (by omega) (by omega) kr kx
      refine zz_iload C 10 dL_law_259 rfl ?_
      refine zz_if_ne (tgt := 277) C dL_law_261 (by decide) (fun g67 => ?_) (fun g67 => ?_)
      · rw [if_neg g67] at h63
        refine zz_aload_n C 1 dL_law_277 rfl rfl ?_
        refine zz_iload C 7 dL_law_278 rfl ?_
        refine zz_iload C 9 dL_law_280 rfl ?_
        obtain ⟨⟨x68, σ70⟩, h69, h63⟩ := zz_bind h63
        rcases x68 with x68 | _
        · try dsimp only at h63
          refine zz_callV1 (As := [.int g_, .int h_]) (rest := []) C 0 (mX7_linkage_r q60.2.2 g_ h_ x68 σ70 h69) dL_law_282 rfl rfl rfl zwl_17 zy_X7_linkage rfl (by decide) (by decide) (Nat.le_of_ble_eq_true rfl) (by omega) (by omega) rfl ?_
          refine zz_aload_n C 1 dL_law_285 rfl rfl ?_
          refine zz_iload C 9 dL_law_286 rfl ?_
          refine zz_iload C 7 dL_law_288 rfl ?_
          obtain ⟨⟨x71, σ73⟩, h72, h63⟩ := zz_bind h63
          rcases x71 with x71 | _
          · try dsimp only at h63
            refine zz_callV1 (As := [.int h_, .int g_]) (rest := [.int x68]) C 0 (mX7_linkage_r σ70 h_ g_ x71 σ73 h72) dL_law_290 rfl rfl rfl zwl_17 zy_X7_linkage rfl (by decide) (by decide) (Nat.le_of_ble_eq_true rfl) (by omega) (by omega) rfl ?_
            refine zz_icmp_eq (tgt := 298) C dL_law_293 (by decide) (fun g74 => ?_) (fun g74 => ?_)
            · rw [if_pos g74] at h63
              cases h63
              refine zz_widen (k := (cells + 205)) (n := (slots + 1230)) (by omega) (by omega) ?_
              exact J65 rfl
            · rw [if_neg g74] at h63
              cases h63
              refine zz_widen (k := (cells + 205)) (n := (slots + 1230)) (by omega) (by omega) ?_
              exact J64 rfl
          · cases h63
        · cases h63
      · rw [if_pos g67] at h63
        refine zz_aload_n C 1 dL_law_264 rfl rfl ?_
        refine zz_iload C 7 dL_law_265 rfl ?_
        refine zz_iload C 9 dL_law_267 rfl ?_
        obtain ⟨⟨x75, σ77⟩, h76, h63⟩ := zz_bind h63
        rcases x75 with x75 | _
        · try dsimp only at h63
          refine zz_callV1 (As := [.int g_, .int h_]) (rest := []) C 0 (mX7_linkage_r q60.2.2 g_ h_ x75 σ77 h76) dL_law_269 rfl rfl rfl zwl_17 zy_X7_linkage rfl (by decide) (by decide) (Nat.le_of_ble_eq_true rfl) (by omega) (by omega) rfl ?_
          refine zz_iload C 4 dL_law_272 rfl ?_
          refine zz_icmp_ge (tgt := 296) C dL_law_274 (by decide) (fun g78 => ?_) (fun g78 => ?_)
          · rw [if_pos g78] at h63
            cases h63
            refine zz_widen (k := (cells + 205)) (n := (slots + 1230)) (by omega) (by omega) ?_
            exact J64 rfl
          · rw [if_neg g78] at h63
            refine zz_aload_n C 1 dL_law_277 rfl rfl ?_
            refine zz_iload C 7 dL_law_278 rfl ?_
            refine zz_iload C 9 dL_law_280 rfl ?_
            obtain ⟨⟨x79, σ81⟩, h80, h63⟩ := zz_bind h63
            rcases x79 with x79 | _
            · try dsimp only at h63
              refine zz_callV1 (As := [.int g_, .int h_]) (rest := []) C 0 (mX7_linkage_r σ77 g_ h_ x79 σ81 h80) dL_law_282 rfl rfl rfl zwl_17 zy_X7_linkage rfl (by decide) (by decide) (Nat.le_of_ble_eq_true rfl) (by omega) (by omega) rfl ?_
              refine zz_aload_n C 1 dL_law_285 rfl rfl ?_
              refine zz_iload C 9 dL_law_286 rfl ?_
              refine zz_iload C 7 dL_law_288 rfl ?_
              obtain ⟨⟨x82, σ84⟩, h83, h63⟩ := zz_bind h63
              rcases x82 with x82 | _
              · try dsimp only at h63
                refine zz_callV1 (As := [.int h_, .int g_]) (rest := [.int x79]) C 0 (mX7_linkage_r σ81 h_ g_ x82 σ84 h83) dL_law_290 rfl rfl rfl zwl_17 zy_X7_linkage rfl (by decide) (by decide) (Nat.le_of_ble_eq_true rfl) (by omega) (by omega) rfl ?_
                refine zz_icmp_eq (tgt := 298) C dL_law_293 (by decide) (fun g85 => ?_) (fun g85 => ?_)
                · rw [if_pos g85] at h63
                  cases h63
                  refine zz_widen (k := (cells + 205)) (n := (slots + 1230)) (by omega) (by omega) ?_
                  exact J65 rfl
                · rw [if_neg g85] at h63
                  cases h63
                  refine zz_widen (k := (cells + 205)) (n := (slots + 1230)) (by omega) (by omega) ?_
                  exact J64 rfl
              · cases h63
            · cases h63
        · cases h63
set_option maxHeartbeats 4000000 in
set_option maxRecDepth 100000 in
theorem mL_law_L1 {p : Program} {l : Launch} {e : Env} {R : Room} {s : State} {m : MethodId} {args : Array Value} {below : List Frame} {meth : Method} {c : Code} {Q : State → Prop} {D : va_G} {U : zz_U} {A : Nat → Prop} {ad : Nat → Nat} {b L : Nat} {xs : Nat → Int32} {r0 : Nat} (C : zz_C p l R s m meth c D U A RL code 16 ret [] 12) (hX : va_X b L xs s s.heap) (hbl : b < s.heap.size) (hbA : ¬ A b) (K N : Nat) (hK : K ≤ R.cells) (hN : N ≤ R.slots) (u1 : (Nat → Int32)) (many_ : Int32) (threshold_ : Int32) (groups_ : Int32) : ∀ (n : Nat) (pieces_ : Int32) (g_ : Int32) (σ : zz_St) (q : ((Int32 × zz_St) ⊕ (Int32 × Int32 × zz_St))) (cells slots : Nat), fL_law_L1 u1 many_ threshold_ groups_ n pieces_ g_ σ = some q → cells + n * 2872 ≤ K → slots + n * 17232 ≤ N → (∀ (v : Int32) (m0 : zz_St) (pc' : Nat), q = .inl (v, m0) → decode code pc' = .ok (.ireturn, 1) → zz_Z p l e R s m args below meth c Q D A 16 K N (zz_wc U ad m0 [(r0, .inl (U.1, 256, .inl u1))]) pc' [] [.int v]) → (∀ w : Int32 × Int32 × zz_St, q = .inr w → zz_Z p l e R s m args below meth c Q D A 16 K N (zz_wc U ad w.2.2 [(r0, .inl (U.1, 256, .inl u1))]) 310 [(0, .ref b), (1, .ref (ad 0)), (2, .int many_), (3, .ref r0), (4, .int threshold_), (5, .int w.1), (6, .int groups_), (7, .int w.2.1)] []) → zz_Z p l e R s m args below meth c Q D A 16 cells slots (zz_wc U ad σ [(r0, .inl (U.1, 256, .inl u1))]) 103 [(0, .ref b), (1, .ref (ad 0)), (2, .int many_), (3, .ref r0), (4, .int threshold_), (5, .int pieces_), (6, .int groups_), (7, .int g_)] [] := by
  intro n
  induction n with
  | zero => intro pieces_ g_ σ q cells slots hf; rw [fL_law_L1] at hf; cases hf
  | succ n ih =>
    intro pieces_ g_ σ q cells slots hf hc hs kr kx
    rw [fL_law_L1] at hf
    rw [show (n + 1) * 2872 = n * 2872 + 2872 from Nat.succ_mul n 2872] at hc
    rw [show (n + 1) * 17232 = n * 17232 + 17232 from Nat.succ_mul n 17232] at hs
    generalize n * 2872 = X1 at hc ih
    generalize n * 17232 = X2 at hs ih
    refine zz_iload C 7 dL_law_103 rfl ?_
    refine zz_iload C 6 dL_law_105 rfl ?_
    refine zz_icmp_ge (tgt := 310) C dL_law_107 (by decide) (fun g19 => ?_) (fun g19 => ?_)
    · rw [if_pos g19] at hf
      cases hf
      refine zz_widen (k := K) (n := N) (by omega) (by omega) ?_
      exact kx _ rfl
    · rw [if_neg g19] at hf
      refine zz_aload_n C 1 dL_law_110 rfl rfl ?_
      refine zz_iload C 7 dL_law_111 rfl ?_
      obtain ⟨⟨x20, σ22⟩, h21, hf⟩ := zz_bind hf
      rcases x20 with x20 | _
      · try dsimp only at hf
        refine zz_callV1 (As := [.int g_]) (rest := []) C 0 (mX7_group_r σ g_ x20 σ22 h21) dL_law_113 rfl rfl rfl zwl_15 zy_X7_group rfl (by decide) (by decide) (Nat.le_of_ble_eq_true rfl) (by omega) (by omega) rfl ?_
        refine zz_istore C dL_law_116 (by decide) (lv' := [(8, .int x20), (0, .ref b), (1, .ref (ad 0)), (2, .int many_), (3, .ref r0), (4, .int threshold_), (5, .int pieces_), (6, .int groups_), (7, .int g_)]) rfl ?_
        obtain ⟨b23, h24, hf⟩ := zz_bind hf
        refine zx_cutI (P := b23.1 = true) (cells + 2) (slots + 12) 155 [(8, .int x20), (0, .ref b), (1, .ref (ad 0)), (2, .int many_), (3, .ref r0), (4, .int threshold_), (5, .int pieces_), (6, .int groups_), (7, .int g_)] [] (zz_wc U ad b23.2 [(r0, .inl (U.1, 256, .inl u1))]) (fun g27 => ?_) (fun J25 => ?_)
        · rw [if_pos g27] at hf
          refine zz_iconst (v := (0 : Int32)) C dL_law_155 (by decide) ?_
          refine zz_sub [] rfl ?_
          cases hf
          refine zz_widen (k := K) (n := N) (by omega) (by omega) ?_
          exact kr _ _ _ rfl dL_law_156
        refine zx_cutI (P := b23.1 = false) (cells + 2) (slots + 12) 157 [(8, .int x20), (0, .ref b), (1, .ref (ad 0)), (2, .int many_), (3, .ref r0), (4, .int threshold_), (5, .int pieces_), (6, .int groups_), (7, .int g_)] [] (zz_wc U ad b23.2 [(r0, .inl (U.1, 256, .inl u1))]) (fun g27 => ?_) (fun J26 => ?_)
        · rw [if_neg (show ¬ b23.1 = true by rw [g27]; decide)] at hf
          refine zz_iload C 6 dL_law_157 rfl ?_
          refine zz_iload C 0 dL_law_159 rfl ?_
          refine zz_ior C dL_law_161 ?_
          obtain ⟨x39, h40, hf⟩ := zz_bind hf
          refine zz_topi (Option.some.inj h40) ?_
          refine zz_istore C dL_law_162 (by decide) (lv' := [(5, .int x39), (8, .int x20), (0, .ref b), (1, .ref (ad 0)), (2, .int many_), (3, .ref r0), (4, .int threshold_), (6, .int groups_), (7, .int g_)]) rfl ?_
          refine zz_iconst (v := (0 : Int32)) C dL_law_164 (by decide) ?_
          refine zz_istore C dL_law_165 (by decide) (lv' := [(9, .int (0 : Int32)), (5, .int x39), (8, .int x20), (0, .ref b), (1, .ref (ad 0)), (2, .int many_), (3, .ref r0), (4, .int threshold_), (6, .int groups_), (7, .int g_)]) rfl ?_
          obtain ⟨q86, h87, hf⟩ := zz_bind hf
          refine zz_sub [3, 4, 5, 6, 7, 1, 8, 9, 2, 0] rfl ?_
          refine mL_law_L2 C hX hbl hbA (cells + 2872) (slots + 17232) (by omega) (by omega) u1 many_ threshold_ x39 groups_ g_ x20 14 (0 : Int32) b23.2 q86 _ _ h87 (by omega) (by omega) (fun v88 m93 p92 e90 d91 => ?_) (fun w89 e90 => ?_)
          · subst e90
            cases hf
            refine zz_widen (k := K) (n := N) (by omega) (by omega) ?_
            exact kr _ _ _ rfl d91
          · subst e90
            refine zz_iinc (v := (g_ + (1 : Int32))) C 7 dL_law_304 rfl (by rfl) (by decide) (lv' := [(7, .int (g_ + (1 : Int32))), (0, .ref b), (1, .ref (ad 0)), (2, .int many_), (3, .ref r0), (4, .int threshold_), (5, .int x39), (6, .int groups_), (8, .int x20), (9, .int w89.1)]) rfl ?_
            refine zz_goto (tgt := 103) C dL_law_307 (by decide) ?_
            refine zz_sub [1, 2, 3, 4, 5, 6, 7, 0] rfl ?_
            refine zz_widen (k := cells + 2872) (n := slots + 17232) (by omega) (by omega) ?_
            exact ih x39 (g_ + (1 : Int32)) w89.2 _ (cells + 2872) (slots + 17232) hf (by omega) (by omega) kr kx
        refine zz_iload C 0 dL_law_118 rfl ?_
        refine zz_if_eq (tgt := 155) C dL_law_120 (by decide) (fun g28 => ?_) (fun g28 => ?_)
        · rw [if_pos g28] at h24
          cases h24
          refine zz_widen (k := (cells + 2)) (n := (slots + 12)) (by omega) (by omega) ?_
          exact J25 rfl
        · rw [if_neg g28] at h24
          refine zz_iload C 6 dL_law_123 rfl ?_
          refine zz_iload C 0 dL_law_125 rfl ?_
          refine zz_iand C dL_law_127 ?_
          refine zz_if_ne (tgt := 155) C dL_law_128 (by decide) (fun g29 => ?_) (fun g29 => ?_)
          · rw [if_neg g29] at h24
            cases h24
            refine zz_widen (k := (cells + 2)) (n := (slots + 12)) (by omega) (by omega) ?_
            exact J25 rfl
          · rw [if_pos g29] at h24
            refine zz_iload C 8 dL_law_131 rfl ?_
            refine zz_if_le (tgt := 157) C dL_law_133 (by decide) (fun g30 => ?_) (fun g30 => ?_)
            · rw [if_pos g30] at h24
              cases h24
              refine zz_widen (k := (cells + 2)) (n := (slots + 12)) (by omega) (by omega) ?_
              exact J26 rfl
            · rw [if_neg g30] at h24
              refine zz_aload_n C 2 dL_law_136 rfl rfl ?_
              refine zz_iload C 8 dL_law_137 rfl ?_
              refine zz_iconst (v := (1 : Int32)) C dL_law_139 (by decide) ?_
              refine zz_isub C dL_law_140 ?_
              obtain ⟨⟨x31, σ33⟩, h32, h24⟩ := zz_bind h24
              rcases x31 with x31 | _
              · try dsimp only at h24
                refine zz_callV1 (As := [.int (g_ - (1 : Int32))]) (rest := []) C 0 (mX7_group_r σ22 (g_ - (1 : Int32)) x31 σ33 h32) dL_law_141 rfl rfl rfl zwl_15 zy_X7_group rfl (by decide) (by decide) (Nat.le_of_ble_eq_true rfl) (by omega) (by omega) rfl ?_
                obtain ⟨x34, h35, h24⟩ := zz_bind h24
                refine zz_callS1 (As := [.int x31]) (rest := []) C (mJ6_numberOfTrailingZeros x31 x34 h35) dL_law_144 rfl zwl_16 zy_J6_numberOfTrailingZeros_0f7a4 rfl (by decide) (by decide) (Nat.le_of_ble_eq_true rfl) (by omega) (by omega) rfl ?_
                refine zz_iload C 0 dL_law_147 rfl ?_
                obtain ⟨x36, h37, h24⟩ := zz_bind h24
                refine zz_callS1 (As := [.int x20]) (rest := [.int x34]) C (mJ6_numberOfTrailingZeros x20 x36 h37) dL_law_149 rfl zwl_16 zy_J6_numberOfTrailingZeros_0f7a4 rfl (by decide) (by decide) (Nat.le_of_ble_eq_true rfl) (by omega) (by omega) rfl ?_
                refine zz_icmp_le (tgt := 157) C dL_law_152 (by decide) (fun g38 => ?_) (fun g38 => ?_)
                · rw [if_pos g38] at h24
                  cases h24
                  refine zz_widen (k := (cells + 2)) (n := (slots + 12)) (by omega) (by omega) ?_
                  exact J26 rfl
                · rw [if_neg g38] at h24
                  cases h24
                  refine zz_widen (k := (cells + 2)) (n := (slots + 12)) (by omega) (by omega) ?_
                  exact J25 rfl
              · cases h24
      · cases hf
set_option maxHeartbeats 4000000 in
set_option maxRecDepth 100000 in
theorem mL_law_L6 {p : Program} {l : Launch} {e : Env} {R : Room} {s : State} {m : MethodId} {args : Array Value} {below : List Frame} {meth : Method} {c : Code} {Q : State → Prop} {D : va_G} {U : zz_U} {A : Nat → Prop} {ad : Nat → Nat} {b L : Nat} {xs : Nat → Int32} {r0 : Nat} (C : zz_C p l R s m meth c D U A RL code 16 ret [] 12) (hX : va_X b L xs s s.heap) (hbl : b < s.heap.size) (hbA : ¬ A b) (K N : Nat) (hK : K ≤ R.cells) (hN : N ≤ R.slots) (u1 : (Nat → Int32)) (many_ : Int32) (threshold_ : Int32) (pieces_ : Int32) (groups_ : Int32) (p_ : Int32) : ∀ (n : Nat) (q_ : Int32) (σ : zz_St) (q : ((Int32 × zz_St) ⊕ (Int32 × zz_St))) (cells slots : Nat), fL_law_L6 u1 p_ n q_ σ = some q → cells + n * 14 ≤ K → slots + n * 84 ≤ N → (∀ (v : Int32) (m0 : zz_St) (pc' : Nat), q = .inl (v, m0) → decode code pc' = .ok (.ireturn, 1) → zz_Z p l e R s m args below meth c Q D A 16 K N (zz_wc U ad m0 [(r0, .inl (U.1, 256, .inl u1))]) pc' [] [.int v]) → (∀ w : Int32 × zz_St, q = .inr w → zz_Z p l e R s m args below meth c Q D A 16 K N (zz_wc U ad w.2 [(r0, .inl (U.1, 256, .inl u1))]) 502 [(0, .ref b), (1, .ref (ad 0)), (2, .int many_), (3, .ref r0), (4, .int threshold_), (5, .int pieces_), (6, .int groups_), (7, .int p_), (8, .int w.1)] []) → zz_Z p l e R s m args below meth c Q D A 16 cells slots (zz_wc U ad σ [(r0, .inl (U.1, 256, .inl u1))]) 351 [(0, .ref b), (1, .ref (ad 0)), (2, .int many_), (3, .ref r0), (4, .int threshold_), (5, .int pieces_), (6, .int groups_), (7, .int p_), (8, .int q_)] [] := by
  intro n
  induction n with
  | zero => intro q_ σ q cells slots hf; rw [fL_law_L6] at hf; cases hf
  | succ n ih =>
    intro q_ σ q cells slots hf hc hs kr kx
    rw [fL_law_L6] at hf
    rw [show (n + 1) * 14 = n * 14 + 14 from Nat.succ_mul n 14] at hc
    rw [show (n + 1) * 84 = n * 84 + 84 from Nat.succ_mul n 84] at hs
    generalize n * 14 = X1 at hc ih
    generalize n * 84 = X2 at hs ih
    refine zz_iload C 8 dL_law_351 rfl ?_
    refine zz_iload C 7 dL_law_353 rfl ?_
    refine zz_icmp_ge (tgt := 502) C dL_law_355 (by decide) (fun g115 => ?_) (fun g115 => ?_)
    · rw [if_pos g115] at hf
      cases hf
      refine zz_widen (k := K) (n := N) (by omega) (by omega) ?_
      exact kx _ rfl
    · rw [if_neg g115] at hf
      obtain ⟨b116, h117, hf⟩ := zz_bind hf
      refine zx_cut (cells + 2) (slots + 12) 378 [(0, .ref b), (1, .ref (ad 0)), (2, .int many_), (3, .ref r0), (4, .int threshold_), (5, .int pieces_), (6, .int groups_), (7, .int p_), (8, .int q_)] [.int (zz_bi b116.1)] (zz_wc U ad b116.2 [(r0, .inl (U.1, 256, .inl u1))]) ?_ (fun J118 => ?_)
      · obtain ⟨x126, h127, hf⟩ := zz_bind hf
        refine zz_topi (Option.some.inj h127) ?_
        refine zz_istore C dL_law_378 (by decide) (lv' := [(9, .int x126), (0, .ref b), (1, .ref (ad 0)), (2, .int many_), (3, .ref r0), (4, .int threshold_), (5, .int pieces_), (6, .int groups_), (7, .int p_), (8, .int q_)]) rfl ?_
        obtain ⟨b128, h129, hf⟩ := zz_bind hf
        refine zx_cutI (P := b128 = true) (cells + 2) (slots + 12) 418 [(9, .int x126), (0, .ref b), (1, .ref (ad 0)), (2, .int many_), (3, .ref r0), (4, .int threshold_), (5, .int pieces_), (6, .int groups_), (7, .int p_), (8, .int q_)] [] (zz_wc U ad b116.2 [(r0, .inl (U.1, 256, .inl u1))]) (fun g132 => ?_) (fun J130 => ?_)
        · rw [if_pos g132] at hf
          refine zz_iconst (v := (0 : Int32)) C dL_law_418 (by decide) ?_
          refine zz_sub [] rfl ?_
          cases hf
          refine zz_widen (k := K) (n := N) (by omega) (by omega) ?_
          exact kr _ _ _ rfl dL_law_419
        refine zx_cutI (P := b128 = false) (cells + 2) (slots + 12) 420 [(9, .int x126), (0, .ref b), (1, .ref (ad 0)), (2, .int many_), (3, .ref r0), (4, .int threshold_), (5, .int pieces_), (6, .int groups_), (7, .int p_), (8, .int q_)] [] (zz_wc U ad b116.2 [(r0, .inl (U.1, 256, .inl u1))]) (fun g132 => ?_) (fun J131 => ?_)
        · rw [if_neg (show ¬ b128 = true by rw [g132]; decide)] at hf
          obtain ⟨b145, h146, hf⟩ := zz_bind hf
          refine zx_cutI (P := b145.1 = true) (cells + 4) (slots + 24) 440 [(9, .int x126), (0, .ref b), (1, .ref (ad 0)), (2, .int many_), (3, .ref r0), (4, .int threshold_), (5, .int pieces_), (6, .int groups_), (7, .int p_), (8, .int q_)] [] (zz_wc U ad b145.2 [(r0, .inl (U.1, 256, .inl u1))]) (fun g149 => ?_) (fun J147 => ?_)
          · rw [if_pos g149] at hf
            refine zz_iconst (v := (0 : Int32)) C dL_law_440 (by decide) ?_
            refine zz_sub [] rfl ?_
            cases hf
            refine zz_widen (k := K) (n := N) (by omega) (by omega) ?_
            exact kr _ _ _ rfl dL_law_441
          refine zx_cutI (P := b145.1 = false) (cells + 4) (slots + 24) 442 [(9, .int x126), (0, .ref b), (1, .ref (ad 0)), (2, .int many_), (3, .ref r0), (4, .int threshold_), (5, .int pieces_), (6, .int groups_), (7, .int p_), (8, .int q_)] [] (zz_wc U ad b145.2 [(r0, .inl (U.1, 256, .inl u1))]) (fun g149 => ?_) (fun J148 => ?_)
          · rw [if_neg (show ¬ b145.1 = true by rw [g149]; decide)] at hf
            obtain ⟨b158, h159, hf⟩ := zz_bind hf
            refine zx_cutI (P := b158.1 = true) (cells + 14) (slots + 84) 494 [(9, .int x126), (0, .ref b), (1, .ref (ad 0)), (2, .int many_), (3, .ref r0), (4, .int threshold_), (5, .int pieces_), (6, .int groups_), (7, .int p_), (8, .int q_)] [] (zz_wc U ad b158.2 [(r0, .inl (U.1, 256, .inl u1))]) (fun g162 => ?_) (fun J160 => ?_)
            · rw [if_pos g162] at hf
              refine zz_iconst (v := (0 : Int32)) C dL_law_494 (by decide) ?_
              refine zz_sub [] rfl ?_
              cases hf
              refine zz_widen (k := K) (n := N) (by omega) (by omega) ?_
              exact kr _ _ _ rfl dL_law_495
            refine zx_cutI (P := b158.1 = false) (cells + 14) (slots + 84) 496 [(9, .int x126), (0, .ref b), (1, .ref (ad 0)), (2, .int many_), (3, .ref r0), (4, .int threshold_), (5, .int pieces_), (6, .int groups_), (7, .int p_), (8, .int q_)] [] (zz_wc U ad b158.2 [(r0, .inl (U.1, 256, .inl u1))]) (fun g162 => ?_) (fun J161 => ?_)
            · rw [if_neg (show ¬ b158.1 = true by rw [g162]; decide)] at hf
              refine zz_iinc (v := (q_ + (1 : Int32))) C 9 dL_law_496 rfl (by rfl) (by decide) (lv' := [(8, .int (q_ + (1 : Int32))), (9, .int x126), (0, .ref b), (1, .ref (ad 0)), (2, .int many_), (3, .ref r0), (4, .int threshold_), (5, .int pieces_), (6, .int groups_), (7, .int p_)]) rfl ?_
              refine zz_goto (tgt := 351) C dL_law_499 (by decide) ?_
              refine zz_sub [2, 3, 4, 5, 6, 7, 8, 9, 0] rfl ?_
              refine zz_widen (k := cells + 14) (n := slots + 84) (by omega) (by omega) ?_
              exact ih (q_ + (1 : Int32)) b158.2 _ (cells + 14) (slots + 84) hf (by omega) (by omega) kr kx
            refine zz_aload_n C 2 dL_law_442 rfl rfl ?_
            refine zz_iload C 8 dL_law_443 rfl ?_
            refine zz_iload C 9 dL_law_445 rfl ?_
            obtain ⟨x163, h164, h159⟩ := zz_bind h159
            rcases x163 with x163 | _
            · try dsimp only at h159
              refine zz_callV1 (As := [.int p_, .int q_]) (rest := []) C 0 (mX7_needs_r b145.2 p_ q_ x163 h164) dL_law_447 rfl rfl rfl zwl_21 zy_X7_needs rfl (by decide) (by decide) (Nat.le_of_ble_eq_true rfl) (by omega) (by omega) rfl ?_
              refine zz_if_eq (tgt := 468) C dL_law_450 (by decide) (fun g165 => ?_) (fun g165 => ?_)
              · rw [if_pos g165] at h159
                refine zz_aload_n C 2 dL_law_468 rfl rfl ?_
                refine zz_iload C 9 dL_law_469 rfl ?_
                refine zz_iload C 8 dL_law_471 rfl ?_
                obtain ⟨x166, h167, h159⟩ := zz_bind h159
                rcases x166 with x166 | _
                · try dsimp only at h159
                  refine zz_callV1 (As := [.int q_, .int p_]) (rest := []) C 0 (mX7_needs_r b145.2 q_ p_ x166 h167) dL_law_473 rfl rfl rfl zwl_21 zy_X7_needs rfl (by decide) (by decide) (Nat.le_of_ble_eq_true rfl) (by omega) (by omega) rfl ?_
                  refine zz_if_eq (tgt := 496) C dL_law_476 (by decide) (fun g168 => ?_) (fun g168 => ?_)
                  · rw [if_pos g168] at h159
                    cases h159
                    refine zz_widen (k := (cells + 14)) (n := (slots + 84)) (by omega) (by omega) ?_
                    exact J161 rfl
                  · rw [if_neg g168] at h159
                    refine zz_aload_n C 2 dL_law_479 rfl rfl ?_
                    refine zz_iload C 9 dL_law_480 rfl ?_
                    obtain ⟨⟨x169, σ171⟩, h170, h159⟩ := zz_bind h159
                    rcases x169 with x169 | _
                    · try dsimp only at h159
                      refine zz_callV1 (As := [.int q_]) (rest := []) C 0 (mX7_parcelOf_r b145.2 q_ x169 σ171 h170) dL_law_482 rfl rfl rfl zwl_20 zy_X7_parcelOf rfl (by decide) (by decide) (Nat.le_of_ble_eq_true rfl) (by omega) (by omega) rfl ?_
                      refine zz_aload_n C 2 dL_law_485 rfl rfl ?_
                      refine zz_iload C 8 dL_law_486 rfl ?_
                      obtain ⟨⟨x172, σ174⟩, h173, h159⟩ := zz_bind h159
                      rcases x172 with x172 | _
                      · try dsimp only at h159
                        refine zz_callV1 (As := [.int p_]) (rest := [.int x169]) C 0 (mX7_parcelOf_r σ171 p_ x172 σ174 h173) dL_law_488 rfl rfl rfl zwl_20 zy_X7_parcelOf rfl (by decide) (by decide) (Nat.le_of_ble_eq_true rfl) (by omega) (by omega) rfl ?_
                        refine zz_icmp_ge (tgt := 496) C dL_law_491 (by decide) (fun g175 => ?_) (fun g175 => ?_)
                        · rw [if_pos g175] at h159
                          cases h159
                          refine zz_widen (k := (cells + 14)) (n := (slots + 84)) (by omega) (by omega) ?_
                          exact J161 rfl
                        · rw [if_neg g175] at h159
                          cases h159
                          refine zz_widen (k := (cells + 14)) (n := (slots + 84)) (by omega) (by omega) ?_
                          exact J160 rfl
                      · cases h159
                    · cases h159
                · cases h159
              · rw [if_neg g165] at h159
                refine zz_aload_n C 2 dL_law_453 rfl rfl ?_
                refine zz_iload C 8 dL_law_454 rfl ?_
                obtain ⟨⟨x176, σ178⟩, h177, h159⟩ := zz_bind h159
                rcases x176 with x176 | _
                · try dsimp only at h159
                  refine zz_callV1 (As := [.int p_]) (rest := []) C 0 (mX7_parcelOf_r b145.2 p_ x176 σ178 h177) dL_law_456 rfl rfl rfl zwl_20 zy_X7_parcelOf rfl (by decide) (by decide) (Nat.le_of_ble_eq_true rfl) (by omega) (by omega) rfl ?_
                  refine zz_aload_n C 2 dL_law_459 rfl rfl ?_
                  refine zz_iload C 9 dL_law_460 rfl ?_
                  obtain ⟨⟨x179, σ181⟩, h180, h159⟩ := zz_bind h159
                  rcases x179 with x179 | _
                  · try dsimp only at h159
                    refine zz_callV1 (As := [.int q_]) (rest := [.int x176]) C 0 (mX7_parcelOf_r σ178 q_ x179 σ181 h180) dL_law_462 rfl rfl rfl zwl_20 zy_X7_parcelOf rfl (by decide) (by decide) (Nat.le_of_ble_eq_true rfl) (by omega) (by omega) rfl ?_
                    refine zz_icmp_lt (tgt := 494) C dL_law_465 (by decide) (fun g182 => ?_) (fun g182 => ?_)
                    · rw [if_pos g182] at h159
                      cases h159
                      refine zz_widen (k := (cells + 14)) (n := (slots + 84)) (by omega) (by omega) ?_
                      exact J160 rfl
                    · rw [if_neg g182] at h159
                      refine zz_aload_n C 2 dL_law_468 rfl rfl ?_
                      refine zz_iload C 9 dL_law_469 rfl ?_
                      refine zz_iload C 8 dL_law_471 rfl ?_
                      obtain ⟨x183, h184, h159⟩ := zz_bind h159
                      rcases x183 with x183 | _
                      · try dsimp only at h159
                        refine zz_callV1 (As := [.int q_, .int p_]) (rest := []) C 0 (mX7_needs_r σ181 q_ p_ x183 h184) dL_law_473 rfl rfl rfl zwl_21 zy_X7_needs rfl (by decide) (by decide) (Nat.le_of_ble_eq_true rfl) (by omega) (by omega) rfl ?_
                        refine zz_if_eq (tgt := 496) C dL_law_476 (by decide) (fun g185 => ?_) (fun g185 => ?_)
                        · rw [if_pos g185] at h159
                          cases h159
                          refine zz_widen (k := (cells + 14)) (n := (slots + 84)) (by omega) (by omega) ?_
                          exact J161 rfl
                        · rw [if_neg g185] at h159
                          refine zz_aload_n C 2 dL_law_479 rfl rfl ?_
                          refine zz_iload C 9 dL_law_480 rfl ?_
                          obtain ⟨⟨x186, σ188⟩, h187, h159⟩ := zz_bind h159
                          rcases x186 with x186 | _
                          · try dsimp only at h159
                            refine zz_callV1 (As := [.int q_]) (rest := []) C 0 (mX7_parcelOf_r σ181 q_ x186 σ188 h187) dL_law_482 rfl rfl rfl zwl_20 zy_X7_parcelOf rfl (by decide) (by decide) (Nat.le_of_ble_eq_true rfl) (by omega) (by omega) rfl ?_
                            refine zz_aload_n C 2 dL_law_485 rfl rfl ?_
                            refine zz_iload C 8 dL_law_486 rfl ?_
                            obtain ⟨⟨x189, σ191⟩, h190, h159⟩ := zz_bind h159
                            rcases x189 with x189 | _
                            · try dsimp only at h159
                              refine zz_callV1 (As := [.int p_]) (rest := [.int x186]) C 0 (mX7_parcelOf_r σ188 p_ x189 σ191 h190) dL_law_488 rfl rfl rfl zwl_20 zy_X7_parcelOf rfl (by decide) (by decide) (Nat.le_of_ble_eq_true rfl) (by omega) (by omega) rfl ?_
                              refine zz_icmp_ge (tgt := 496) C dL_law_491 (by decide) (fun g192 => ?_) (fun g192 => ?_)
                              · rw [if_pos g192] at h159
                                cases h159
                                refine zz_widen (k := (cells + 14)) (n := (slots + 84)) (by omega) (by omega) ?_
                                exact J161 rfl
                              · rw [if_neg g192] at h159
                                cases h159
                                refine zz_widen (k := (cells + 14)) (n := (slots + 84)) (by omega) (by omega) ?_
                                exact J160 rfl
                            · cases h159
                          · cases h159
                      · cases h159
                  · cases h159
                · cases h159
            · cases h159
          refine zz_iload C 0 dL_law_420 rfl ?_
          refine zz_if_eq (tgt := 442) C dL_law_422 (by decide) (fun g150 => ?_) (fun g150 => ?_)
          · rw [if_pos g150] at h146
            cases h146
            refine zz_widen (k := (cells + 4)) (n := (slots + 24)) (by omega) (by omega) ?_
            exact J148 rfl
          · rw [if_neg g150] at h146
            refine zz_aload_n C 2 dL_law_425 rfl rfl ?_
            refine zz_iload C 8 dL_law_426 rfl ?_
            obtain ⟨⟨x151, σ153⟩, h152, h146⟩ := zz_bind h146
            rcases x151 with x151 | _
            · try dsimp only at h146
              refine zz_callV1 (As := [.int p_]) (rest := []) C 0 (mX7_parcelOf_r b116.2 p_ x151 σ153 h152) dL_law_428 rfl rfl rfl zwl_20 zy_X7_parcelOf rfl (by decide) (by decide) (Nat.le_of_ble_eq_true rfl) (by omega) (by omega) rfl ?_
              refine zz_aload_n C 2 dL_law_431 rfl rfl ?_
              refine zz_iload C 9 dL_law_432 rfl ?_
              obtain ⟨⟨x154, σ156⟩, h155, h146⟩ := zz_bind h146
              rcases x154 with x154 | _
              · try dsimp only at h146
                refine zz_callV1 (As := [.int q_]) (rest := [.int x151]) C 0 (mX7_parcelOf_r σ153 q_ x154 σ156 h155) dL_law_434 rfl rfl rfl zwl_20 zy_X7_parcelOf rfl (by decide) (by decide) (Nat.le_of_ble_eq_true rfl) (by omega) (by omega) rfl ?_
                refine zz_icmp_eq (tgt := 442) C dL_law_437 (by decide) (fun g157 => ?_) (fun g157 => ?_)
                · rw [if_pos g157] at h146
                  cases h146
                  refine zz_widen (k := (cells + 4)) (n := (slots + 24)) (by omega) (by omega) ?_
                  exact J148 rfl
                · rw [if_neg g157] at h146
                  cases h146
                  refine zz_widen (k := (cells + 4)) (n := (slots + 24)) (by omega) (by omega) ?_
                  exact J147 rfl
              · cases h146
            · cases h146
        refine zz_aload_n C 4 dL_law_380 rfl rfl ?_
        refine zz_bipush (v := (16 : Int32)) C dL_law_381 (by decide) ?_
        refine zz_iload C 8 dL_law_383 rfl ?_
        refine zz_imul C dL_law_385 ?_
        refine zz_iload C 9 dL_law_386 rfl ?_
        refine zz_iadd C dL_law_388 ?_
        obtain ⟨x133, h134, h129⟩ := zz_bind h129
        refine zx_ld 47 C dL_law_389 rfl h134 ?_
        refine zz_iconst (v := (1 : Int32)) C dL_law_390 (by decide) ?_
        refine zz_icmp_ne (tgt := 399) C dL_law_391 (by decide) (fun g135 => ?_) (fun g135 => ?_)
        · rw [if_neg g135] at h129
          refine zz_aload_n C 4 dL_law_399 rfl rfl ?_
          refine zz_bipush (v := (16 : Int32)) C dL_law_400 (by decide) ?_
          refine zz_iload C 8 dL_law_402 rfl ?_
          refine zz_imul C dL_law_404 ?_
          refine zz_iload C 9 dL_law_405 rfl ?_
          refine zz_iadd C dL_law_407 ?_
          obtain ⟨x136, h137, h129⟩ := zz_bind h129
          refine zx_ld 47 C dL_law_408 rfl h137 ?_
          refine zz_iconst (v := (2 : Int32)) C dL_law_409 (by decide) ?_
          refine zz_icmp_ne (tgt := 420) C dL_law_410 (by decide) (fun g138 => ?_) (fun g138 => ?_)
          · rw [if_neg g138] at h129
            cases h129
            refine zz_widen (k := (cells + 2)) (n := (slots + 12)) (by omega) (by omega) ?_
            exact J131 rfl
          · rw [if_pos g138] at h129
            refine zz_iload C 0 dL_law_413 rfl ?_
            refine zz_if_eq (tgt := 420) C dL_law_415 (by decide) (fun g139 => ?_) (fun g139 => ?_)
            · rw [if_pos g139] at h129
              cases h129
              refine zz_widen (k := (cells + 2)) (n := (slots + 12)) (by omega) (by omega) ?_
              exact J131 rfl
            · rw [if_neg g139] at h129
              cases h129
              refine zz_widen (k := (cells + 2)) (n := (slots + 12)) (by omega) (by omega) ?_
              exact J130 rfl
        · rw [if_pos g135] at h129
          refine zz_iload C 0 dL_law_394 rfl ?_
          refine zz_if_eq (tgt := 418) C dL_law_396 (by decide) (fun g140 => ?_) (fun g140 => ?_)
          · rw [if_pos g140] at h129
            cases h129
            refine zz_widen (k := (cells + 2)) (n := (slots + 12)) (by omega) (by omega) ?_
            exact J130 rfl
          · rw [if_neg g140] at h129
            refine zz_aload_n C 4 dL_law_399 rfl rfl ?_
            refine zz_bipush (v := (16 : Int32)) C dL_law_400 (by decide) ?_
            refine zz_iload C 8 dL_law_402 rfl ?_
            refine zz_imul C dL_law_404 ?_
            refine zz_iload C 9 dL_law_405 rfl ?_
            refine zz_iadd C dL_law_407 ?_
            obtain ⟨x141, h142, h129⟩ := zz_bind h129
            refine zx_ld 47 C dL_law_408 rfl h142 ?_
            refine zz_iconst (v := (2 : Int32)) C dL_law_409 (by decide) ?_
            refine zz_icmp_ne (tgt := 420) C dL_law_410 (by decide) (fun g143 => ?_) (fun g143 => ?_)
            · rw [if_neg g143] at h129
              cases h129
              refine zz_widen (k := (cells + 2)) (n := (slots + 12)) (by omega) (by omega) ?_
              exact J131 rfl
            · rw [if_pos g143] at h129
              refine zz_iload C 0 dL_law_413 rfl ?_
              refine zz_if_eq (tgt := 420) C dL_law_415 (by decide) (fun g144 => ?_) (fun g144 => ?_)
              · rw [if_pos g144] at h129
                cases h129
                refine zz_widen (k := (cells + 2)) (n := (slots + 12)) (by omega) (by omega) ?_
                exact J131 rfl
              · rw [if_neg g144] at h129
                cases h129
                refine zz_widen (k := (cells + 2)) (n := (slots + 12)) (by omega) (by omega) ?_
                exact J130 rfl
      refine zz_aload_n C 1 dL_law_358 rfl rfl ?_
      refine zz_iload C 7 dL_law_359 rfl ?_
      obtain ⟨⟨x119, σ121⟩, h120, h117⟩ := zz_bind h117
      rcases x119 with x119 | _
      · try dsimp only at h117
        refine zz_callV1 (As := [.int p_]) (rest := []) C 0 (mX7_groupOf_r σ p_ x119 σ121 h120) dL_law_361 rfl rfl rfl zwl_19 zy_X7_groupOf rfl (by decide) (by decide) (Nat.le_of_ble_eq_true rfl) (by omega) (by omega) rfl ?_
        refine zz_aload_n C 1 dL_law_364 rfl rfl ?_
        refine zz_iload C 8 dL_law_365 rfl ?_
        obtain ⟨⟨x122, σ124⟩, h123, h117⟩ := zz_bind h117
        rcases x122 with x122 | _
        · try dsimp only at h117
          refine zz_callV1 (As := [.int q_]) (rest := [.int x119]) C 0 (mX7_groupOf_r σ121 q_ x122 σ124 h123) dL_law_367 rfl rfl rfl zwl_19 zy_X7_groupOf rfl (by decide) (by decide) (Nat.le_of_ble_eq_true rfl) (by omega) (by omega) rfl ?_
          refine zz_icmp_ne (tgt := 377) C dL_law_370 (by decide) (fun g125 => ?_) (fun g125 => ?_)
          · rw [if_neg g125] at h117
            refine zz_iconst (v := 0) C dL_law_377 (by decide) ?_
            cases h117
            refine zz_widen (k := (cells + 2)) (n := (slots + 12)) (by omega) (by omega) ?_
            exact J118
          · rw [if_pos g125] at h117
            refine zz_iconst (v := 1) C dL_law_373 (by decide) ?_
            refine zz_goto (tgt := 378) C dL_law_374 (by decide) ?_
            cases h117
            refine zz_widen (k := (cells + 2)) (n := (slots + 12)) (by omega) (by omega) ?_
            exact J118
        · cases h117
      · cases h117
set_option maxHeartbeats 4000000 in
set_option maxRecDepth 100000 in
theorem mL_law_L5 {p : Program} {l : Launch} {e : Env} {R : Room} {s : State} {m : MethodId} {args : Array Value} {below : List Frame} {meth : Method} {c : Code} {Q : State → Prop} {D : va_G} {U : zz_U} {A : Nat → Prop} {ad : Nat → Nat} {b L : Nat} {xs : Nat → Int32} {r0 : Nat} (C : zz_C p l R s m meth c D U A RL code 16 ret [] 12) (hX : va_X b L xs s s.heap) (hbl : b < s.heap.size) (hbA : ¬ A b) (K N : Nat) (hK : K ≤ R.cells) (hN : N ≤ R.slots) (u1 : (Nat → Int32)) (many_ : Int32) (threshold_ : Int32) (pieces_ : Int32) (groups_ : Int32) : ∀ (n : Nat) (p_ : Int32) (σ : zz_St) (q : ((Int32 × zz_St) ⊕ (Int32 × zz_St))) (cells slots : Nat), fL_law_L5 u1 many_ n p_ σ = some q → cells + n * 196 ≤ K → slots + n * 1176 ≤ N → (∀ (v : Int32) (m0 : zz_St) (pc' : Nat), q = .inl (v, m0) → decode code pc' = .ok (.ireturn, 1) → zz_Z p l e R s m args below meth c Q D A 16 K N (zz_wc U ad m0 [(r0, .inl (U.1, 256, .inl u1))]) pc' [] [.int v]) → (∀ w : Int32 × zz_St, q = .inr w → zz_Z p l e R s m args below meth c Q D A 16 K N (zz_wc U ad w.2 [(r0, .inl (U.1, 256, .inl u1))]) 508 [(0, .ref b), (1, .ref (ad 0)), (2, .int many_), (3, .ref r0), (4, .int threshold_), (5, .int pieces_), (6, .int groups_), (7, .int w.1)] []) → zz_Z p l e R s m args below meth c Q D A 16 cells slots (zz_wc U ad σ [(r0, .inl (U.1, 256, .inl u1))]) 342 [(0, .ref b), (1, .ref (ad 0)), (2, .int many_), (3, .ref r0), (4, .int threshold_), (5, .int pieces_), (6, .int groups_), (7, .int p_)] [] := by
  intro n
  induction n with
  | zero => intro p_ σ q cells slots hf; rw [fL_law_L5] at hf; cases hf
  | succ n ih =>
    intro p_ σ q cells slots hf hc hs kr kx
    rw [fL_law_L5] at hf
    rw [show (n + 1) * 196 = n * 196 + 196 from Nat.succ_mul n 196] at hc
    rw [show (n + 1) * 1176 = n * 1176 + 1176 from Nat.succ_mul n 1176] at hs
    generalize n * 196 = X1 at hc ih
    generalize n * 1176 = X2 at hs ih
    refine zz_iload C 7 dL_law_342 rfl ?_
    refine zz_iload_n C 2 dL_law_344 rfl rfl ?_
    refine zz_icmp_ge (tgt := 508) C dL_law_345 (by decide) (fun g114 => ?_) (fun g114 => ?_)
    · rw [if_pos g114] at hf
      cases hf
      refine zz_widen (k := K) (n := N) (by omega) (by omega) ?_
      exact kx _ rfl
    · rw [if_neg g114] at hf
      refine zz_iconst (v := (0 : Int32)) C dL_law_348 (by decide) ?_
      refine zz_istore C dL_law_349 (by decide) (lv' := [(8, .int (0 : Int32)), (0, .ref b), (1, .ref (ad 0)), (2, .int many_), (3, .ref r0), (4, .int threshold_), (5, .int pieces_), (6, .int groups_), (7, .int p_)]) rfl ?_
      obtain ⟨q193, h194, hf⟩ := zz_bind hf
      refine zz_sub [1, 2, 3, 4, 5, 6, 7, 8, 0] rfl ?_
      refine mL_law_L6 C hX hbl hbA (cells + 196) (slots + 1176) (by omega) (by omega) u1 many_ threshold_ pieces_ groups_ p_ 14 (0 : Int32) σ q193 _ _ h194 (by omega) (by omega) (fun v195 m200 p199 e197 d198 => ?_) (fun w196 e197 => ?_)
      · subst e197
        cases hf
        refine zz_widen (k := K) (n := N) (by omega) (by omega) ?_
        exact kr _ _ _ rfl d198
      · subst e197
        refine zz_iinc (v := (p_ + (1 : Int32))) C 7 dL_law_502 rfl (by rfl) (by decide) (lv' := [(7, .int (p_ + (1 : Int32))), (0, .ref b), (1, .ref (ad 0)), (2, .int many_), (3, .ref r0), (4, .int threshold_), (5, .int pieces_), (6, .int groups_), (8, .int w196.1)]) rfl ?_
        refine zz_goto (tgt := 342) C dL_law_505 (by decide) ?_
        refine zz_sub [1, 2, 3, 4, 5, 6, 7, 0] rfl ?_
        refine zz_widen (k := cells + 196) (n := slots + 1176) (by omega) (by omega) ?_
        exact ih (p_ + (1 : Int32)) w196.2 _ (cells + 196) (slots + 1176) hf (by omega) (by omega) kr kx
set_option maxHeartbeats 4000000 in
set_option maxRecDepth 100000 in
theorem mL_law_L7 {p : Program} {l : Launch} {e : Env} {R : Room} {s : State} {m : MethodId} {args : Array Value} {below : List Frame} {meth : Method} {c : Code} {Q : State → Prop} {D : va_G} {U : zz_U} {A : Nat → Prop} {ad : Nat → Nat} {b L : Nat} {xs : Nat → Int32} {r0 : Nat} (C : zz_C p l R s m meth c D U A RL code 16 ret [] 12) (hX : va_X b L xs s s.heap) (hbl : b < s.heap.size) (hbA : ¬ A b) (K N : Nat) (hK : K ≤ R.cells) (hN : N ≤ R.slots) (u1 : (Nat → Int32)) (many_ : Int32) (threshold_ : Int32) (pieces_ : Int32) (groups_ : Int32) (parcels_ : Int32) : ∀ (n : Nat) (applied_ : Int32) (lines_ : Int32) (k_ : Int32) (σ : zz_St) (q : ((Int32 × zz_St) ⊕ (Int32 × Int32 × Int32 × zz_St))) (cells slots : Nat), fL_law_L7 parcels_ n applied_ lines_ k_ σ = some q → cells + n * 4 ≤ K → slots + n * 24 ≤ N → (∀ (v : Int32) (m0 : zz_St) (pc' : Nat), q = .inl (v, m0) → decode code pc' = .ok (.ireturn, 1) → zz_Z p l e R s m args below meth c Q D A 16 K N (zz_wc U ad m0 [(r0, .inl (U.1, 256, .inl u1))]) pc' [] [.int v]) → (∀ w : Int32 × Int32 × Int32 × zz_St, q = .inr w → zz_Z p l e R s m args below meth c Q D A 16 K N (zz_wc U ad w.2.2.2 [(r0, .inl (U.1, 256, .inl u1))]) 581 [(0, .ref b), (1, .ref (ad 0)), (2, .int many_), (3, .ref r0), (4, .int threshold_), (5, .int pieces_), (6, .int groups_), (7, .int parcels_), (8, .int w.1), (9, .int w.2.1), (10, .int w.2.2.1)] []) → zz_Z p l e R s m args below meth c Q D A 16 cells slots (zz_wc U ad σ [(r0, .inl (U.1, 256, .inl u1))]) 523 [(0, .ref b), (1, .ref (ad 0)), (2, .int many_), (3, .ref r0), (4, .int threshold_), (5, .int pieces_), (6, .int groups_), (7, .int parcels_), (8, .int applied_), (9, .int lines_), (10, .int k_)] [] := by
  intro n
  induction n with
  | zero => intro applied_ lines_ k_ σ q cells slots hf; rw [fL_law_L7] at hf; cases hf
  | succ n ih =>
    intro applied_ lines_ k_ σ q cells slots hf hc hs kr kx
    rw [fL_law_L7] at hf
    rw [show (n + 1) * 4 = n * 4 + 4 from Nat.succ_mul n 4] at hc
    rw [show (n + 1) * 24 = n * 24 + 24 from Nat.succ_mul n 24] at hs
    generalize n * 4 = X1 at hc ih
    generalize n * 24 = X2 at hs ih
    refine zz_iload C 10 dL_law_523 rfl ?_
    refine zz_iload C 7 dL_law_525 rfl ?_
    refine zz_icmp_ge (tgt := 581) C dL_law_527 (by decide) (fun g211 => ?_) (fun g211 => ?_)
    · rw [if_pos g211] at hf
      cases hf
      refine zz_widen (k := K) (n := N) (by omega) (by omega) ?_
      exact kx _ rfl
    · rw [if_neg g211] at hf
      obtain ⟨b212, h213, hf⟩ := zz_bind hf
      refine zx_cutI (P := b212.1 = true) (cells + 2) (slots + 12) 551 [(0, .ref b), (1, .ref (ad 0)), (2, .int many_), (3, .ref r0), (4, .int threshold_), (5, .int pieces_), (6, .int groups_), (7, .int parcels_), (8, .int applied_), (9, .int lines_), (10, .int k_)] [] (zz_wc U ad b212.2 [(r0, .inl (U.1, 256, .inl u1))]) (fun g216 => ?_) (fun J214 => ?_)
      · rw [if_pos g216] at hf
        refine zz_iconst (v := (0 : Int32)) C dL_law_551 (by decide) ?_
        refine zz_sub [] rfl ?_
        cases hf
        refine zz_widen (k := K) (n := N) (by omega) (by omega) ?_
        exact kr _ _ _ rfl dL_law_552
      refine zx_cutI (P := b212.1 = false) (cells + 2) (slots + 12) 553 [(0, .ref b), (1, .ref (ad 0)), (2, .int many_), (3, .ref r0), (4, .int threshold_), (5, .int pieces_), (6, .int groups_), (7, .int parcels_), (8, .int applied_), (9, .int lines_), (10, .int k_)] [] (zz_wc U ad b212.2 [(r0, .inl (U.1, 256, .inl u1))]) (fun g216 => ?_) (fun J215 => ?_)
      · rw [if_neg (show ¬ b212.1 = true by rw [g216]; decide)] at hf
        refine zz_iload C 8 dL_law_553 rfl ?_
        refine zz_aload_n C 1 dL_law_555 rfl rfl ?_
        refine zz_iload C 10 dL_law_556 rfl ?_
        obtain ⟨⟨x225, σ227⟩, h226, hf⟩ := zz_bind hf
        rcases x225 with x225 | _
        · try dsimp only at hf
          refine zz_callV1 (As := [.int k_]) (rest := [.int applied_]) C 0 (mX7_parcel_r b212.2 k_ x225 σ227 h226) dL_law_558 rfl rfl rfl zwl_23 zy_X7_parcel rfl (by decide) (by decide) (Nat.le_of_ble_eq_true rfl) (by omega) (by omega) rfl ?_
          refine zz_ior C dL_law_561 ?_
          obtain ⟨x228, h229, hf⟩ := zz_bind hf
          refine zz_topi (Option.some.inj h229) ?_
          refine zz_istore C dL_law_562 (by decide) (lv' := [(8, .int x228), (0, .ref b), (1, .ref (ad 0)), (2, .int many_), (3, .ref r0), (4, .int threshold_), (5, .int pieces_), (6, .int groups_), (7, .int parcels_), (9, .int lines_), (10, .int k_)]) rfl ?_
          refine zz_iload C 9 dL_law_564 rfl ?_
          refine zz_aload_n C 2 dL_law_566 rfl rfl ?_
          refine zz_iload C 10 dL_law_567 rfl ?_
          obtain ⟨⟨x230, σ232⟩, h231, hf⟩ := zz_bind hf
          rcases x230 with x230 | _
          · try dsimp only at hf
            refine zz_callV1 (As := [.int k_]) (rest := [.int lines_]) C 0 (mX7_lines_r σ227 k_ x230 σ232 h231) dL_law_569 rfl rfl rfl zwl_24 zy_X7_lines rfl (by decide) (by decide) (Nat.le_of_ble_eq_true rfl) (by omega) (by omega) rfl ?_
            refine zz_iadd C dL_law_572 ?_
            obtain ⟨x233, h234, hf⟩ := zz_bind hf
            refine zz_topi (Option.some.inj h234) ?_
            refine zz_istore C dL_law_573 (by decide) (lv' := [(9, .int x233), (8, .int x228), (0, .ref b), (1, .ref (ad 0)), (2, .int many_), (3, .ref r0), (4, .int threshold_), (5, .int pieces_), (6, .int groups_), (7, .int parcels_), (10, .int k_)]) rfl ?_
            refine zz_iinc (v := (k_ + (1 : Int32))) C 10 dL_law_575 rfl (by rfl) (by decide) (lv' := [(10, .int (k_ + (1 : Int32))), (9, .int x233), (8, .int x228), (0, .ref b), (1, .ref (ad 0)), (2, .int many_), (3, .ref r0), (4, .int threshold_), (5, .int pieces_), (6, .int groups_), (7, .int parcels_)]) rfl ?_
            refine zz_goto (tgt := 523) C dL_law_578 (by decide) ?_
            refine zz_sub [3, 4, 5, 6, 7, 8, 9, 10, 2, 1, 0] rfl ?_
            refine zz_widen (k := cells + 4) (n := slots + 24) (by omega) (by omega) ?_
            exact ih x228 x233 (k_ + (1 : Int32)) σ232 _ (cells + 4) (slots + 24) hf (by omega) (by omega) kr kx
          · cases hf
        · cases hf
      refine zz_aload_n C 1 dL_law_530 rfl rfl ?_
      refine zz_iload C 10 dL_law_531 rfl ?_
      obtain ⟨⟨x217, σ219⟩, h218, h213⟩ := zz_bind h213
      rcases x217 with x217 | _
      · try dsimp only at h213
        refine zz_callV1 (As := [.int k_]) (rest := []) C 0 (mX7_parcel_r σ k_ x217 σ219 h218) dL_law_533 rfl rfl rfl zwl_23 zy_X7_parcel rfl (by decide) (by decide) (Nat.le_of_ble_eq_true rfl) (by omega) (by omega) rfl ?_
        refine zz_if_eq (tgt := 551) C dL_law_536 (by decide) (fun g220 => ?_) (fun g220 => ?_)
        · rw [if_pos g220] at h213
          cases h213
          refine zz_widen (k := (cells + 2)) (n := (slots + 12)) (by omega) (by omega) ?_
          exact J214 rfl
        · rw [if_neg g220] at h213
          refine zz_iload C 8 dL_law_539 rfl ?_
          refine zz_aload_n C 1 dL_law_541 rfl rfl ?_
          refine zz_iload C 10 dL_law_542 rfl ?_
          obtain ⟨⟨x221, σ223⟩, h222, h213⟩ := zz_bind h213
          rcases x221 with x221 | _
          · try dsimp only at h213
            refine zz_callV1 (As := [.int k_]) (rest := [.int applied_]) C 0 (mX7_parcel_r σ219 k_ x221 σ223 h222) dL_law_544 rfl rfl rfl zwl_23 zy_X7_parcel rfl (by decide) (by decide) (Nat.le_of_ble_eq_true rfl) (by omega) (by omega) rfl ?_
            refine zz_iand C dL_law_547 ?_
            refine zz_if_eq (tgt := 553) C dL_law_548 (by decide) (fun g224 => ?_) (fun g224 => ?_)
            · rw [if_pos g224] at h213
              cases h213
              refine zz_widen (k := (cells + 2)) (n := (slots + 12)) (by omega) (by omega) ?_
              exact J215 rfl
            · rw [if_neg g224] at h213
              cases h213
              refine zz_widen (k := (cells + 2)) (n := (slots + 12)) (by omega) (by omega) ?_
              exact J214 rfl
          · cases h213
      · cases h213
set_option maxHeartbeats 4000000 in
set_option maxRecDepth 100000 in
theorem mL_law_L8 {p : Program} {l : Launch} {e : Env} {R : Room} {s : State} {m : MethodId} {args : Array Value} {below : List Frame} {meth : Method} {c : Code} {Q : State → Prop} {D : va_G} {U : zz_U} {A : Nat → Prop} {ad : Nat → Nat} {b L : Nat} {xs : Nat → Int32} {r0 : Nat} (C : zz_C p l R s m meth c D U A RL code 16 ret [] 12) (hX : va_X b L xs s s.heap) (hbl : b < s.heap.size) (hbA : ¬ A b) (K N : Nat) (hK : K ≤ R.cells) (hN : N ≤ R.slots) (u1 : (Nat → Int32)) (many_ : Int32) (threshold_ : Int32) (pieces_ : Int32) (groups_ : Int32) (parcels_ : Int32) (applied_ : Int32) (lines_ : Int32) (least_ : Int32) : ∀ (n : Nat) (sum_ : Int32) (taken_ : Int32) (set_ : Int32) (k_ : Int32) (σ : zz_St) (q : ((Int32 × zz_St) ⊕ (Int32 × Int32 × Int32 × Int32 × zz_St))) (cells slots : Nat), fL_law_L8 parcels_ n sum_ taken_ set_ k_ σ = some q → cells + n * 4 ≤ K → slots + n * 24 ≤ N → (∀ (v : Int32) (m0 : zz_St) (pc' : Nat), q = .inl (v, m0) → decode code pc' = .ok (.ireturn, 1) → zz_Z p l e R s m args below meth c Q D A 16 K N (zz_wc U ad m0 [(r0, .inl (U.1, 256, .inl u1))]) pc' [] [.int v]) → (∀ w : Int32 × Int32 × Int32 × Int32 × zz_St, q = .inr w → zz_Z p l e R s m args below meth c Q D A 16 K N (zz_wc U ad w.2.2.2.2 [(r0, .inl (U.1, 256, .inl u1))]) 706 [(0, .ref b), (1, .ref (ad 0)), (2, .int many_), (3, .ref r0), (4, .int threshold_), (5, .int pieces_), (6, .int groups_), (7, .int parcels_), (8, .int applied_), (9, .int lines_), (10, .int least_), (11, .int w.1), (12, .int w.2.1), (13, .int w.2.2.1), (14, .int w.2.2.2.1)] []) → zz_Z p l e R s m args below meth c Q D A 16 cells slots (zz_wc U ad σ [(r0, .inl (U.1, 256, .inl u1))]) 638 [(0, .ref b), (1, .ref (ad 0)), (2, .int many_), (3, .ref r0), (4, .int threshold_), (5, .int pieces_), (6, .int groups_), (7, .int parcels_), (8, .int applied_), (9, .int lines_), (10, .int least_), (11, .int sum_), (12, .int taken_), (13, .int set_), (14, .int k_)] [] := by
  intro n
  induction n with
  | zero => intro sum_ taken_ set_ k_ σ q cells slots hf; rw [fL_law_L8] at hf; cases hf
  | succ n ih =>
    intro sum_ taken_ set_ k_ σ q cells slots hf hc hs kr kx
    rw [fL_law_L8] at hf
    rw [show (n + 1) * 4 = n * 4 + 4 from Nat.succ_mul n 4] at hc
    rw [show (n + 1) * 24 = n * 24 + 24 from Nat.succ_mul n 24] at hs
    generalize n * 4 = X1 at hc ih
    generalize n * 24 = X2 at hs ih
    refine zz_iload C 14 dL_law_638 rfl ?_
    refine zz_iload C 7 dL_law_640 rfl ?_
    refine zz_icmp_ge (tgt := 706) C dL_law_642 (by decide) (fun g258 => ?_) (fun g258 => ?_)
    · rw [if_pos g258] at hf
      cases hf
      refine zz_widen (k := K) (n := N) (by omega) (by omega) ?_
      exact kx _ rfl
    · rw [if_neg g258] at hf
      refine zz_aload_n C 1 dL_law_645 rfl rfl ?_
      refine zz_iload C 14 dL_law_646 rfl ?_
      obtain ⟨⟨x259, σ261⟩, h260, hf⟩ := zz_bind hf
      rcases x259 with x259 | _
      · try dsimp only at hf
        refine zz_callV1 (As := [.int k_]) (rest := []) C 0 (mX7_best_r σ k_ x259 σ261 h260) dL_law_648 rfl rfl rfl zwl_27 zy_X7_best rfl (by decide) (by decide) (Nat.le_of_ble_eq_true rfl) (by omega) (by omega) rfl ?_
        refine zz_istore C dL_law_651 (by decide) (lv' := [(15, .int x259), (0, .ref b), (1, .ref (ad 0)), (2, .int many_), (3, .ref r0), (4, .int threshold_), (5, .int pieces_), (6, .int groups_), (7, .int parcels_), (8, .int applied_), (9, .int lines_), (10, .int least_), (11, .int sum_), (12, .int taken_), (13, .int set_), (14, .int k_)]) rfl ?_
        refine zz_iload C 13 dL_law_653 rfl ?_
        refine zz_iload C 0 dL_law_655 rfl ?_
        refine zz_ishr C dL_law_657 ?_
        refine zz_iconst (v := (1 : Int32)) C dL_law_658 (by decide) ?_
        refine zz_iand C dL_law_659 ?_
        refine zz_iconst (v := (1 : Int32)) C dL_law_660 (by decide) ?_
        refine zz_icmp_ne (tgt := 666) C dL_law_661 (by decide) (fun g262 => ?_) (fun g262 => ?_)
        · rw [if_neg g262] at hf
          refine zz_iload C 13 dL_law_666 rfl ?_
          refine zz_iconst (v := (1 : Int32)) C dL_law_668 (by decide) ?_
          refine zz_iload C 0 dL_law_669 rfl ?_
          refine zz_ishl C dL_law_671 ?_
          refine zz_ior C dL_law_672 ?_
          obtain ⟨x263, h264, hf⟩ := zz_bind hf
          refine zz_topi (Option.some.inj h264) ?_
          refine zz_istore C dL_law_673 (by decide) (lv' := [(12, .int x263), (15, .int x259), (0, .ref b), (1, .ref (ad 0)), (2, .int many_), (3, .ref r0), (4, .int threshold_), (5, .int pieces_), (6, .int groups_), (7, .int parcels_), (8, .int applied_), (9, .int lines_), (10, .int least_), (11, .int sum_), (13, .int set_), (14, .int k_)]) rfl ?_
          refine zz_iload C 14 dL_law_675 rfl ?_
          refine zz_aload_n C 3 dL_law_677 rfl rfl ?_
          refine zz_iload C 1 dL_law_678 rfl ?_
          obtain ⟨⟨x265, σ267⟩, h266, hf⟩ := zz_bind hf
          rcases x265 with x265 | _
          · try dsimp only at hf
            refine zz_callV1 (As := [.int x259]) (rest := [.int set_]) C 0 (mX7_parcel_r σ261 x259 x265 σ267 h266) dL_law_680 rfl rfl rfl zwl_23 zy_X7_parcel rfl (by decide) (by decide) (Nat.le_of_ble_eq_true rfl) (by omega) (by omega) rfl ?_
            refine zz_ior C dL_law_683 ?_
            obtain ⟨x268, h269, hf⟩ := zz_bind hf
            refine zz_topi (Option.some.inj h269) ?_
            refine zz_istore C dL_law_684 (by decide) (lv' := [(13, .int x268), (12, .int x263), (15, .int x259), (0, .ref b), (1, .ref (ad 0)), (2, .int many_), (3, .ref r0), (4, .int threshold_), (5, .int pieces_), (6, .int groups_), (7, .int parcels_), (8, .int applied_), (9, .int lines_), (10, .int least_), (11, .int sum_), (14, .int k_)]) rfl ?_
            refine zz_iload C 14 dL_law_686 rfl ?_
            refine zz_aload_n C 4 dL_law_688 rfl rfl ?_
            refine zz_iload C 0 dL_law_689 rfl ?_
            obtain ⟨x270, h271, hf⟩ := zz_bind hf
            rcases x270 with x270 | _
            · try dsimp only at hf
              refine zz_callV1 (As := [.int x268]) (rest := [.int sum_]) C 0 (mX7_broken_r σ267 x268 x270 h271) dL_law_691 rfl rfl rfl zwl_28 zy_X7_broken rfl (by decide) (by decide) (Nat.le_of_ble_eq_true rfl) (by omega) (by omega) rfl ?_
              obtain ⟨x272, h273, hf⟩ := zz_bind hf
              refine zz_callS1 (As := [.int x270]) (rest := [.int sum_]) C (mJ6_bitCount x270 x272 h273) dL_law_694 rfl zwl_29 zy_J6_bitCount_0f7a4 rfl (by decide) (by decide) (Nat.le_of_ble_eq_true rfl) (by omega) (by omega) rfl ?_
              refine zz_iadd C dL_law_697 ?_
              obtain ⟨x274, h275, hf⟩ := zz_bind hf
              refine zz_topi (Option.some.inj h275) ?_
              refine zz_istore C dL_law_698 (by decide) (lv' := [(11, .int x274), (13, .int x268), (12, .int x263), (15, .int x259), (0, .ref b), (1, .ref (ad 0)), (2, .int many_), (3, .ref r0), (4, .int threshold_), (5, .int pieces_), (6, .int groups_), (7, .int parcels_), (8, .int applied_), (9, .int lines_), (10, .int least_), (14, .int k_)]) rfl ?_
              refine zz_iinc (v := (k_ + (1 : Int32))) C 15 dL_law_700 rfl (by rfl) (by decide) (lv' := [(14, .int (k_ + (1 : Int32))), (11, .int x274), (13, .int x268), (12, .int x263), (15, .int x259), (0, .ref b), (1, .ref (ad 0)), (2, .int many_), (3, .ref r0), (4, .int threshold_), (5, .int pieces_), (6, .int groups_), (7, .int parcels_), (8, .int applied_), (9, .int lines_), (10, .int least_)]) rfl ?_
              refine zz_goto (tgt := 638) C dL_law_703 (by decide) ?_
              refine zz_sub [5, 6, 7, 8, 9, 10, 11, 12, 13, 14, 15, 1, 3, 2, 0] rfl ?_
              refine zz_widen (k := cells + 4) (n := slots + 24) (by omega) (by omega) ?_
              exact ih x274 x263 x268 (k_ + (1 : Int32)) σ267 _ (cells + 4) (slots + 24) hf (by omega) (by omega) kr kx
            · cases hf
          · cases hf
        · rw [if_pos g262] at hf
          refine zz_iconst (v := (0 : Int32)) C dL_law_664 (by decide) ?_
          refine zz_sub [] rfl ?_
          cases hf
          refine zz_widen (k := K) (n := N) (by omega) (by omega) ?_
          exact kr _ _ _ rfl dL_law_665
      · cases hf
set_option maxHeartbeats 4000000 in
set_option maxRecDepth 100000 in
theorem mL_main {p : Program} {l : Launch} {e : Env} {R : Room} {s : State} {m : MethodId} {args : Array Value} {below : List Frame} {meth : Method} {c : Code} {Q : State → Prop} {D : va_G} {U : zz_U} {A : Nat → Prop} {ad : Nat → Nat} {b L : Nat} {xs : Nat → Int32} {r0 : Nat} (C : zz_C p l R s m meth c D U A RL code 16 ret [] 12) (hX : va_X b L xs s s.heap) (hbl : b < s.heap.size) (hbA : ¬ A b) (K N : Nat) (hK : K ≤ R.cells) (hN : N ≤ R.slots) (σ : zz_St) (u1 : Nat → Int32) (many_ : Int32) (q : Int32 × zz_St) (cells slots : Nat) (hf : fL_main xs L u1 many_ σ = some q) (hc : cells + 43067 ≤ K) (hs : slots + 258402 ≤ N) (kr : ∀ (v : Int32) (m0 : zz_St) (pc' : Nat), q = (v, m0) → decode code pc' = .ok (.ireturn, 1) → zz_Z p l e R s m args below meth c Q D A 16 K N (zz_wc U ad m0 [(r0, .inl (U.1, 256, .inl u1))]) pc' [] [.int v]) : zz_Z p l e R s m args below meth c Q D A 16 cells slots (zz_wc U ad σ [(r0, .inl (U.1, 256, .inl u1))]) 51 [(0, .ref b), (1, .ref (ad 0)), (2, .int many_), (3, .ref r0)] [] := by
  unfold fL_main at hf
  refine zz_iconst (v := (1 : Int32)) C dL_law_51 (by decide) ?_
  refine zz_aload_n C 0 dL_law_52 rfl rfl ?_
  refine zz_bipush (v := (10 : Int32)) C dL_law_53 (by decide) ?_
  obtain ⟨x1, h2, hf⟩ := zz_bind hf
  refine zb_callS1 (As := [.ref b, .int (10 : Int32)]) (rest := [.int (1 : Int32)]) C hX hbl hbA (mL_cell (10 : Int32) x1 h2) dL_law_55 rfl zwl_2 zy_L_cell rfl (by decide) (by decide) (Nat.le_of_ble_eq_true rfl) (by omega) (by omega) rfl ?_
  refine zz_bipush (v := (30 : Int32)) C dL_law_58 (by decide) ?_
  obtain ⟨x3, h4, hf⟩ := zz_bind hf
  refine zz_callS1 (As := [.int x1, .int (30 : Int32)]) (rest := [.int (1 : Int32)]) C (mL_below x1 (30 : Int32) x3 h4) dL_law_60 rfl zwl_3 zy_L_below rfl (by decide) (by decide) (Nat.le_of_ble_eq_true rfl) (by omega) (by omega) rfl ?_
  refine zz_iadd C dL_law_63 ?_
  obtain ⟨x5, h6, hf⟩ := zz_bind hf
  refine zz_topi (Option.some.inj h6) ?_
  refine zz_istore C dL_law_64 (by decide) (lv' := [(4, .int x5), (0, .ref b), (1, .ref (ad 0)), (2, .int many_), (3, .ref r0)]) rfl ?_
  refine zz_aload_n C 2 dL_law_66 rfl rfl ?_
  refine zz_iload C 0 dL_law_67 rfl ?_
  obtain ⟨⟨x7, σ9⟩, h8, hf⟩ := zz_bind hf
  rcases x7 with x7 | _
  · try dsimp only at hf
    refine zz_callV1 (As := [.int x5]) (rest := []) C 0 (mX7_setThreshold_r σ x5 x7 σ9 h8) dL_law_69 rfl rfl rfl zwl_12 zy_X7_setThreshold rfl (by decide) (by decide) (Nat.le_of_ble_eq_true rfl) (by omega) (by omega) rfl ?_
    refine zz_pop C dL_law_72 rfl ?_
    refine zz_aload_n C 2 dL_law_73 rfl rfl ?_
    refine zz_aload_n C 1 dL_law_74 rfl rfl ?_
    refine zz_bipush (v := (10 : Int32)) C dL_law_75 (by decide) ?_
    obtain ⟨x10, h11, hf⟩ := zz_bind hf
    refine zb_callS1 (As := [.ref b, .int (10 : Int32)]) (rest := [.ref (ad 0)]) C hX hbl hbA (mL_cell (10 : Int32) x10 h11) dL_law_77 rfl zwl_2 zy_L_cell rfl (by decide) (by decide) (Nat.le_of_ble_eq_true rfl) (by omega) (by omega) rfl ?_
    refine zz_bipush (v := (6 : Int32)) C dL_law_80 (by decide) ?_
    refine zz_ishr C dL_law_82 ?_
    refine zz_iconst (v := (3 : Int32)) C dL_law_83 (by decide) ?_
    obtain ⟨x12, h13, hf⟩ := zz_bind hf
    refine zz_callS1 (As := [.int (x10 >>> ((6 : Int32) &&& 31)), .int (3 : Int32)]) (rest := [.ref (ad 0)]) C (mL_below (x10 >>> ((6 : Int32) &&& 31)) (3 : Int32) x12 h13) dL_law_84 rfl zwl_3 zy_L_below rfl (by decide) (by decide) (Nat.le_of_ble_eq_true rfl) (by omega) (by omega) rfl ?_
    obtain ⟨⟨x14, σ16⟩, h15, hf⟩ := zz_bind hf
    rcases x14 with x14 | _
    · try dsimp only at hf
      refine zz_callV1 (As := [.int x12]) (rest := []) C 0 (mX7_setManner_r σ9 x12 x14 σ16 h15) dL_law_87 rfl rfl rfl zwl_13 zy_X7_setManner rfl (by decide) (by decide) (Nat.le_of_ble_eq_true rfl) (by omega) (by omega) rfl ?_
      refine zz_pop C dL_law_90 rfl ?_
      refine zz_iconst (v := (0 : Int32)) C dL_law_91 (by decide) ?_
      refine zz_istore C dL_law_92 (by decide) (lv' := [(5, .int (0 : Int32)), (4, .int x5), (0, .ref b), (1, .ref (ad 0)), (2, .int many_), (3, .ref r0)]) rfl ?_
      refine zz_aload_n C 3 dL_law_94 rfl rfl ?_
      obtain ⟨x17, h18, hf⟩ := zz_bind hf
      refine zz_callV1 (As := []) (rest := []) C 0 (mX7_groupCount σ16 x17 h18) dL_law_95 rfl rfl rfl zwl_14 zy_X7_groupCount rfl (by decide) (by decide) (Nat.le_of_ble_eq_true rfl) (by omega) (by omega) rfl ?_
      refine zz_istore C dL_law_98 (by decide) (lv' := [(6, .int x17.1), (5, .int (0 : Int32)), (4, .int x5), (0, .ref b), (1, .ref (ad 0)), (2, .int many_), (3, .ref r0)]) rfl ?_
      refine zz_iconst (v := (0 : Int32)) C dL_law_100 (by decide) ?_
      refine zz_istore C dL_law_101 (by decide) (lv' := [(7, .int (0 : Int32)), (6, .int x17.1), (5, .int (0 : Int32)), (4, .int x5), (0, .ref b), (1, .ref (ad 0)), (2, .int many_), (3, .ref r0)]) rfl ?_
      obtain ⟨q94, h95, hf⟩ := zz_bind hf
      refine zz_sub [4, 5, 6, 7, 3, 2, 1, 0] rfl ?_
      refine mL_law_L1 C hX hbl hbA (cells + 40210) (slots + 241260) (by omega) (by omega) u1 many_ x5 x17.1 14 (0 : Int32) (0 : Int32) x17.2 q94 _ _ h95 (by omega) (by omega) (fun v96 m101 p100 e98 d99 => ?_) (fun w97 e98 => ?_)
      · subst e98
        cases hf
        refine zz_widen (k := K) (n := N) (by omega) (by omega) ?_
        exact kr _ _ _ rfl d99
      · subst e98
        obtain ⟨b102, h103, hf⟩ := zz_bind hf
        refine zx_cutI (P := b102.1 = true) (cells + 40210) (slots + 241260) 337 [(0, .ref b), (1, .ref (ad 0)), (2, .int many_), (3, .ref r0), (4, .int x5), (5, .int w97.1), (6, .int x17.1), (7, .int w97.2.1)] [] (zz_wc U ad b102.2 [(r0, .inl (U.1, 256, .inl u1))]) (fun g106 => ?_) (fun J104 => ?_)
        · rw [if_pos g106] at hf
          refine zz_iconst (v := (0 : Int32)) C dL_law_337 (by decide) ?_
          refine zz_sub [] rfl ?_
          cases hf
          refine zz_widen (k := K) (n := N) (by omega) (by omega) ?_
          exact kr _ _ _ rfl dL_law_338
        refine zx_cutI (P := b102.1 = false) (cells + 40210) (slots + 241260) 339 [(0, .ref b), (1, .ref (ad 0)), (2, .int many_), (3, .ref r0), (4, .int x5), (5, .int w97.1), (6, .int x17.1), (7, .int w97.2.1)] [] (zz_wc U ad b102.2 [(r0, .inl (U.1, 256, .inl u1))]) (fun g106 => ?_) (fun J105 => ?_)
        · rw [if_neg (show ¬ b102.1 = true by rw [g106]; decide)] at hf
          refine zz_iconst (v := (0 : Int32)) C dL_law_339 (by decide) ?_
          refine zz_istore C dL_law_340 (by decide) (lv' := [(7, .int (0 : Int32)), (0, .ref b), (1, .ref (ad 0)), (2, .int many_), (3, .ref r0), (4, .int x5), (5, .int w97.1), (6, .int x17.1)]) rfl ?_
          obtain ⟨q201, h202, hf⟩ := zz_bind hf
          refine zz_sub [1, 2, 3, 4, 5, 6, 7, 0] rfl ?_
          refine mL_law_L5 C hX hbl hbA (cells + 42954) (slots + 257724) (by omega) (by omega) u1 many_ x5 w97.1 x17.1 14 (0 : Int32) b102.2 q201 _ _ h202 (by omega) (by omega) (fun v203 m208 p207 e205 d206 => ?_) (fun w204 e205 => ?_)
          · subst e205
            cases hf
            refine zz_widen (k := K) (n := N) (by omega) (by omega) ?_
            exact kr _ _ _ rfl d206
          · subst e205
            refine zz_aload_n C 1 dL_law_508 rfl rfl ?_
            obtain ⟨x209, h210, hf⟩ := zz_bind hf
            refine zz_callV1 (As := []) (rest := []) C 0 (mX7_parcelCount w204.2 x209 h210) dL_law_509 rfl rfl rfl zwl_22 zy_X7_parcelCount rfl (by decide) (by decide) (Nat.le_of_ble_eq_true rfl) (by omega) (by omega) rfl ?_
            refine zz_istore C dL_law_512 (by decide) (lv' := [(7, .int x209.1), (0, .ref b), (1, .ref (ad 0)), (2, .int many_), (3, .ref r0), (4, .int x5), (5, .int w97.1), (6, .int x17.1)]) rfl ?_
            refine zz_iconst (v := (0 : Int32)) C dL_law_514 (by decide) ?_
            refine zz_istore C dL_law_515 (by decide) (lv' := [(8, .int (0 : Int32)), (7, .int x209.1), (0, .ref b), (1, .ref (ad 0)), (2, .int many_), (3, .ref r0), (4, .int x5), (5, .int w97.1), (6, .int x17.1)]) rfl ?_
            refine zz_iconst (v := (0 : Int32)) C dL_law_517 (by decide) ?_
            refine zz_istore C dL_law_518 (by decide) (lv' := [(9, .int (0 : Int32)), (8, .int (0 : Int32)), (7, .int x209.1), (0, .ref b), (1, .ref (ad 0)), (2, .int many_), (3, .ref r0), (4, .int x5), (5, .int w97.1), (6, .int x17.1)]) rfl ?_
            refine zz_iconst (v := (0 : Int32)) C dL_law_520 (by decide) ?_
            refine zz_istore C dL_law_521 (by decide) (lv' := [(10, .int (0 : Int32)), (9, .int (0 : Int32)), (8, .int (0 : Int32)), (7, .int x209.1), (0, .ref b), (1, .ref (ad 0)), (2, .int many_), (3, .ref r0), (4, .int x5), (5, .int w97.1), (6, .int x17.1)]) rfl ?_
            obtain ⟨q235, h236, hf⟩ := zz_bind hf
            refine zz_sub [4, 5, 6, 7, 8, 9, 10, 3, 2, 1, 0] rfl ?_
            refine mL_law_L7 C hX hbl hbA (cells + 43010) (slots + 258060) (by omega) (by omega) u1 many_ x5 w97.1 x17.1 x209.1 14 (0 : Int32) (0 : Int32) (0 : Int32) x209.2 q235 _ _ h236 (by omega) (by omega) (fun v237 m242 p241 e239 d240 => ?_) (fun w238 e239 => ?_)
            · subst e239
              cases hf
              refine zz_widen (k := K) (n := N) (by omega) (by omega) ?_
              exact kr _ _ _ rfl d240
            · subst e239
              obtain ⟨b243, h244, hf⟩ := zz_bind hf
              refine zx_cutI (P := b243.1 = true) (cells + 43010) (slots + 258060) 609 [(0, .ref b), (1, .ref (ad 0)), (2, .int many_), (3, .ref r0), (4, .int x5), (5, .int w97.1), (6, .int x17.1), (7, .int x209.1), (8, .int w238.1), (9, .int w238.2.1), (10, .int w238.2.2.1)] [] (zz_wc U ad b243.2 [(r0, .inl (U.1, 256, .inl u1))]) (fun g247 => ?_) (fun J245 => ?_)
              · rw [if_pos g247] at hf
                refine zz_iconst (v := (0 : Int32)) C dL_law_609 (by decide) ?_
                refine zz_sub [] rfl ?_
                cases hf
                refine zz_widen (k := K) (n := N) (by omega) (by omega) ?_
                exact kr _ _ _ rfl dL_law_610
              refine zx_cutI (P := b243.1 = false) (cells + 43010) (slots + 258060) 611 [(0, .ref b), (1, .ref (ad 0)), (2, .int many_), (3, .ref r0), (4, .int x5), (5, .int w97.1), (6, .int x17.1), (7, .int x209.1), (8, .int w238.1), (9, .int w238.2.1), (10, .int w238.2.2.1)] [] (zz_wc U ad b243.2 [(r0, .inl (U.1, 256, .inl u1))]) (fun g247 => ?_) (fun J246 => ?_)
              · rw [if_neg (show ¬ b243.1 = true by rw [g247]; decide)] at hf
                refine zz_iload C 7 dL_law_611 rfl ?_
                refine zz_bipush (v := (9 : Int32)) C dL_law_613 (by decide) ?_
                refine zz_icmp_le (tgt := 620) C dL_law_615 (by decide) (fun g254 => ?_) (fun g254 => ?_)
                · rw [if_pos g254] at hf
                  refine zz_aload_n C 1 dL_law_620 rfl rfl ?_
                  obtain ⟨⟨x255, σ257⟩, h256, hf⟩ := zz_bind hf
                  rcases x255 with x255 | _
                  · try dsimp only at hf
                    refine zz_callV1 (As := []) (rest := []) C 0 (mX7_leastBreakage_r b243.2 x255 σ257 h256) dL_law_621 rfl rfl rfl zwl_26 zy_X7_leastBreakage rfl (by decide) (by decide) (Nat.le_of_ble_eq_true rfl) (by omega) (by omega) rfl ?_
                    refine zz_istore C dL_law_624 (by decide) (lv' := [(10, .int x255), (0, .ref b), (1, .ref (ad 0)), (2, .int many_), (3, .ref r0), (4, .int x5), (5, .int w97.1), (6, .int x17.1), (7, .int x209.1), (8, .int w238.1), (9, .int w238.2.1)]) rfl ?_
                    refine zz_iconst (v := (0 : Int32)) C dL_law_626 (by decide) ?_
                    refine zz_istore C dL_law_627 (by decide) (lv' := [(11, .int (0 : Int32)), (10, .int x255), (0, .ref b), (1, .ref (ad 0)), (2, .int many_), (3, .ref r0), (4, .int x5), (5, .int w97.1), (6, .int x17.1), (7, .int x209.1), (8, .int w238.1), (9, .int w238.2.1)]) rfl ?_
                    refine zz_iconst (v := (0 : Int32)) C dL_law_629 (by decide) ?_
                    refine zz_istore C dL_law_630 (by decide) (lv' := [(12, .int (0 : Int32)), (11, .int (0 : Int32)), (10, .int x255), (0, .ref b), (1, .ref (ad 0)), (2, .int many_), (3, .ref r0), (4, .int x5), (5, .int w97.1), (6, .int x17.1), (7, .int x209.1), (8, .int w238.1), (9, .int w238.2.1)]) rfl ?_
                    refine zz_iconst (v := (0 : Int32)) C dL_law_632 (by decide) ?_
                    refine zz_istore C dL_law_633 (by decide) (lv' := [(13, .int (0 : Int32)), (12, .int (0 : Int32)), (11, .int (0 : Int32)), (10, .int x255), (0, .ref b), (1, .ref (ad 0)), (2, .int many_), (3, .ref r0), (4, .int x5), (5, .int w97.1), (6, .int x17.1), (7, .int x209.1), (8, .int w238.1), (9, .int w238.2.1)]) rfl ?_
                    refine zz_iconst (v := (0 : Int32)) C dL_law_635 (by decide) ?_
                    refine zz_istore C dL_law_636 (by decide) (lv' := [(14, .int (0 : Int32)), (13, .int (0 : Int32)), (12, .int (0 : Int32)), (11, .int (0 : Int32)), (10, .int x255), (0, .ref b), (1, .ref (ad 0)), (2, .int many_), (3, .ref r0), (4, .int x5), (5, .int w97.1), (6, .int x17.1), (7, .int x209.1), (8, .int w238.1), (9, .int w238.2.1)]) rfl ?_
                    obtain ⟨q276, h277, hf⟩ := zz_bind hf
                    refine zz_sub [5, 6, 7, 8, 9, 10, 11, 12, 13, 14, 4, 3, 2, 1, 0] rfl ?_
                    refine mL_law_L8 C hX hbl hbA (cells + 43067) (slots + 258402) (by omega) (by omega) u1 many_ x5 w97.1 x17.1 x209.1 w238.1 w238.2.1 x255 14 (0 : Int32) (0 : Int32) (0 : Int32) (0 : Int32) σ257 q276 _ _ h277 (by omega) (by omega) (fun v278 m283 p282 e280 d281 => ?_) (fun w279 e280 => ?_)
                    · subst e280
                      cases hf
                      refine zz_widen (k := K) (n := N) (by omega) (by omega) ?_
                      exact kr _ _ _ rfl d281
                    · subst e280
                      obtain ⟨b284, h285, hf⟩ := zz_bind hf
                      refine zx_cut (cells + 43067) (slots + 258402) 727 [(0, .ref b), (1, .ref (ad 0)), (2, .int many_), (3, .ref r0), (4, .int x5), (5, .int w97.1), (6, .int x17.1), (7, .int x209.1), (8, .int w238.1), (9, .int w238.2.1), (10, .int x255), (11, .int w279.1), (12, .int w279.2.1), (13, .int w279.2.2.1), (14, .int w279.2.2.2.1)] [.int (zz_bi b284.1)] (zz_wc U ad b284.2 [(r0, .inl (U.1, 256, .inl u1))]) ?_ (fun J286 => ?_)
                      · refine zz_sub [] rfl ?_
                        cases hf
                        refine zz_widen (k := K) (n := N) (by omega) (by omega) ?_
                        exact kr _ _ _ rfl dL_law_727
                      refine zz_iload C 11 dL_law_706 rfl ?_
                      refine zz_iload C 10 dL_law_708 rfl ?_
                      refine zz_icmp_ne (tgt := 726) C dL_law_710 (by decide) (fun g287 => ?_) (fun g287 => ?_)
                      · rw [if_neg g287] at h285
                        refine zz_iconst (v := 0) C dL_law_726 (by decide) ?_
                        cases h285
                        refine zz_widen (k := (cells + 43067)) (n := (slots + 258402)) (by omega) (by omega) ?_
                        exact J286
                      · rw [if_pos g287] at h285
                        refine zz_iload C 10 dL_law_713 rfl ?_
                        refine zz_aload_n C 1 dL_law_715 rfl rfl ?_
                        obtain ⟨x288, h289, h285⟩ := zz_bind h285
                        refine zz_callV1 (As := []) (rest := [.int x255]) C 0 (mX7_breakage w279.2.2.2.2 x288 h289) dL_law_716 rfl rfl rfl zwl_30 zy_X7_breakage rfl (by decide) (by decide) (Nat.le_of_ble_eq_true rfl) (by omega) (by omega) rfl ?_
                        refine zz_icmp_gt (tgt := 726) C dL_law_719 (by decide) (fun g290 => ?_) (fun g290 => ?_)
                        · rw [if_pos g290] at h285
                          refine zz_iconst (v := 0) C dL_law_726 (by decide) ?_
                          cases h285
                          refine zz_widen (k := (cells + 43067)) (n := (slots + 258402)) (by omega) (by omega) ?_
                          exact J286
                        · rw [if_neg g290] at h285
                          refine zz_iconst (v := 1) C dL_law_722 (by decide) ?_
                          refine zz_goto (tgt := 727) C dL_law_723 (by decide) ?_
                          cases h285
                          refine zz_widen (k := (cells + 43067)) (n := (slots + 258402)) (by omega) (by omega) ?_
                          exact J286
                  · cases hf
                · rw [if_neg g254] at hf
                  refine zz_iconst (v := (1 : Int32)) C dL_law_618 (by decide) ?_
                  refine zz_sub [] rfl ?_
                  cases hf
                  refine zz_widen (k := K) (n := N) (by omega) (by omega) ?_
                  exact kr _ _ _ rfl dL_law_619
              refine zz_iload C 8 dL_law_581 rfl ?_
              refine zz_iload C 5 dL_law_583 rfl ?_
              refine zz_icmp_ne (tgt := 609) C dL_law_585 (by decide) (fun g248 => ?_) (fun g248 => ?_)
              · rw [if_neg g248] at h244
                cases h244
                refine zz_widen (k := (cells + 43010)) (n := (slots + 258060)) (by omega) (by omega) ?_
                exact J245 rfl
              · rw [if_pos g248] at h244
                refine zz_iload C 7 dL_law_588 rfl ?_
                refine zz_iload C 6 dL_law_590 rfl ?_
                refine zz_icmp_gt (tgt := 609) C dL_law_592 (by decide) (fun g249 => ?_) (fun g249 => ?_)
                · rw [if_pos g249] at h244
                  cases h244
                  refine zz_widen (k := (cells + 43010)) (n := (slots + 258060)) (by omega) (by omega) ?_
                  exact J245 rfl
                · rw [if_neg g249] at h244
                  refine zz_aload_n C 1 dL_law_595 rfl rfl ?_
                  obtain ⟨x250, h251, h244⟩ := zz_bind h244
                  refine zz_callV1 (As := []) (rest := []) C 0 (mX7_knots w238.2.2.2 x250 h251) dL_law_596 rfl rfl rfl zwl_25 zy_X7_knots rfl (by decide) (by decide) (Nat.le_of_ble_eq_true rfl) (by omega) (by omega) rfl ?_
                  refine zz_iload C 7 dL_law_599 rfl ?_
                  refine zz_icmp_gt (tgt := 609) C dL_law_601 (by decide) (fun g252 => ?_) (fun g252 => ?_)
                  · rw [if_pos g252] at h244
                    cases h244
                    refine zz_widen (k := (cells + 43010)) (n := (slots + 258060)) (by omega) (by omega) ?_
                    exact J245 rfl
                  · rw [if_neg g252] at h244
                    refine zz_iload C 9 dL_law_604 rfl ?_
                    refine zz_if_ge (tgt := 611) C dL_law_606 (by decide) (fun g253 => ?_) (fun g253 => ?_)
                    · rw [if_pos g253] at h244
                      cases h244
                      refine zz_widen (k := (cells + 43010)) (n := (slots + 258060)) (by omega) (by omega) ?_
                      exact J246 rfl
                    · rw [if_neg g253] at h244
                      cases h244
                      refine zz_widen (k := (cells + 43010)) (n := (slots + 258060)) (by omega) (by omega) ?_
                      exact J245 rfl
        refine zz_iload C 5 dL_law_310 rfl ?_
        refine zz_iconst (v := (1 : Int32)) C dL_law_312 (by decide) ?_
        refine zz_iload_n C 2 dL_law_313 rfl rfl ?_
        refine zz_ishl C dL_law_314 ?_
        refine zz_iconst (v := (1 : Int32)) C dL_law_315 (by decide) ?_
        refine zz_isub C dL_law_316 ?_
        refine zz_icmp_ne (tgt := 337) C dL_law_317 (by decide) (fun g107 => ?_) (fun g107 => ?_)
        · rw [if_neg g107] at h103
          cases h103
          refine zz_widen (k := (cells + 40210)) (n := (slots + 241260)) (by omega) (by omega) ?_
          exact J104 rfl
        · rw [if_pos g107] at h103
          refine zz_aload_n C 1 dL_law_320 rfl rfl ?_
          obtain ⟨x108, h109, h103⟩ := zz_bind h103
          refine zz_callV1 (As := []) (rest := []) C 0 (mX7_lastLinkage w97.2.2 x108 h109) dL_law_321 rfl rfl rfl zwl_18 zy_X7_lastLinkage rfl (by decide) (by decide) (Nat.le_of_ble_eq_true rfl) (by omega) (by omega) rfl ?_
          refine zz_iconst (v := (-1 : Int32)) C dL_law_324 (by decide) ?_
          refine zz_icmp_eq (tgt := 339) C dL_law_325 (by decide) (fun g110 => ?_) (fun g110 => ?_)
          · rw [if_pos g110] at h103
            cases h103
            refine zz_widen (k := (cells + 40210)) (n := (slots + 241260)) (by omega) (by omega) ?_
            exact J105 rfl
          · rw [if_neg g110] at h103
            refine zz_aload_n C 1 dL_law_328 rfl rfl ?_
            obtain ⟨x111, h112, h103⟩ := zz_bind h103
            refine zz_callV1 (As := []) (rest := []) C 0 (mX7_lastLinkage x108.2 x111 h112) dL_law_329 rfl rfl rfl zwl_18 zy_X7_lastLinkage rfl (by decide) (by decide) (Nat.le_of_ble_eq_true rfl) (by omega) (by omega) rfl ?_
            refine zz_iload C 4 dL_law_332 rfl ?_
            refine zz_icmp_ge (tgt := 339) C dL_law_334 (by decide) (fun g113 => ?_) (fun g113 => ?_)
            · rw [if_pos g113] at h103
              cases h103
              refine zz_widen (k := (cells + 40210)) (n := (slots + 241260)) (by omega) (by omega) ?_
              exact J105 rfl
            · rw [if_neg g113] at h103
              cases h103
              refine zz_widen (k := (cells + 40210)) (n := (slots + 241260)) (by omega) (by omega) ?_
              exact J104 rfl
    · cases hf
  · cases hf
