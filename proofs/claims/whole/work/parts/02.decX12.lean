theorem dX12_init_0 : decode cX12_init 0 = .ok (.aload_n 0, 1) := by decide +kernel
theorem dX12_init_1 : decode cX12_init 1 = .ok (.invokespecial 1, 3) := by decide +kernel
theorem dX12_init_4 : decode cX12_init 4 = .ok (.aload_n 0, 1) := by decide +kernel
theorem dX12_init_5 : decode cX12_init 5 = .ok (.sipush 200, 3) := by decide +kernel
theorem dX12_init_8 : decode cX12_init 8 = .ok (.newarray .int, 2) := by decide +kernel
theorem dX12_init_10 : decode cX12_init 10 = .ok (.putfield 7, 3) := by decide +kernel
theorem dX12_init_13 : decode cX12_init 13 = .ok (.aload_n 0, 1) := by decide +kernel
theorem dX12_init_14 : decode cX12_init 14 = .ok (.iconst (-1), 1) := by decide +kernel
theorem dX12_init_15 : decode cX12_init 15 = .ok (.putfield 13, 3) := by decide +kernel
theorem dX12_init_18 : decode cX12_init 18 = .ok (.aload_n 0, 1) := by decide +kernel
theorem dX12_init_19 : decode cX12_init 19 = .ok (.sipush 400, 3) := by decide +kernel
theorem dX12_init_22 : decode cX12_init 22 = .ok (.newarray .int, 2) := by decide +kernel
theorem dX12_init_24 : decode cX12_init 24 = .ok (.putfield 17, 3) := by decide +kernel
theorem dX12_init_27 : decode cX12_init 27 = .ok (.aload_n 0, 1) := by decide +kernel
theorem dX12_init_28 : decode cX12_init 28 = .ok (.sipush 400, 3) := by decide +kernel
theorem dX12_init_31 : decode cX12_init 31 = .ok (.newarray .int, 2) := by decide +kernel
theorem dX12_init_33 : decode cX12_init 33 = .ok (.putfield 20, 3) := by decide +kernel
theorem dX12_init_36 : decode cX12_init 36 = .ok (.aload_n 0, 1) := by decide +kernel
theorem dX12_init_37 : decode cX12_init 37 = .ok (.sipush 3200, 3) := by decide +kernel
theorem dX12_init_40 : decode cX12_init 40 = .ok (.newarray .int, 2) := by decide +kernel
theorem dX12_init_42 : decode cX12_init 42 = .ok (.putfield 23, 3) := by decide +kernel
theorem dX12_init_45 : decode cX12_init 45 = .ok (.aload_n 0, 1) := by decide +kernel
theorem dX12_init_46 : decode cX12_init 46 = .ok (.ldc 26, 2) := by decide +kernel
theorem dX12_init_48 : decode cX12_init 48 = .ok (.newarray .int, 2) := by decide +kernel
theorem dX12_init_50 : decode cX12_init 50 = .ok (.putfield 27, 3) := by decide +kernel
theorem dX12_init_53 : decode cX12_init 53 = .ok (.aload_n 0, 1) := by decide +kernel
theorem dX12_init_54 : decode cX12_init 54 = .ok (.ldc 26, 2) := by decide +kernel
theorem dX12_init_56 : decode cX12_init 56 = .ok (.newarray .int, 2) := by decide +kernel
theorem dX12_init_58 : decode cX12_init 58 = .ok (.putfield 30, 3) := by decide +kernel
theorem dX12_init_61 : decode cX12_init 61 = .ok (.aload_n 0, 1) := by decide +kernel
theorem dX12_init_62 : decode cX12_init 62 = .ok (.ldc 26, 2) := by decide +kernel
theorem dX12_init_64 : decode cX12_init 64 = .ok (.newarray .int, 2) := by decide +kernel
theorem dX12_init_66 : decode cX12_init 66 = .ok (.putfield 33, 3) := by decide +kernel
theorem dX12_init_69 : decode cX12_init 69 = .ok (.aload_n 0, 1) := by decide +kernel
theorem dX12_init_70 : decode cX12_init 70 = .ok (.ldc 36, 2) := by decide +kernel
theorem dX12_init_72 : decode cX12_init 72 = .ok (.newarray .int, 2) := by decide +kernel
theorem dX12_init_74 : decode cX12_init 74 = .ok (.putfield 37, 3) := by decide +kernel
theorem dX12_init_77 : decode cX12_init 77 = .ok (.aload_n 0, 1) := by decide +kernel
theorem dX12_init_78 : decode cX12_init 78 = .ok (.ldc 36, 2) := by decide +kernel
theorem dX12_init_80 : decode cX12_init 80 = .ok (.newarray .int, 2) := by decide +kernel
theorem dX12_init_82 : decode cX12_init 82 = .ok (.putfield 40, 3) := by decide +kernel
theorem dX12_init_85 : decode cX12_init 85 = .ok (.aload_n 0, 1) := by decide +kernel
theorem dX12_init_86 : decode cX12_init 86 = .ok (.sipush 4000, 3) := by decide +kernel
theorem dX12_init_89 : decode cX12_init 89 = .ok (.newarray .int, 2) := by decide +kernel
theorem dX12_init_91 : decode cX12_init 91 = .ok (.putfield 43, 3) := by decide +kernel
theorem dX12_init_94 : decode cX12_init 94 = .ok (.aload_n 0, 1) := by decide +kernel
theorem dX12_init_95 : decode cX12_init 95 = .ok (.sipush 4000, 3) := by decide +kernel
theorem dX12_init_98 : decode cX12_init 98 = .ok (.newarray .int, 2) := by decide +kernel
theorem dX12_init_100 : decode cX12_init 100 = .ok (.putfield 46, 3) := by decide +kernel
theorem dX12_init_103 : decode cX12_init 103 = .ok (.aload_n 0, 1) := by decide +kernel
theorem dX12_init_104 : decode cX12_init 104 = .ok (.sipush 4000, 3) := by decide +kernel
theorem dX12_init_107 : decode cX12_init 107 = .ok (.newarray .int, 2) := by decide +kernel
theorem dX12_init_109 : decode cX12_init 109 = .ok (.putfield 49, 3) := by decide +kernel
theorem dX12_init_112 : decode cX12_init 112 = .ok (.aload_n 0, 1) := by decide +kernel
theorem dX12_init_113 : decode cX12_init 113 = .ok (.sipush 4000, 3) := by decide +kernel
theorem dX12_init_116 : decode cX12_init 116 = .ok (.newarray .int, 2) := by decide +kernel
theorem dX12_init_118 : decode cX12_init 118 = .ok (.putfield 52, 3) := by decide +kernel
theorem dX12_init_121 : decode cX12_init 121 = .ok (.aload_n 0, 1) := by decide +kernel
theorem dX12_init_122 : decode cX12_init 122 = .ok (.sipush 4000, 3) := by decide +kernel
theorem dX12_init_125 : decode cX12_init 125 = .ok (.newarray .int, 2) := by decide +kernel
theorem dX12_init_127 : decode cX12_init 127 = .ok (.putfield 55, 3) := by decide +kernel
theorem dX12_init_130 : decode cX12_init 130 = .ok (.aload_n 0, 1) := by decide +kernel
theorem dX12_init_131 : decode cX12_init 131 = .ok (.sipush 400, 3) := by decide +kernel
theorem dX12_init_134 : decode cX12_init 134 = .ok (.newarray .int, 2) := by decide +kernel
theorem dX12_init_136 : decode cX12_init 136 = .ok (.putfield 58, 3) := by decide +kernel
theorem dX12_init_139 : decode cX12_init 139 = .ok (.aload_n 0, 1) := by decide +kernel
theorem dX12_init_140 : decode cX12_init 140 = .ok (.sipush 400, 3) := by decide +kernel
theorem dX12_init_143 : decode cX12_init 143 = .ok (.newarray .int, 2) := by decide +kernel
theorem dX12_init_145 : decode cX12_init 145 = .ok (.putfield 61, 3) := by decide +kernel
theorem dX12_init_148 : decode cX12_init 148 = .ok (.aload_n 0, 1) := by decide +kernel
theorem dX12_init_149 : decode cX12_init 149 = .ok (.sipush 400, 3) := by decide +kernel
theorem dX12_init_152 : decode cX12_init 152 = .ok (.newarray .int, 2) := by decide +kernel
theorem dX12_init_154 : decode cX12_init 154 = .ok (.putfield 64, 3) := by decide +kernel
theorem dX12_init_157 : decode cX12_init 157 = .ok (.aload_n 0, 1) := by decide +kernel
theorem dX12_init_158 : decode cX12_init 158 = .ok (.sipush 400, 3) := by decide +kernel
theorem dX12_init_161 : decode cX12_init 161 = .ok (.newarray .int, 2) := by decide +kernel
theorem dX12_init_163 : decode cX12_init 163 = .ok (.putfield 67, 3) := by decide +kernel
theorem dX12_init_166 : decode cX12_init 166 = .ok (.aload_n 0, 1) := by decide +kernel
theorem dX12_init_167 : decode cX12_init 167 = .ok (.sipush 220, 3) := by decide +kernel
theorem dX12_init_170 : decode cX12_init 170 = .ok (.newarray .int, 2) := by decide +kernel
theorem dX12_init_172 : decode cX12_init 172 = .ok (.putfield 70, 3) := by decide +kernel
theorem dX12_init_175 : decode cX12_init 175 = .ok (.aload_n 0, 1) := by decide +kernel
theorem dX12_init_176 : decode cX12_init 176 = .ok (.sipush 220, 3) := by decide +kernel
theorem dX12_init_179 : decode cX12_init 179 = .ok (.newarray .int, 2) := by decide +kernel
theorem dX12_init_181 : decode cX12_init 181 = .ok (.putfield 73, 3) := by decide +kernel
theorem dX12_init_184 : decode cX12_init 184 = .ok (.aload_n 0, 1) := by decide +kernel
theorem dX12_init_185 : decode cX12_init 185 = .ok (.sipush 220, 3) := by decide +kernel
theorem dX12_init_188 : decode cX12_init 188 = .ok (.newarray .int, 2) := by decide +kernel
theorem dX12_init_190 : decode cX12_init 190 = .ok (.putfield 76, 3) := by decide +kernel
theorem dX12_init_193 : decode cX12_init 193 = .ok (.aload_n 0, 1) := by decide +kernel
theorem dX12_init_194 : decode cX12_init 194 = .ok (.sipush 220, 3) := by decide +kernel
theorem dX12_init_197 : decode cX12_init 197 = .ok (.newarray .int, 2) := by decide +kernel
theorem dX12_init_199 : decode cX12_init 199 = .ok (.putfield 79, 3) := by decide +kernel
theorem dX12_init_202 : decode cX12_init 202 = .ok (.aload_n 0, 1) := by decide +kernel
theorem dX12_init_203 : decode cX12_init 203 = .ok (.sipush 200, 3) := by decide +kernel
theorem dX12_init_206 : decode cX12_init 206 = .ok (.newarray .int, 2) := by decide +kernel
theorem dX12_init_208 : decode cX12_init 208 = .ok (.putfield 82, 3) := by decide +kernel
theorem dX12_init_211 : decode cX12_init 211 = .ok (.aload_n 0, 1) := by decide +kernel
theorem dX12_init_212 : decode cX12_init 212 = .ok (.sipush 200, 3) := by decide +kernel
theorem dX12_init_215 : decode cX12_init 215 = .ok (.newarray .int, 2) := by decide +kernel
theorem dX12_init_217 : decode cX12_init 217 = .ok (.putfield 85, 3) := by decide +kernel
theorem dX12_init_220 : decode cX12_init 220 = .ok (.aload_n 0, 1) := by decide +kernel
theorem dX12_init_221 : decode cX12_init 221 = .ok (.sipush 200, 3) := by decide +kernel
theorem dX12_init_224 : decode cX12_init 224 = .ok (.newarray .int, 2) := by decide +kernel
theorem dX12_init_226 : decode cX12_init 226 = .ok (.putfield 88, 3) := by decide +kernel
theorem dX12_init_229 : decode cX12_init 229 = .ok (.aload_n 0, 1) := by decide +kernel
theorem dX12_init_230 : decode cX12_init 230 = .ok (.sipush 200, 3) := by decide +kernel
theorem dX12_init_233 : decode cX12_init 233 = .ok (.newarray .int, 2) := by decide +kernel
theorem dX12_init_235 : decode cX12_init 235 = .ok (.putfield 91, 3) := by decide +kernel
theorem dX12_init_238 : decode cX12_init 238 = .ok (.aload_n 0, 1) := by decide +kernel
theorem dX12_init_239 : decode cX12_init 239 = .ok (.sipush 1800, 3) := by decide +kernel
theorem dX12_init_242 : decode cX12_init 242 = .ok (.newarray .int, 2) := by decide +kernel
theorem dX12_init_244 : decode cX12_init 244 = .ok (.putfield 94, 3) := by decide +kernel
theorem dX12_init_247 : decode cX12_init 247 = .ok (.aload_n 0, 1) := by decide +kernel
theorem dX12_init_248 : decode cX12_init 248 = .ok (.sipush 1800, 3) := by decide +kernel
theorem dX12_init_251 : decode cX12_init 251 = .ok (.newarray .int, 2) := by decide +kernel
theorem dX12_init_253 : decode cX12_init 253 = .ok (.putfield 97, 3) := by decide +kernel
theorem dX12_init_256 : decode cX12_init 256 = .ok (.aload_n 0, 1) := by decide +kernel
theorem dX12_init_257 : decode cX12_init 257 = .ok (.sipush 200, 3) := by decide +kernel
theorem dX12_init_260 : decode cX12_init 260 = .ok (.newarray .int, 2) := by decide +kernel
theorem dX12_init_262 : decode cX12_init 262 = .ok (.putfield 100, 3) := by decide +kernel
theorem dX12_init_265 : decode cX12_init 265 = .ok (.aload_n 0, 1) := by decide +kernel
theorem dX12_init_266 : decode cX12_init 266 = .ok (.sipush 200, 3) := by decide +kernel
theorem dX12_init_269 : decode cX12_init 269 = .ok (.newarray .int, 2) := by decide +kernel
theorem dX12_init_271 : decode cX12_init 271 = .ok (.putfield 103, 3) := by decide +kernel
theorem dX12_init_274 : decode cX12_init 274 = .ok (.aload_n 0, 1) := by decide +kernel
theorem dX12_init_275 : decode cX12_init 275 = .ok (.sipush 200, 3) := by decide +kernel
theorem dX12_init_278 : decode cX12_init 278 = .ok (.newarray .int, 2) := by decide +kernel
theorem dX12_init_280 : decode cX12_init 280 = .ok (.putfield 106, 3) := by decide +kernel
theorem dX12_init_283 : decode cX12_init 283 = .ok (.aload_n 0, 1) := by decide +kernel
theorem dX12_init_284 : decode cX12_init 284 = .ok (.sipush 200, 3) := by decide +kernel
theorem dX12_init_287 : decode cX12_init 287 = .ok (.newarray .int, 2) := by decide +kernel
theorem dX12_init_289 : decode cX12_init 289 = .ok (.putfield 109, 3) := by decide +kernel
theorem dX12_init_292 : decode cX12_init 292 = .ok (.aload_n 0, 1) := by decide +kernel
theorem dX12_init_293 : decode cX12_init 293 = .ok (.sipush 1800, 3) := by decide +kernel
theorem dX12_init_296 : decode cX12_init 296 = .ok (.newarray .int, 2) := by decide +kernel
theorem dX12_init_298 : decode cX12_init 298 = .ok (.putfield 112, 3) := by decide +kernel
theorem dX12_init_301 : decode cX12_init 301 = .ok (.aload_n 0, 1) := by decide +kernel
theorem dX12_init_302 : decode cX12_init 302 = .ok (.sipush 1800, 3) := by decide +kernel
theorem dX12_init_305 : decode cX12_init 305 = .ok (.newarray .int, 2) := by decide +kernel
theorem dX12_init_307 : decode cX12_init 307 = .ok (.putfield 115, 3) := by decide +kernel
theorem dX12_init_310 : decode cX12_init 310 = .ok (.aload_n 0, 1) := by decide +kernel
theorem dX12_init_311 : decode cX12_init 311 = .ok (.sipush 200, 3) := by decide +kernel
theorem dX12_init_314 : decode cX12_init 314 = .ok (.newarray .int, 2) := by decide +kernel
theorem dX12_init_316 : decode cX12_init 316 = .ok (.putfield 118, 3) := by decide +kernel
theorem dX12_init_319 : decode cX12_init 319 = .ok (.aload_n 0, 1) := by decide +kernel
theorem dX12_init_320 : decode cX12_init 320 = .ok (.sipush 220, 3) := by decide +kernel
theorem dX12_init_323 : decode cX12_init 323 = .ok (.newarray .int, 2) := by decide +kernel
theorem dX12_init_325 : decode cX12_init 325 = .ok (.putfield 121, 3) := by decide +kernel
theorem dX12_init_328 : decode cX12_init 328 = .ok (.aload_n 0, 1) := by decide +kernel
theorem dX12_init_329 : decode cX12_init 329 = .ok (.sipush 220, 3) := by decide +kernel
theorem dX12_init_332 : decode cX12_init 332 = .ok (.newarray .int, 2) := by decide +kernel
theorem dX12_init_334 : decode cX12_init 334 = .ok (.putfield 124, 3) := by decide +kernel
theorem dX12_init_337 : decode cX12_init 337 = .ok (.aload_n 0, 1) := by decide +kernel
theorem dX12_init_338 : decode cX12_init 338 = .ok (.sipush 200, 3) := by decide +kernel
theorem dX12_init_341 : decode cX12_init 341 = .ok (.newarray .int, 2) := by decide +kernel
theorem dX12_init_343 : decode cX12_init 343 = .ok (.putfield 127, 3) := by decide +kernel
theorem dX12_init_346 : decode cX12_init 346 = .ok (.aload_n 0, 1) := by decide +kernel
theorem dX12_init_347 : decode cX12_init 347 = .ok (.sipush 220, 3) := by decide +kernel
theorem dX12_init_350 : decode cX12_init 350 = .ok (.newarray .int, 2) := by decide +kernel
theorem dX12_init_352 : decode cX12_init 352 = .ok (.putfield 130, 3) := by decide +kernel
theorem dX12_init_355 : decode cX12_init 355 = .ok (.aload_n 0, 1) := by decide +kernel
theorem dX12_init_356 : decode cX12_init 356 = .ok (.sipush 220, 3) := by decide +kernel
theorem dX12_init_359 : decode cX12_init 359 = .ok (.newarray .int, 2) := by decide +kernel
theorem dX12_init_361 : decode cX12_init 361 = .ok (.putfield 133, 3) := by decide +kernel
theorem dX12_init_364 : decode cX12_init 364 = .ok (.aload_n 0, 1) := by decide +kernel
theorem dX12_init_365 : decode cX12_init 365 = .ok (.sipush 220, 3) := by decide +kernel
theorem dX12_init_368 : decode cX12_init 368 = .ok (.newarray .int, 2) := by decide +kernel
theorem dX12_init_370 : decode cX12_init 370 = .ok (.putfield 136, 3) := by decide +kernel
theorem dX12_init_373 : decode cX12_init 373 = .ok (.aload_n 0, 1) := by decide +kernel
theorem dX12_init_374 : decode cX12_init 374 = .ok (.sipush 200, 3) := by decide +kernel
theorem dX12_init_377 : decode cX12_init 377 = .ok (.newarray .int, 2) := by decide +kernel
theorem dX12_init_379 : decode cX12_init 379 = .ok (.putfield 139, 3) := by decide +kernel
theorem dX12_init_382 : decode cX12_init 382 = .ok (.aload_n 0, 1) := by decide +kernel
theorem dX12_init_383 : decode cX12_init 383 = .ok (.sipush 220, 3) := by decide +kernel
theorem dX12_init_386 : decode cX12_init 386 = .ok (.newarray .int, 2) := by decide +kernel
theorem dX12_init_388 : decode cX12_init 388 = .ok (.putfield 142, 3) := by decide +kernel
theorem dX12_init_391 : decode cX12_init 391 = .ok (.aload_n 0, 1) := by decide +kernel
theorem dX12_init_392 : decode cX12_init 392 = .ok (.sipush 2000, 3) := by decide +kernel
theorem dX12_init_395 : decode cX12_init 395 = .ok (.newarray .int, 2) := by decide +kernel
theorem dX12_init_397 : decode cX12_init 397 = .ok (.putfield 145, 3) := by decide +kernel
theorem dX12_init_400 : decode cX12_init 400 = .ok (.aload_n 0, 1) := by decide +kernel
theorem dX12_init_401 : decode cX12_init 401 = .ok (.sipush 2000, 3) := by decide +kernel
theorem dX12_init_404 : decode cX12_init 404 = .ok (.newarray .int, 2) := by decide +kernel
theorem dX12_init_406 : decode cX12_init 406 = .ok (.putfield 148, 3) := by decide +kernel
theorem dX12_init_409 : decode cX12_init 409 = .ok (.aload_n 0, 1) := by decide +kernel
theorem dX12_init_410 : decode cX12_init 410 = .ok (.sipush 16000, 3) := by decide +kernel
theorem dX12_init_413 : decode cX12_init 413 = .ok (.newarray .int, 2) := by decide +kernel
theorem dX12_init_415 : decode cX12_init 415 = .ok (.putfield 151, 3) := by decide +kernel
theorem dX12_init_418 : decode cX12_init 418 = .ok (.aload_n 0, 1) := by decide +kernel
theorem dX12_init_419 : decode cX12_init 419 = .ok (.sipush 2000, 3) := by decide +kernel
theorem dX12_init_422 : decode cX12_init 422 = .ok (.newarray .int, 2) := by decide +kernel
theorem dX12_init_424 : decode cX12_init 424 = .ok (.putfield 154, 3) := by decide +kernel
theorem dX12_init_427 : decode cX12_init 427 = .ok (.aload_n 0, 1) := by decide +kernel
theorem dX12_init_428 : decode cX12_init 428 = .ok (.sipush 2000, 3) := by decide +kernel
theorem dX12_init_431 : decode cX12_init 431 = .ok (.newarray .int, 2) := by decide +kernel
theorem dX12_init_433 : decode cX12_init 433 = .ok (.putfield 157, 3) := by decide +kernel
theorem dX12_init_436 : decode cX12_init 436 = .ok (.aload_n 0, 1) := by decide +kernel
theorem dX12_init_437 : decode cX12_init 437 = .ok (.sipush 20400, 3) := by decide +kernel
theorem dX12_init_440 : decode cX12_init 440 = .ok (.newarray .int, 2) := by decide +kernel
theorem dX12_init_442 : decode cX12_init 442 = .ok (.putfield 160, 3) := by decide +kernel
theorem dX12_init_445 : decode cX12_init 445 = .ok (.aload_n 0, 1) := by decide +kernel
theorem dX12_init_446 : decode cX12_init 446 = .ok (.sipush 20400, 3) := by decide +kernel
theorem dX12_init_449 : decode cX12_init 449 = .ok (.newarray .int, 2) := by decide +kernel
theorem dX12_init_451 : decode cX12_init 451 = .ok (.putfield 163, 3) := by decide +kernel
theorem dX12_init_454 : decode cX12_init 454 = .ok (.aload_n 0, 1) := by decide +kernel
theorem dX12_init_455 : decode cX12_init 455 = .ok (.sipush 301, 3) := by decide +kernel
theorem dX12_init_458 : decode cX12_init 458 = .ok (.newarray .int, 2) := by decide +kernel
theorem dX12_init_460 : decode cX12_init 460 = .ok (.putfield 166, 3) := by decide +kernel
theorem dX12_init_463 : decode cX12_init 463 = .ok (.aload_n 0, 1) := by decide +kernel
theorem dX12_init_464 : decode cX12_init 464 = .ok (.sipush 301, 3) := by decide +kernel
theorem dX12_init_467 : decode cX12_init 467 = .ok (.newarray .int, 2) := by decide +kernel
theorem dX12_init_469 : decode cX12_init 469 = .ok (.putfield 169, 3) := by decide +kernel
theorem dX12_init_472 : decode cX12_init 472 = .ok (.aload_n 0, 1) := by decide +kernel
theorem dX12_init_473 : decode cX12_init 473 = .ok (.sipush 301, 3) := by decide +kernel
theorem dX12_init_476 : decode cX12_init 476 = .ok (.newarray .int, 2) := by decide +kernel
theorem dX12_init_478 : decode cX12_init 478 = .ok (.putfield 172, 3) := by decide +kernel
theorem dX12_init_481 : decode cX12_init 481 = .ok (.aload_n 0, 1) := by decide +kernel
theorem dX12_init_482 : decode cX12_init 482 = .ok (.sipush 301, 3) := by decide +kernel
theorem dX12_init_485 : decode cX12_init 485 = .ok (.newarray .int, 2) := by decide +kernel
theorem dX12_init_487 : decode cX12_init 487 = .ok (.putfield 175, 3) := by decide +kernel
theorem dX12_init_490 : decode cX12_init 490 = .ok (.aload_n 0, 1) := by decide +kernel
theorem dX12_init_491 : decode cX12_init 491 = .ok (.sipush 2709, 3) := by decide +kernel
theorem dX12_init_494 : decode cX12_init 494 = .ok (.newarray .int, 2) := by decide +kernel
theorem dX12_init_496 : decode cX12_init 496 = .ok (.putfield 178, 3) := by decide +kernel
theorem dX12_init_499 : decode cX12_init 499 = .ok (.aload_n 0, 1) := by decide +kernel
theorem dX12_init_500 : decode cX12_init 500 = .ok (.iconst (-1), 1) := by decide +kernel
theorem dX12_init_501 : decode cX12_init 501 = .ok (.putfield 13, 3) := by decide +kernel
theorem dX12_init_504 : decode cX12_init 504 = .ok (.return_, 1) := by decide +kernel
theorem dX12_in_0 : decode cX12_in 0 = .ok (.iload_n 0, 1) := by decide +kernel
theorem dX12_in_1 : decode cX12_in 1 = .ok (.iload_n 1, 1) := by decide +kernel
theorem dX12_in_2 : decode cX12_in 2 = .ok (.if_icmp .lt 12, 3) := by decide +kernel
theorem dX12_in_5 : decode cX12_in 5 = .ok (.iload_n 0, 1) := by decide +kernel
theorem dX12_in_6 : decode cX12_in 6 = .ok (.iload_n 2, 1) := by decide +kernel
theorem dX12_in_7 : decode cX12_in 7 = .ok (.if_icmp .gt 7, 3) := by decide +kernel
theorem dX12_in_10 : decode cX12_in 10 = .ok (.iconst 1, 1) := by decide +kernel
theorem dX12_in_11 : decode cX12_in 11 = .ok (.goto 4, 3) := by decide +kernel
theorem dX12_in_14 : decode cX12_in 14 = .ok (.iconst 0, 1) := by decide +kernel
theorem dX12_in_15 : decode cX12_in 15 = .ok (.ireturn, 1) := by decide +kernel
theorem dX12_isNode_0 : decode cX12_isNode 0 = .ok (.iload_n 1, 1) := by decide +kernel
theorem dX12_isNode_1 : decode cX12_isNode 1 = .ok (.iconst 0, 1) := by decide +kernel
theorem dX12_isNode_2 : decode cX12_isNode 2 = .ok (.aload_n 0, 1) := by decide +kernel
theorem dX12_isNode_3 : decode cX12_isNode 3 = .ok (.getfield 181, 3) := by decide +kernel
theorem dX12_isNode_6 : decode cX12_isNode 6 = .ok (.iconst 1, 1) := by decide +kernel
theorem dX12_isNode_7 : decode cX12_isNode 7 = .ok (.isub, 1) := by decide +kernel
theorem dX12_isNode_8 : decode cX12_isNode 8 = .ok (.invokestatic 184, 3) := by decide +kernel
theorem dX12_isNode_11 : decode cX12_isNode 11 = .ok (.ireturn, 1) := by decide +kernel
theorem dX12_clear_0 : decode cX12_clear 0 = .ok (.aload_n 0, 1) := by decide +kernel
theorem dX12_clear_1 : decode cX12_clear 1 = .ok (.getfield 181, 3) := by decide +kernel
theorem dX12_clear_4 : decode cX12_clear 4 = .ok (.istore_n 1, 1) := by decide +kernel
theorem dX12_clear_5 : decode cX12_clear 5 = .ok (.aload_n 0, 1) := by decide +kernel
theorem dX12_clear_6 : decode cX12_clear 6 = .ok (.iconst 0, 1) := by decide +kernel
theorem dX12_clear_7 : decode cX12_clear 7 = .ok (.putfield 181, 3) := by decide +kernel
theorem dX12_clear_10 : decode cX12_clear 10 = .ok (.aload_n 0, 1) := by decide +kernel
theorem dX12_clear_11 : decode cX12_clear 11 = .ok (.iconst 0, 1) := by decide +kernel
theorem dX12_clear_12 : decode cX12_clear 12 = .ok (.putfield 188, 3) := by decide +kernel
theorem dX12_clear_15 : decode cX12_clear 15 = .ok (.aload_n 0, 1) := by decide +kernel
theorem dX12_clear_16 : decode cX12_clear 16 = .ok (.iconst 0, 1) := by decide +kernel
theorem dX12_clear_17 : decode cX12_clear 17 = .ok (.putfield 192, 3) := by decide +kernel
theorem dX12_clear_20 : decode cX12_clear 20 = .ok (.aload_n 0, 1) := by decide +kernel
theorem dX12_clear_21 : decode cX12_clear 21 = .ok (.iconst 0, 1) := by decide +kernel
theorem dX12_clear_22 : decode cX12_clear 22 = .ok (.putfield 195, 3) := by decide +kernel
theorem dX12_clear_25 : decode cX12_clear 25 = .ok (.iload_n 1, 1) := by decide +kernel
theorem dX12_clear_26 : decode cX12_clear 26 = .ok (.ireturn, 1) := by decide +kernel
theorem dX12_feed_0 : decode cX12_feed 0 = .ok (.aload_n 0, 1) := by decide +kernel
theorem dX12_feed_1 : decode cX12_feed 1 = .ok (.getfield 198, 3) := by decide +kernel
theorem dX12_feed_4 : decode cX12_feed 4 = .ok (.sipush 200, 3) := by decide +kernel
theorem dX12_feed_7 : decode cX12_feed 7 = .ok (.if_icmp .ne 6, 3) := by decide +kernel
theorem dX12_feed_10 : decode cX12_feed 10 = .ok (.bipush (-3), 2) := by decide +kernel
theorem dX12_feed_12 : decode cX12_feed 12 = .ok (.ireturn, 1) := by decide +kernel
theorem dX12_feed_13 : decode cX12_feed 13 = .ok (.aload_n 0, 1) := by decide +kernel
theorem dX12_feed_14 : decode cX12_feed 14 = .ok (.getfield 7, 3) := by decide +kernel
theorem dX12_feed_17 : decode cX12_feed 17 = .ok (.aload_n 0, 1) := by decide +kernel
theorem dX12_feed_18 : decode cX12_feed 18 = .ok (.getfield 198, 3) := by decide +kernel
theorem dX12_feed_21 : decode cX12_feed 21 = .ok (.iload_n 1, 1) := by decide +kernel
theorem dX12_feed_22 : decode cX12_feed 22 = .ok (.iastore, 1) := by decide +kernel
theorem dX12_feed_23 : decode cX12_feed 23 = .ok (.aload_n 0, 1) := by decide +kernel
theorem dX12_feed_24 : decode cX12_feed 24 = .ok (.dup, 1) := by decide +kernel
theorem dX12_feed_25 : decode cX12_feed 25 = .ok (.getfield 198, 3) := by decide +kernel
theorem dX12_feed_28 : decode cX12_feed 28 = .ok (.iconst 1, 1) := by decide +kernel
theorem dX12_feed_29 : decode cX12_feed 29 = .ok (.iadd, 1) := by decide +kernel
theorem dX12_feed_30 : decode cX12_feed 30 = .ok (.putfield 198, 3) := by decide +kernel
theorem dX12_feed_33 : decode cX12_feed 33 = .ok (.aload_n 0, 1) := by decide +kernel
theorem dX12_feed_34 : decode cX12_feed 34 = .ok (.getfield 198, 3) := by decide +kernel
theorem dX12_feed_37 : decode cX12_feed 37 = .ok (.ireturn, 1) := by decide +kernel
theorem dX12_newNode_0 : decode cX12_newNode 0 = .ok (.aload_n 0, 1) := by decide +kernel
theorem dX12_newNode_1 : decode cX12_newNode 1 = .ok (.getfield 17, 3) := by decide +kernel
theorem dX12_newNode_4 : decode cX12_newNode 4 = .ok (.aload_n 0, 1) := by decide +kernel
theorem dX12_newNode_5 : decode cX12_newNode 5 = .ok (.getfield 181, 3) := by decide +kernel
theorem dX12_newNode_8 : decode cX12_newNode 8 = .ok (.iload_n 1, 1) := by decide +kernel
theorem dX12_newNode_9 : decode cX12_newNode 9 = .ok (.iastore, 1) := by decide +kernel
theorem dX12_newNode_10 : decode cX12_newNode 10 = .ok (.aload_n 0, 1) := by decide +kernel
theorem dX12_newNode_11 : decode cX12_newNode 11 = .ok (.getfield 20, 3) := by decide +kernel
theorem dX12_newNode_14 : decode cX12_newNode 14 = .ok (.aload_n 0, 1) := by decide +kernel
theorem dX12_newNode_15 : decode cX12_newNode 15 = .ok (.getfield 181, 3) := by decide +kernel
theorem dX12_newNode_18 : decode cX12_newNode 18 = .ok (.iload_n 1, 1) := by decide +kernel
theorem dX12_newNode_19 : decode cX12_newNode 19 = .ok (.iconst 4, 1) := by decide +kernel
theorem dX12_newNode_20 : decode cX12_newNode 20 = .ok (.if_icmp .ne 7, 3) := by decide +kernel
theorem dX12_newNode_23 : decode cX12_newNode 23 = .ok (.iconst 3, 1) := by decide +kernel
theorem dX12_newNode_24 : decode cX12_newNode 24 = .ok (.goto 4, 3) := by decide +kernel
theorem dX12_newNode_27 : decode cX12_newNode 27 = .ok (.iload_n 2, 1) := by decide +kernel
theorem dX12_newNode_28 : decode cX12_newNode 28 = .ok (.iastore, 1) := by decide +kernel
theorem dX12_newNode_29 : decode cX12_newNode 29 = .ok (.iconst 0, 1) := by decide +kernel
theorem dX12_newNode_30 : decode cX12_newNode 30 = .ok (.istore_n 3, 1) := by decide +kernel
theorem dX12_newNode_31 : decode cX12_newNode 31 = .ok (.iload_n 3, 1) := by decide +kernel
theorem dX12_newNode_32 : decode cX12_newNode 32 = .ok (.bipush 8, 2) := by decide +kernel
theorem dX12_newNode_34 : decode cX12_newNode 34 = .ok (.if_icmp .ge 24, 3) := by decide +kernel
theorem dX12_newNode_37 : decode cX12_newNode 37 = .ok (.aload_n 0, 1) := by decide +kernel
theorem dX12_newNode_38 : decode cX12_newNode 38 = .ok (.getfield 23, 3) := by decide +kernel
theorem dX12_newNode_41 : decode cX12_newNode 41 = .ok (.bipush 8, 2) := by decide +kernel
theorem dX12_newNode_43 : decode cX12_newNode 43 = .ok (.aload_n 0, 1) := by decide +kernel
theorem dX12_newNode_44 : decode cX12_newNode 44 = .ok (.getfield 181, 3) := by decide +kernel
theorem dX12_newNode_47 : decode cX12_newNode 47 = .ok (.imul, 1) := by decide +kernel
theorem dX12_newNode_48 : decode cX12_newNode 48 = .ok (.iload_n 3, 1) := by decide +kernel
theorem dX12_newNode_49 : decode cX12_newNode 49 = .ok (.iadd, 1) := by decide +kernel
theorem dX12_newNode_50 : decode cX12_newNode 50 = .ok (.iconst (-1), 1) := by decide +kernel
theorem dX12_newNode_51 : decode cX12_newNode 51 = .ok (.iastore, 1) := by decide +kernel
theorem dX12_newNode_52 : decode cX12_newNode 52 = .ok (.iinc 3 1, 3) := by decide +kernel
theorem dX12_newNode_55 : decode cX12_newNode 55 = .ok (.goto (-24), 3) := by decide +kernel
theorem dX12_newNode_58 : decode cX12_newNode 58 = .ok (.aload_n 0, 1) := by decide +kernel
theorem dX12_newNode_59 : decode cX12_newNode 59 = .ok (.dup, 1) := by decide +kernel
theorem dX12_newNode_60 : decode cX12_newNode 60 = .ok (.getfield 181, 3) := by decide +kernel
theorem dX12_newNode_63 : decode cX12_newNode 63 = .ok (.iconst 1, 1) := by decide +kernel
theorem dX12_newNode_64 : decode cX12_newNode 64 = .ok (.iadd, 1) := by decide +kernel
theorem dX12_newNode_65 : decode cX12_newNode 65 = .ok (.putfield 181, 3) := by decide +kernel
theorem dX12_newNode_68 : decode cX12_newNode 68 = .ok (.aload_n 0, 1) := by decide +kernel
theorem dX12_newNode_69 : decode cX12_newNode 69 = .ok (.getfield 181, 3) := by decide +kernel
theorem dX12_newNode_72 : decode cX12_newNode 72 = .ok (.iconst 1, 1) := by decide +kernel
theorem dX12_newNode_73 : decode cX12_newNode 73 = .ok (.isub, 1) := by decide +kernel
theorem dX12_newNode_74 : decode cX12_newNode 74 = .ok (.ireturn, 1) := by decide +kernel
theorem dX12_part_0 : decode cX12_part 0 = .ok (.aload_n 0, 1) := by decide +kernel
theorem dX12_part_1 : decode cX12_part 1 = .ok (.getfield 23, 3) := by decide +kernel
theorem dX12_part_4 : decode cX12_part 4 = .ok (.bipush 8, 2) := by decide +kernel
theorem dX12_part_6 : decode cX12_part 6 = .ok (.iload_n 1, 1) := by decide +kernel
theorem dX12_part_7 : decode cX12_part 7 = .ok (.imul, 1) := by decide +kernel
theorem dX12_part_8 : decode cX12_part 8 = .ok (.iload_n 2, 1) := by decide +kernel
theorem dX12_part_9 : decode cX12_part 9 = .ok (.iadd, 1) := by decide +kernel
theorem dX12_part_10 : decode cX12_part 10 = .ok (.iaload, 1) := by decide +kernel
theorem dX12_part_11 : decode cX12_part 11 = .ok (.ireturn, 1) := by decide +kernel
theorem dX12_fail_0 : decode cX12_fail 0 = .ok (.aload_n 0, 1) := by decide +kernel
theorem dX12_fail_1 : decode cX12_fail 1 = .ok (.iload_n 1, 1) := by decide +kernel
theorem dX12_fail_2 : decode cX12_fail 2 = .ok (.putfield 201, 3) := by decide +kernel
theorem dX12_fail_5 : decode cX12_fail 5 = .ok (.aload_n 0, 1) := by decide +kernel
theorem dX12_fail_6 : decode cX12_fail 6 = .ok (.iload_n 2, 1) := by decide +kernel
theorem dX12_fail_7 : decode cX12_fail 7 = .ok (.putfield 13, 3) := by decide +kernel
theorem dX12_fail_10 : decode cX12_fail 10 = .ok (.iload_n 1, 1) := by decide +kernel
theorem dX12_fail_11 : decode cX12_fail 11 = .ok (.ireturn, 1) := by decide +kernel
theorem dX12_take_0 : decode cX12_take 0 = .ok (.aload_n 0, 1) := by decide +kernel
theorem dX12_take_1 : decode cX12_take 1 = .ok (.getfield 201, 3) := by decide +kernel
theorem dX12_take_4 : decode cX12_take 4 = .ok (.ifCond .eq 5, 3) := by decide +kernel
theorem dX12_take_7 : decode cX12_take 7 = .ok (.iconst (-1), 1) := by decide +kernel
theorem dX12_take_8 : decode cX12_take 8 = .ok (.ireturn, 1) := by decide +kernel
theorem dX12_take_9 : decode cX12_take 9 = .ok (.aload_n 0, 1) := by decide +kernel
theorem dX12_take_10 : decode cX12_take 10 = .ok (.getfield 204, 3) := by decide +kernel
theorem dX12_take_13 : decode cX12_take 13 = .ok (.aload_n 0, 1) := by decide +kernel
theorem dX12_take_14 : decode cX12_take 14 = .ok (.getfield 198, 3) := by decide +kernel
theorem dX12_take_17 : decode cX12_take 17 = .ok (.if_icmp .ne 14, 3) := by decide +kernel
theorem dX12_take_20 : decode cX12_take 20 = .ok (.aload_n 0, 1) := by decide +kernel
theorem dX12_take_21 : decode cX12_take 21 = .ok (.bipush (-12), 2) := by decide +kernel
theorem dX12_take_23 : decode cX12_take 23 = .ok (.aload_n 0, 1) := by decide +kernel
theorem dX12_take_24 : decode cX12_take 24 = .ok (.getfield 204, 3) := by decide +kernel
theorem dX12_take_27 : decode cX12_take 27 = .ok (.invokevirtual 207, 3) := by decide +kernel
theorem dX12_take_30 : decode cX12_take 30 = .ok (.ireturn, 1) := by decide +kernel
theorem dX12_take_31 : decode cX12_take 31 = .ok (.aload_n 0, 1) := by decide +kernel
theorem dX12_take_32 : decode cX12_take 32 = .ok (.getfield 7, 3) := by decide +kernel
theorem dX12_take_35 : decode cX12_take 35 = .ok (.aload_n 0, 1) := by decide +kernel
theorem dX12_take_36 : decode cX12_take 36 = .ok (.getfield 204, 3) := by decide +kernel
theorem dX12_take_39 : decode cX12_take 39 = .ok (.iaload, 1) := by decide +kernel
theorem dX12_take_40 : decode cX12_take 40 = .ok (.iload_n 1, 1) := by decide +kernel
theorem dX12_take_41 : decode cX12_take 41 = .ok (.iload_n 2, 1) := by decide +kernel
theorem dX12_take_42 : decode cX12_take 42 = .ok (.invokestatic 184, 3) := by decide +kernel
theorem dX12_take_45 : decode cX12_take 45 = .ok (.ifCond .ne 14, 3) := by decide +kernel
theorem dX12_take_48 : decode cX12_take 48 = .ok (.aload_n 0, 1) := by decide +kernel
theorem dX12_take_49 : decode cX12_take 49 = .ok (.bipush (-11), 2) := by decide +kernel
theorem dX12_take_51 : decode cX12_take 51 = .ok (.aload_n 0, 1) := by decide +kernel
theorem dX12_take_52 : decode cX12_take 52 = .ok (.getfield 204, 3) := by decide +kernel
theorem dX12_take_55 : decode cX12_take 55 = .ok (.invokevirtual 207, 3) := by decide +kernel
theorem dX12_take_58 : decode cX12_take 58 = .ok (.ireturn, 1) := by decide +kernel
theorem dX12_take_59 : decode cX12_take 59 = .ok (.aload_n 0, 1) := by decide +kernel
theorem dX12_take_60 : decode cX12_take 60 = .ok (.dup, 1) := by decide +kernel
theorem dX12_take_61 : decode cX12_take 61 = .ok (.getfield 204, 3) := by decide +kernel
theorem dX12_take_64 : decode cX12_take 64 = .ok (.iconst 1, 1) := by decide +kernel
theorem dX12_take_65 : decode cX12_take 65 = .ok (.iadd, 1) := by decide +kernel
theorem dX12_take_66 : decode cX12_take 66 = .ok (.putfield 204, 3) := by decide +kernel
theorem dX12_take_69 : decode cX12_take 69 = .ok (.aload_n 0, 1) := by decide +kernel
theorem dX12_take_70 : decode cX12_take 70 = .ok (.getfield 7, 3) := by decide +kernel
theorem dX12_take_73 : decode cX12_take 73 = .ok (.aload_n 0, 1) := by decide +kernel
theorem dX12_take_74 : decode cX12_take 74 = .ok (.getfield 204, 3) := by decide +kernel
theorem dX12_take_77 : decode cX12_take 77 = .ok (.iconst 1, 1) := by decide +kernel
theorem dX12_take_78 : decode cX12_take 78 = .ok (.isub, 1) := by decide +kernel
theorem dX12_take_79 : decode cX12_take 79 = .ok (.iaload, 1) := by decide +kernel
theorem dX12_take_80 : decode cX12_take 80 = .ok (.ireturn, 1) := by decide +kernel
theorem dX12_pushFrame_0 : decode cX12_pushFrame 0 = .ok (.aload_n 0, 1) := by decide +kernel
theorem dX12_pushFrame_1 : decode cX12_pushFrame 1 = .ok (.getfield 70, 3) := by decide +kernel
theorem dX12_pushFrame_4 : decode cX12_pushFrame 4 = .ok (.aload_n 0, 1) := by decide +kernel
theorem dX12_pushFrame_5 : decode cX12_pushFrame 5 = .ok (.getfield 211, 3) := by decide +kernel
theorem dX12_pushFrame_8 : decode cX12_pushFrame 8 = .ok (.iload_n 1, 1) := by decide +kernel
theorem dX12_pushFrame_9 : decode cX12_pushFrame 9 = .ok (.iastore, 1) := by decide +kernel
theorem dX12_pushFrame_10 : decode cX12_pushFrame 10 = .ok (.aload_n 0, 1) := by decide +kernel
theorem dX12_pushFrame_11 : decode cX12_pushFrame 11 = .ok (.getfield 73, 3) := by decide +kernel
theorem dX12_pushFrame_14 : decode cX12_pushFrame 14 = .ok (.aload_n 0, 1) := by decide +kernel
theorem dX12_pushFrame_15 : decode cX12_pushFrame 15 = .ok (.getfield 211, 3) := by decide +kernel
theorem dX12_pushFrame_18 : decode cX12_pushFrame 18 = .ok (.iload_n 2, 1) := by decide +kernel
theorem dX12_pushFrame_19 : decode cX12_pushFrame 19 = .ok (.iastore, 1) := by decide +kernel
theorem dX12_pushFrame_20 : decode cX12_pushFrame 20 = .ok (.aload_n 0, 1) := by decide +kernel
theorem dX12_pushFrame_21 : decode cX12_pushFrame 21 = .ok (.getfield 76, 3) := by decide +kernel
theorem dX12_pushFrame_24 : decode cX12_pushFrame 24 = .ok (.aload_n 0, 1) := by decide +kernel
theorem dX12_pushFrame_25 : decode cX12_pushFrame 25 = .ok (.getfield 211, 3) := by decide +kernel
theorem dX12_pushFrame_28 : decode cX12_pushFrame 28 = .ok (.iload_n 3, 1) := by decide +kernel
theorem dX12_pushFrame_29 : decode cX12_pushFrame 29 = .ok (.iastore, 1) := by decide +kernel
theorem dX12_pushFrame_30 : decode cX12_pushFrame 30 = .ok (.aload_n 0, 1) := by decide +kernel
theorem dX12_pushFrame_31 : decode cX12_pushFrame 31 = .ok (.getfield 79, 3) := by decide +kernel
theorem dX12_pushFrame_34 : decode cX12_pushFrame 34 = .ok (.aload_n 0, 1) := by decide +kernel
theorem dX12_pushFrame_35 : decode cX12_pushFrame 35 = .ok (.getfield 211, 3) := by decide +kernel
theorem dX12_pushFrame_38 : decode cX12_pushFrame 38 = .ok (.iconst (-1), 1) := by decide +kernel
theorem dX12_pushFrame_39 : decode cX12_pushFrame 39 = .ok (.iastore, 1) := by decide +kernel
theorem dX12_pushFrame_40 : decode cX12_pushFrame 40 = .ok (.aload_n 0, 1) := by decide +kernel
theorem dX12_pushFrame_41 : decode cX12_pushFrame 41 = .ok (.dup, 1) := by decide +kernel
theorem dX12_pushFrame_42 : decode cX12_pushFrame 42 = .ok (.getfield 211, 3) := by decide +kernel
theorem dX12_pushFrame_45 : decode cX12_pushFrame 45 = .ok (.iconst 1, 1) := by decide +kernel
theorem dX12_pushFrame_46 : decode cX12_pushFrame 46 = .ok (.iadd, 1) := by decide +kernel
theorem dX12_pushFrame_47 : decode cX12_pushFrame 47 = .ok (.putfield 211, 3) := by decide +kernel
theorem dX12_pushFrame_50 : decode cX12_pushFrame 50 = .ok (.return_, 1) := by decide +kernel
theorem dX12_takeLabel_0 : decode cX12_takeLabel 0 = .ok (.aload_n 0, 1) := by decide +kernel
theorem dX12_takeLabel_1 : decode cX12_takeLabel 1 = .ok (.getfield 211, 3) := by decide +kernel
theorem dX12_takeLabel_4 : decode cX12_takeLabel 4 = .ok (.iconst 1, 1) := by decide +kernel
theorem dX12_takeLabel_5 : decode cX12_takeLabel 5 = .ok (.isub, 1) := by decide +kernel
theorem dX12_takeLabel_6 : decode cX12_takeLabel 6 = .ok (.istore_n 1, 1) := by decide +kernel
theorem dX12_takeLabel_7 : decode cX12_takeLabel 7 = .ok (.aload_n 0, 1) := by decide +kernel
theorem dX12_takeLabel_8 : decode cX12_takeLabel 8 = .ok (.getfield 17, 3) := by decide +kernel
theorem dX12_takeLabel_11 : decode cX12_takeLabel 11 = .ok (.aload_n 0, 1) := by decide +kernel
theorem dX12_takeLabel_12 : decode cX12_takeLabel 12 = .ok (.getfield 70, 3) := by decide +kernel
theorem dX12_takeLabel_15 : decode cX12_takeLabel 15 = .ok (.iload_n 1, 1) := by decide +kernel
theorem dX12_takeLabel_16 : decode cX12_takeLabel 16 = .ok (.iaload, 1) := by decide +kernel
theorem dX12_takeLabel_17 : decode cX12_takeLabel 17 = .ok (.iaload, 1) := by decide +kernel
theorem dX12_takeLabel_18 : decode cX12_takeLabel 18 = .ok (.istore_n 2, 1) := by decide +kernel
theorem dX12_takeLabel_19 : decode cX12_takeLabel 19 = .ok (.iload_n 2, 1) := by decide +kernel
theorem dX12_takeLabel_20 : decode cX12_takeLabel 20 = .ok (.iconst 4, 1) := by decide +kernel
theorem dX12_takeLabel_21 : decode cX12_takeLabel 21 = .ok (.if_icmp .ne 16, 3) := by decide +kernel
theorem dX12_takeLabel_24 : decode cX12_takeLabel 24 = .ok (.aload_n 0, 1) := by decide +kernel
theorem dX12_takeLabel_25 : decode cX12_takeLabel 25 = .ok (.getfield 79, 3) := by decide +kernel
theorem dX12_takeLabel_28 : decode cX12_takeLabel 28 = .ok (.iload_n 1, 1) := by decide +kernel
theorem dX12_takeLabel_29 : decode cX12_takeLabel 29 = .ok (.dup2, 1) := by decide +kernel
theorem dX12_takeLabel_30 : decode cX12_takeLabel 30 = .ok (.iaload, 1) := by decide +kernel
theorem dX12_takeLabel_31 : decode cX12_takeLabel 31 = .ok (.iconst 1, 1) := by decide +kernel
theorem dX12_takeLabel_32 : decode cX12_takeLabel 32 = .ok (.iadd, 1) := by decide +kernel
theorem dX12_takeLabel_33 : decode cX12_takeLabel 33 = .ok (.iastore, 1) := by decide +kernel
theorem dX12_takeLabel_34 : decode cX12_takeLabel 34 = .ok (.goto 52, 3) := by decide +kernel
theorem dX12_takeLabel_37 : decode cX12_takeLabel 37 = .ok (.aload_n 0, 1) := by decide +kernel
theorem dX12_takeLabel_38 : decode cX12_takeLabel 38 = .ok (.getfield 79, 3) := by decide +kernel
theorem dX12_takeLabel_41 : decode cX12_takeLabel 41 = .ok (.iload_n 1, 1) := by decide +kernel
theorem dX12_takeLabel_42 : decode cX12_takeLabel 42 = .ok (.aload_n 0, 1) := by decide +kernel
theorem dX12_takeLabel_43 : decode cX12_takeLabel 43 = .ok (.aload_n 0, 1) := by decide +kernel
theorem dX12_takeLabel_44 : decode cX12_takeLabel 44 = .ok (.getfield 79, 3) := by decide +kernel
theorem dX12_takeLabel_47 : decode cX12_takeLabel 47 = .ok (.iload_n 1, 1) := by decide +kernel
theorem dX12_takeLabel_48 : decode cX12_takeLabel 48 = .ok (.iaload, 1) := by decide +kernel
theorem dX12_takeLabel_49 : decode cX12_takeLabel 49 = .ok (.iconst 1, 1) := by decide +kernel
theorem dX12_takeLabel_50 : decode cX12_takeLabel 50 = .ok (.iadd, 1) := by decide +kernel
theorem dX12_takeLabel_51 : decode cX12_takeLabel 51 = .ok (.bipush 7, 2) := by decide +kernel
theorem dX12_takeLabel_53 : decode cX12_takeLabel 53 = .ok (.invokevirtual 214, 3) := by decide +kernel
theorem dX12_takeLabel_56 : decode cX12_takeLabel 56 = .ok (.iastore, 1) := by decide +kernel
theorem dX12_takeLabel_57 : decode cX12_takeLabel 57 = .ok (.aload_n 0, 1) := by decide +kernel
theorem dX12_takeLabel_58 : decode cX12_takeLabel 58 = .ok (.getfield 201, 3) := by decide +kernel
theorem dX12_takeLabel_61 : decode cX12_takeLabel 61 = .ok (.ifCond .ne 25, 3) := by decide +kernel
theorem dX12_takeLabel_64 : decode cX12_takeLabel 64 = .ok (.aload_n 0, 1) := by decide +kernel
theorem dX12_takeLabel_65 : decode cX12_takeLabel 65 = .ok (.getfield 20, 3) := by decide +kernel
theorem dX12_takeLabel_68 : decode cX12_takeLabel 68 = .ok (.aload_n 0, 1) := by decide +kernel
theorem dX12_takeLabel_69 : decode cX12_takeLabel 69 = .ok (.getfield 70, 3) := by decide +kernel
theorem dX12_takeLabel_72 : decode cX12_takeLabel 72 = .ok (.iload_n 1, 1) := by decide +kernel
theorem dX12_takeLabel_73 : decode cX12_takeLabel 73 = .ok (.iaload, 1) := by decide +kernel
theorem dX12_takeLabel_74 : decode cX12_takeLabel 74 = .ok (.dup2, 1) := by decide +kernel
theorem dX12_takeLabel_75 : decode cX12_takeLabel 75 = .ok (.iaload, 1) := by decide +kernel
theorem dX12_takeLabel_76 : decode cX12_takeLabel 76 = .ok (.iconst 1, 1) := by decide +kernel
theorem dX12_takeLabel_77 : decode cX12_takeLabel 77 = .ok (.aload_n 0, 1) := by decide +kernel
theorem dX12_takeLabel_78 : decode cX12_takeLabel 78 = .ok (.getfield 79, 3) := by decide +kernel
theorem dX12_takeLabel_81 : decode cX12_takeLabel 81 = .ok (.iload_n 1, 1) := by decide +kernel
theorem dX12_takeLabel_82 : decode cX12_takeLabel 82 = .ok (.iaload, 1) := by decide +kernel
theorem dX12_takeLabel_83 : decode cX12_takeLabel 83 = .ok (.ishl, 1) := by decide +kernel
theorem dX12_takeLabel_84 : decode cX12_takeLabel 84 = .ok (.ior, 1) := by decide +kernel
theorem dX12_takeLabel_85 : decode cX12_takeLabel 85 = .ok (.iastore, 1) := by decide +kernel
theorem dX12_takeLabel_86 : decode cX12_takeLabel 86 = .ok (.return_, 1) := by decide +kernel
theorem dX12_settle_0 : decode cX12_settle 0 = .ok (.iload_n 1, 1) := by decide +kernel
theorem dX12_settle_1 : decode cX12_settle 1 = .ok (.istore_n 2, 1) := by decide +kernel
theorem dX12_settle_2 : decode cX12_settle 2 = .ok (.iconst 1, 1) := by decide +kernel
theorem dX12_settle_3 : decode cX12_settle 3 = .ok (.istore_n 3, 1) := by decide +kernel
theorem dX12_settle_4 : decode cX12_settle 4 = .ok (.iload_n 3, 1) := by decide +kernel
theorem dX12_settle_5 : decode cX12_settle 5 = .ok (.ifCond .eq 123, 3) := by decide +kernel
theorem dX12_settle_8 : decode cX12_settle 8 = .ok (.aload_n 0, 1) := by decide +kernel
theorem dX12_settle_9 : decode cX12_settle 9 = .ok (.getfield 211, 3) := by decide +kernel
theorem dX12_settle_12 : decode cX12_settle 12 = .ok (.ifCond .le 116, 3) := by decide +kernel
theorem dX12_settle_15 : decode cX12_settle 15 = .ok (.aload_n 0, 1) := by decide +kernel
theorem dX12_settle_16 : decode cX12_settle 16 = .ok (.getfield 201, 3) := by decide +kernel
theorem dX12_settle_19 : decode cX12_settle 19 = .ok (.ifCond .ne 109, 3) := by decide +kernel
theorem dX12_settle_22 : decode cX12_settle 22 = .ok (.aload_n 0, 1) := by decide +kernel
theorem dX12_settle_23 : decode cX12_settle 23 = .ok (.getfield 211, 3) := by decide +kernel
theorem dX12_settle_26 : decode cX12_settle 26 = .ok (.iconst 1, 1) := by decide +kernel
theorem dX12_settle_27 : decode cX12_settle 27 = .ok (.isub, 1) := by decide +kernel
theorem dX12_settle_28 : decode cX12_settle 28 = .ok (.istore 4, 2) := by decide +kernel
theorem dX12_settle_30 : decode cX12_settle 30 = .ok (.aload_n 0, 1) := by decide +kernel
theorem dX12_settle_31 : decode cX12_settle 31 = .ok (.getfield 73, 3) := by decide +kernel
theorem dX12_settle_34 : decode cX12_settle 34 = .ok (.iload 4, 2) := by decide +kernel
theorem dX12_settle_36 : decode cX12_settle 36 = .ok (.iaload, 1) := by decide +kernel
theorem dX12_settle_37 : decode cX12_settle 37 = .ok (.ifCond .lt 16, 3) := by decide +kernel
theorem dX12_settle_40 : decode cX12_settle 40 = .ok (.aload_n 0, 1) := by decide +kernel
theorem dX12_settle_41 : decode cX12_settle 41 = .ok (.dup, 1) := by decide +kernel
theorem dX12_settle_42 : decode cX12_settle 42 = .ok (.getfield 211, 3) := by decide +kernel
theorem dX12_settle_45 : decode cX12_settle 45 = .ok (.iconst 1, 1) := by decide +kernel
theorem dX12_settle_46 : decode cX12_settle 46 = .ok (.isub, 1) := by decide +kernel
theorem dX12_settle_47 : decode cX12_settle 47 = .ok (.putfield 211, 3) := by decide +kernel
theorem dX12_settle_50 : decode cX12_settle 50 = .ok (.goto 75, 3) := by decide +kernel
theorem dX12_settle_53 : decode cX12_settle 53 = .ok (.aload_n 0, 1) := by decide +kernel
theorem dX12_settle_54 : decode cX12_settle 54 = .ok (.getfield 23, 3) := by decide +kernel
theorem dX12_settle_57 : decode cX12_settle 57 = .ok (.bipush 8, 2) := by decide +kernel
theorem dX12_settle_59 : decode cX12_settle 59 = .ok (.aload_n 0, 1) := by decide +kernel
theorem dX12_settle_60 : decode cX12_settle 60 = .ok (.getfield 70, 3) := by decide +kernel
theorem dX12_settle_63 : decode cX12_settle 63 = .ok (.iload 4, 2) := by decide +kernel
theorem dX12_settle_65 : decode cX12_settle 65 = .ok (.iaload, 1) := by decide +kernel
theorem dX12_settle_66 : decode cX12_settle 66 = .ok (.imul, 1) := by decide +kernel
theorem dX12_settle_67 : decode cX12_settle 67 = .ok (.aload_n 0, 1) := by decide +kernel
theorem dX12_settle_68 : decode cX12_settle 68 = .ok (.getfield 79, 3) := by decide +kernel
theorem dX12_settle_71 : decode cX12_settle 71 = .ok (.iload 4, 2) := by decide +kernel
theorem dX12_settle_73 : decode cX12_settle 73 = .ok (.iaload, 1) := by decide +kernel
theorem dX12_settle_74 : decode cX12_settle 74 = .ok (.iadd, 1) := by decide +kernel
theorem dX12_settle_75 : decode cX12_settle 75 = .ok (.iload_n 2, 1) := by decide +kernel
theorem dX12_settle_76 : decode cX12_settle 76 = .ok (.iastore, 1) := by decide +kernel
theorem dX12_settle_77 : decode cX12_settle 77 = .ok (.aload_n 0, 1) := by decide +kernel
theorem dX12_settle_78 : decode cX12_settle 78 = .ok (.getfield 76, 3) := by decide +kernel
theorem dX12_settle_81 : decode cX12_settle 81 = .ok (.iload 4, 2) := by decide +kernel
theorem dX12_settle_83 : decode cX12_settle 83 = .ok (.dup2, 1) := by decide +kernel
theorem dX12_settle_84 : decode cX12_settle 84 = .ok (.iaload, 1) := by decide +kernel
theorem dX12_settle_85 : decode cX12_settle 85 = .ok (.iconst 1, 1) := by decide +kernel
theorem dX12_settle_86 : decode cX12_settle 86 = .ok (.isub, 1) := by decide +kernel
theorem dX12_settle_87 : decode cX12_settle 87 = .ok (.iastore, 1) := by decide +kernel
theorem dX12_settle_88 : decode cX12_settle 88 = .ok (.aload_n 0, 1) := by decide +kernel
theorem dX12_settle_89 : decode cX12_settle 89 = .ok (.getfield 76, 3) := by decide +kernel
theorem dX12_settle_92 : decode cX12_settle 92 = .ok (.iload 4, 2) := by decide +kernel
theorem dX12_settle_94 : decode cX12_settle 94 = .ok (.iaload, 1) := by decide +kernel
theorem dX12_settle_95 : decode cX12_settle 95 = .ok (.ifCond .le 12, 3) := by decide +kernel
theorem dX12_settle_98 : decode cX12_settle 98 = .ok (.aload_n 0, 1) := by decide +kernel
theorem dX12_settle_99 : decode cX12_settle 99 = .ok (.invokevirtual 217, 3) := by decide +kernel
theorem dX12_settle_102 : decode cX12_settle 102 = .ok (.iconst 0, 1) := by decide +kernel
theorem dX12_settle_103 : decode cX12_settle 103 = .ok (.istore_n 3, 1) := by decide +kernel
theorem dX12_settle_104 : decode cX12_settle 104 = .ok (.goto 21, 3) := by decide +kernel
theorem dX12_settle_107 : decode cX12_settle 107 = .ok (.aload_n 0, 1) := by decide +kernel
theorem dX12_settle_108 : decode cX12_settle 108 = .ok (.getfield 70, 3) := by decide +kernel
theorem dX12_settle_111 : decode cX12_settle 111 = .ok (.iload 4, 2) := by decide +kernel
theorem dX12_settle_113 : decode cX12_settle 113 = .ok (.iaload, 1) := by decide +kernel
theorem dX12_settle_114 : decode cX12_settle 114 = .ok (.istore_n 2, 1) := by decide +kernel
theorem dX12_settle_115 : decode cX12_settle 115 = .ok (.aload_n 0, 1) := by decide +kernel
theorem dX12_settle_116 : decode cX12_settle 116 = .ok (.dup, 1) := by decide +kernel
theorem dX12_settle_117 : decode cX12_settle 117 = .ok (.getfield 211, 3) := by decide +kernel
theorem dX12_settle_120 : decode cX12_settle 120 = .ok (.iconst 1, 1) := by decide +kernel
theorem dX12_settle_121 : decode cX12_settle 121 = .ok (.isub, 1) := by decide +kernel
theorem dX12_settle_122 : decode cX12_settle 122 = .ok (.putfield 211, 3) := by decide +kernel
theorem dX12_settle_125 : decode cX12_settle 125 = .ok (.goto (-121), 3) := by decide +kernel
theorem dX12_settle_128 : decode cX12_settle 128 = .ok (.iload_n 2, 1) := by decide +kernel
theorem dX12_settle_129 : decode cX12_settle 129 = .ok (.ireturn, 1) := by decide +kernel
theorem dX12_resolve_0 : decode cX12_resolve 0 = .ok (.aload_n 0, 1) := by decide +kernel
theorem dX12_resolve_1 : decode cX12_resolve 1 = .ok (.getfield 211, 3) := by decide +kernel
theorem dX12_resolve_4 : decode cX12_resolve 4 = .ok (.iconst 1, 1) := by decide +kernel
theorem dX12_resolve_5 : decode cX12_resolve 5 = .ok (.isub, 1) := by decide +kernel
theorem dX12_resolve_6 : decode cX12_resolve 6 = .ok (.istore_n 2, 1) := by decide +kernel
theorem dX12_resolve_7 : decode cX12_resolve 7 = .ok (.iload_n 2, 1) := by decide +kernel
theorem dX12_resolve_8 : decode cX12_resolve 8 = .ok (.ifCond .lt 25, 3) := by decide +kernel
theorem dX12_resolve_11 : decode cX12_resolve 11 = .ok (.aload_n 0, 1) := by decide +kernel
theorem dX12_resolve_12 : decode cX12_resolve 12 = .ok (.getfield 73, 3) := by decide +kernel
theorem dX12_resolve_15 : decode cX12_resolve 15 = .ok (.iload_n 2, 1) := by decide +kernel
theorem dX12_resolve_16 : decode cX12_resolve 16 = .ok (.iaload, 1) := by decide +kernel
theorem dX12_resolve_17 : decode cX12_resolve 17 = .ok (.ifCond .lt 16, 3) := by decide +kernel
theorem dX12_resolve_20 : decode cX12_resolve 20 = .ok (.aload_n 0, 1) := by decide +kernel
theorem dX12_resolve_21 : decode cX12_resolve 21 = .ok (.getfield 70, 3) := by decide +kernel
theorem dX12_resolve_24 : decode cX12_resolve 24 = .ok (.iload_n 2, 1) := by decide +kernel
theorem dX12_resolve_25 : decode cX12_resolve 25 = .ok (.iload_n 1, 1) := by decide +kernel
theorem dX12_resolve_26 : decode cX12_resolve 26 = .ok (.iastore, 1) := by decide +kernel
theorem dX12_resolve_27 : decode cX12_resolve 27 = .ok (.iinc 2 (-1), 3) := by decide +kernel
theorem dX12_resolve_30 : decode cX12_resolve 30 = .ok (.goto (-23), 3) := by decide +kernel
theorem dX12_resolve_33 : decode cX12_resolve 33 = .ok (.return_, 1) := by decide +kernel
theorem dX12_readWord_0 : decode cX12_readWord 0 = .ok (.aload_n 0, 1) := by decide +kernel
theorem dX12_readWord_1 : decode cX12_readWord 1 = .ok (.getfield 204, 3) := by decide +kernel
theorem dX12_readWord_4 : decode cX12_readWord 4 = .ok (.istore_n 1, 1) := by decide +kernel
theorem dX12_readWord_5 : decode cX12_readWord 5 = .ok (.aload_n 0, 1) := by decide +kernel
theorem dX12_readWord_6 : decode cX12_readWord 6 = .ok (.iconst 1, 1) := by decide +kernel
theorem dX12_readWord_7 : decode cX12_readWord 7 = .ok (.bipush 9, 2) := by decide +kernel
theorem dX12_readWord_9 : decode cX12_readWord 9 = .ok (.invokevirtual 214, 3) := by decide +kernel
theorem dX12_readWord_12 : decode cX12_readWord 12 = .ok (.istore_n 2, 1) := by decide +kernel
theorem dX12_readWord_13 : decode cX12_readWord 13 = .ok (.iload_n 2, 1) := by decide +kernel
theorem dX12_readWord_14 : decode cX12_readWord 14 = .ok (.bipush 8, 2) := by decide +kernel
theorem dX12_readWord_16 : decode cX12_readWord 16 = .ok (.if_icmp .ne 20, 3) := by decide +kernel
theorem dX12_readWord_19 : decode cX12_readWord 19 = .ok (.aload_n 0, 1) := by decide +kernel
theorem dX12_readWord_20 : decode cX12_readWord 20 = .ok (.iconst 0, 1) := by decide +kernel
theorem dX12_readWord_21 : decode cX12_readWord 21 = .ok (.bipush 9, 2) := by decide +kernel
theorem dX12_readWord_23 : decode cX12_readWord 23 = .ok (.invokevirtual 214, 3) := by decide +kernel
theorem dX12_readWord_26 : decode cX12_readWord 26 = .ok (.istore_n 3, 1) := by decide +kernel
theorem dX12_readWord_27 : decode cX12_readWord 27 = .ok (.aload_n 0, 1) := by decide +kernel
theorem dX12_readWord_28 : decode cX12_readWord 28 = .ok (.iconst (-1), 1) := by decide +kernel
theorem dX12_readWord_29 : decode cX12_readWord 29 = .ok (.iload_n 3, 1) := by decide +kernel
theorem dX12_readWord_30 : decode cX12_readWord 30 = .ok (.iconst 0, 1) := by decide +kernel
theorem dX12_readWord_31 : decode cX12_readWord 31 = .ok (.invokevirtual 220, 3) := by decide +kernel
theorem dX12_readWord_34 : decode cX12_readWord 34 = .ok (.iconst (-1), 1) := by decide +kernel
theorem dX12_readWord_35 : decode cX12_readWord 35 = .ok (.ireturn, 1) := by decide +kernel
theorem dX12_readWord_36 : decode cX12_readWord 36 = .ok (.iload_n 2, 1) := by decide +kernel
theorem dX12_readWord_37 : decode cX12_readWord 37 = .ok (.bipush 9, 2) := by decide +kernel
theorem dX12_readWord_39 : decode cX12_readWord 39 = .ok (.if_icmp .ne 9, 3) := by decide +kernel
theorem dX12_readWord_42 : decode cX12_readWord 42 = .ok (.aload_n 0, 1) := by decide +kernel
theorem dX12_readWord_43 : decode cX12_readWord 43 = .ok (.iload_n 1, 1) := by decide +kernel
theorem dX12_readWord_44 : decode cX12_readWord 44 = .ok (.invokevirtual 224, 3) := by decide +kernel
theorem dX12_readWord_47 : decode cX12_readWord 47 = .ok (.ireturn, 1) := by decide +kernel
theorem dX12_readWord_48 : decode cX12_readWord 48 = .ok (.aload_n 0, 1) := by decide +kernel
theorem dX12_readWord_49 : decode cX12_readWord 49 = .ok (.getfield 201, 3) := by decide +kernel
theorem dX12_readWord_52 : decode cX12_readWord 52 = .ok (.ifCond .eq 5, 3) := by decide +kernel
theorem dX12_readWord_55 : decode cX12_readWord 55 = .ok (.iconst (-1), 1) := by decide +kernel
theorem dX12_readWord_56 : decode cX12_readWord 56 = .ok (.ireturn, 1) := by decide +kernel
theorem dX12_readWord_57 : decode cX12_readWord 57 = .ok (.aload_n 0, 1) := by decide +kernel
theorem dX12_readWord_58 : decode cX12_readWord 58 = .ok (.iload_n 2, 1) := by decide +kernel
theorem dX12_readWord_59 : decode cX12_readWord 59 = .ok (.iconst 5, 1) := by decide +kernel
theorem dX12_readWord_60 : decode cX12_readWord 60 = .ok (.if_icmp .ge 9, 3) := by decide +kernel
theorem dX12_readWord_63 : decode cX12_readWord 63 = .ok (.iload_n 2, 1) := by decide +kernel
theorem dX12_readWord_64 : decode cX12_readWord 64 = .ok (.iconst 1, 1) := by decide +kernel
theorem dX12_readWord_65 : decode cX12_readWord 65 = .ok (.isub, 1) := by decide +kernel
theorem dX12_readWord_66 : decode cX12_readWord 66 = .ok (.goto 24, 3) := by decide +kernel
theorem dX12_readWord_69 : decode cX12_readWord 69 = .ok (.iload_n 2, 1) := by decide +kernel
theorem dX12_readWord_70 : decode cX12_readWord 70 = .ok (.iconst 5, 1) := by decide +kernel
theorem dX12_readWord_71 : decode cX12_readWord 71 = .ok (.if_icmp .ne 7, 3) := by decide +kernel
theorem dX12_readWord_74 : decode cX12_readWord 74 = .ok (.iconst 4, 1) := by decide +kernel
theorem dX12_readWord_75 : decode cX12_readWord 75 = .ok (.goto 15, 3) := by decide +kernel
theorem dX12_readWord_78 : decode cX12_readWord 78 = .ok (.iload_n 2, 1) := by decide +kernel
theorem dX12_readWord_79 : decode cX12_readWord 79 = .ok (.bipush 6, 2) := by decide +kernel
theorem dX12_readWord_81 : decode cX12_readWord 81 = .ok (.if_icmp .ne 7, 3) := by decide +kernel
theorem dX12_readWord_84 : decode cX12_readWord 84 = .ok (.iconst 5, 1) := by decide +kernel
theorem dX12_readWord_85 : decode cX12_readWord 85 = .ok (.goto 5, 3) := by decide +kernel
theorem dX12_readWord_88 : decode cX12_readWord 88 = .ok (.bipush 6, 2) := by decide +kernel
theorem dX12_readWord_90 : decode cX12_readWord 90 = .ok (.iconst 0, 1) := by decide +kernel
theorem dX12_readWord_91 : decode cX12_readWord 91 = .ok (.invokevirtual 228, 3) := by decide +kernel
theorem dX12_readWord_94 : decode cX12_readWord 94 = .ok (.istore_n 3, 1) := by decide +kernel
theorem dX12_readWord_95 : decode cX12_readWord 95 = .ok (.aload_n 0, 1) := by decide +kernel
theorem dX12_readWord_96 : decode cX12_readWord 96 = .ok (.iload_n 3, 1) := by decide +kernel
theorem dX12_readWord_97 : decode cX12_readWord 97 = .ok (.invokevirtual 231, 3) := by decide +kernel
theorem dX12_readWord_100 : decode cX12_readWord 100 = .ok (.iload_n 2, 1) := by decide +kernel
theorem dX12_readWord_101 : decode cX12_readWord 101 = .ok (.iconst 5, 1) := by decide +kernel
theorem dX12_readWord_102 : decode cX12_readWord 102 = .ok (.if_icmp .ge 7, 3) := by decide +kernel
theorem dX12_readWord_105 : decode cX12_readWord 105 = .ok (.iconst 0, 1) := by decide +kernel
theorem dX12_readWord_106 : decode cX12_readWord 106 = .ok (.goto 19, 3) := by decide +kernel
theorem dX12_readWord_109 : decode cX12_readWord 109 = .ok (.iload_n 2, 1) := by decide +kernel
theorem dX12_readWord_110 : decode cX12_readWord 110 = .ok (.iconst 5, 1) := by decide +kernel
theorem dX12_readWord_111 : decode cX12_readWord 111 = .ok (.if_icmp .ne 7, 3) := by decide +kernel
theorem dX12_readWord_114 : decode cX12_readWord 114 = .ok (.iconst 2, 1) := by decide +kernel
theorem dX12_readWord_115 : decode cX12_readWord 115 = .ok (.goto 10, 3) := by decide +kernel
theorem dX12_readWord_118 : decode cX12_readWord 118 = .ok (.aload_n 0, 1) := by decide +kernel
theorem dX12_readWord_119 : decode cX12_readWord 119 = .ok (.iconst 0, 1) := by decide +kernel
theorem dX12_readWord_120 : decode cX12_readWord 120 = .ok (.bipush 8, 2) := by decide +kernel
theorem dX12_readWord_122 : decode cX12_readWord 122 = .ok (.invokevirtual 214, 3) := by decide +kernel
theorem dX12_readWord_125 : decode cX12_readWord 125 = .ok (.istore 4, 2) := by decide +kernel
theorem dX12_readWord_127 : decode cX12_readWord 127 = .ok (.iload 4, 2) := by decide +kernel
theorem dX12_readWord_129 : decode cX12_readWord 129 = .ok (.ifCond .le 24, 3) := by decide +kernel
theorem dX12_readWord_132 : decode cX12_readWord 132 = .ok (.aload_n 0, 1) := by decide +kernel
theorem dX12_readWord_133 : decode cX12_readWord 133 = .ok (.getfield 201, 3) := by decide +kernel
theorem dX12_readWord_136 : decode cX12_readWord 136 = .ok (.ifCond .ne 17, 3) := by decide +kernel
theorem dX12_readWord_139 : decode cX12_readWord 139 = .ok (.aload_n 0, 1) := by decide +kernel
theorem dX12_readWord_140 : decode cX12_readWord 140 = .ok (.iload_n 3, 1) := by decide +kernel
theorem dX12_readWord_141 : decode cX12_readWord 141 = .ok (.iconst (-1), 1) := by decide +kernel
theorem dX12_readWord_142 : decode cX12_readWord 142 = .ok (.iload 4, 2) := by decide +kernel
theorem dX12_readWord_144 : decode cX12_readWord 144 = .ok (.invokevirtual 220, 3) := by decide +kernel
theorem dX12_readWord_147 : decode cX12_readWord 147 = .ok (.aload_n 0, 1) := by decide +kernel
theorem dX12_readWord_148 : decode cX12_readWord 148 = .ok (.invokevirtual 217, 3) := by decide +kernel
theorem dX12_readWord_151 : decode cX12_readWord 151 = .ok (.iconst (-1), 1) := by decide +kernel
theorem dX12_readWord_152 : decode cX12_readWord 152 = .ok (.ireturn, 1) := by decide +kernel
theorem dX12_readWord_153 : decode cX12_readWord 153 = .ok (.iload_n 3, 1) := by decide +kernel
theorem dX12_readWord_154 : decode cX12_readWord 154 = .ok (.ireturn, 1) := by decide +kernel
theorem dX12_readName_0 : decode cX12_readName 0 = .ok (.aload_n 0, 1) := by decide +kernel
theorem dX12_readName_1 : decode cX12_readName 1 = .ok (.iconst 0, 1) := by decide +kernel
theorem dX12_readName_2 : decode cX12_readName 2 = .ok (.bipush 9, 2) := by decide +kernel
theorem dX12_readName_4 : decode cX12_readName 4 = .ok (.invokevirtual 214, 3) := by decide +kernel
theorem dX12_readName_7 : decode cX12_readName 7 = .ok (.istore_n 2, 1) := by decide +kernel
theorem dX12_readName_8 : decode cX12_readName 8 = .ok (.aload_n 0, 1) := by decide +kernel
theorem dX12_readName_9 : decode cX12_readName 9 = .ok (.getfield 201, 3) := by decide +kernel
theorem dX12_readName_12 : decode cX12_readName 12 = .ok (.ifCond .eq 5, 3) := by decide +kernel
theorem dX12_readName_15 : decode cX12_readName 15 = .ok (.iconst (-1), 1) := by decide +kernel
theorem dX12_readName_16 : decode cX12_readName 16 = .ok (.ireturn, 1) := by decide +kernel
theorem dX12_readName_17 : decode cX12_readName 17 = .ok (.aload_n 0, 1) := by decide +kernel
theorem dX12_readName_18 : decode cX12_readName 18 = .ok (.getfield 211, 3) := by decide +kernel
theorem dX12_readName_21 : decode cX12_readName 21 = .ok (.iconst 1, 1) := by decide +kernel
theorem dX12_readName_22 : decode cX12_readName 22 = .ok (.isub, 1) := by decide +kernel
theorem dX12_readName_23 : decode cX12_readName 23 = .ok (.istore_n 3, 1) := by decide +kernel
theorem dX12_readName_24 : decode cX12_readName 24 = .ok (.iload_n 3, 1) := by decide +kernel
theorem dX12_readName_25 : decode cX12_readName 25 = .ok (.ifCond .lt 19, 3) := by decide +kernel
theorem dX12_readName_28 : decode cX12_readName 28 = .ok (.aload_n 0, 1) := by decide +kernel
theorem dX12_readName_29 : decode cX12_readName 29 = .ok (.getfield 73, 3) := by decide +kernel
theorem dX12_readName_32 : decode cX12_readName 32 = .ok (.iload_n 3, 1) := by decide +kernel
theorem dX12_readName_33 : decode cX12_readName 33 = .ok (.iaload, 1) := by decide +kernel
theorem dX12_readName_34 : decode cX12_readName 34 = .ok (.iload_n 2, 1) := by decide +kernel
theorem dX12_readName_35 : decode cX12_readName 35 = .ok (.if_icmp .eq 9, 3) := by decide +kernel
theorem dX12_readName_38 : decode cX12_readName 38 = .ok (.iinc 3 (-1), 3) := by decide +kernel
theorem dX12_readName_41 : decode cX12_readName 41 = .ok (.goto (-17), 3) := by decide +kernel
theorem dX12_readName_44 : decode cX12_readName 44 = .ok (.iload_n 3, 1) := by decide +kernel
theorem dX12_readName_45 : decode cX12_readName 45 = .ok (.ifCond .lt 12, 3) := by decide +kernel
theorem dX12_readName_48 : decode cX12_readName 48 = .ok (.aload_n 0, 1) := by decide +kernel
theorem dX12_readName_49 : decode cX12_readName 49 = .ok (.getfield 70, 3) := by decide +kernel
theorem dX12_readName_52 : decode cX12_readName 52 = .ok (.iload_n 3, 1) := by decide +kernel
theorem dX12_readName_53 : decode cX12_readName 53 = .ok (.iaload, 1) := by decide +kernel
theorem dX12_readName_54 : decode cX12_readName 54 = .ok (.ifCond .ge 11, 3) := by decide +kernel
theorem dX12_readName_57 : decode cX12_readName 57 = .ok (.aload_n 0, 1) := by decide +kernel
theorem dX12_readName_58 : decode cX12_readName 58 = .ok (.bipush (-13), 2) := by decide +kernel
theorem dX12_readName_60 : decode cX12_readName 60 = .ok (.iload_n 1, 1) := by decide +kernel
theorem dX12_readName_61 : decode cX12_readName 61 = .ok (.invokevirtual 207, 3) := by decide +kernel
theorem dX12_readName_64 : decode cX12_readName 64 = .ok (.ireturn, 1) := by decide +kernel
theorem dX12_readName_65 : decode cX12_readName 65 = .ok (.aload_n 0, 1) := by decide +kernel
theorem dX12_readName_66 : decode cX12_readName 66 = .ok (.getfield 70, 3) := by decide +kernel
theorem dX12_readName_69 : decode cX12_readName 69 = .ok (.iload_n 3, 1) := by decide +kernel
theorem dX12_readName_70 : decode cX12_readName 70 = .ok (.iaload, 1) := by decide +kernel
theorem dX12_readName_71 : decode cX12_readName 71 = .ok (.istore 4, 2) := by decide +kernel
theorem dX12_readName_73 : decode cX12_readName 73 = .ok (.aload_n 0, 1) := by decide +kernel
theorem dX12_readName_74 : decode cX12_readName 74 = .ok (.iload 4, 2) := by decide +kernel
theorem dX12_readName_76 : decode cX12_readName 76 = .ok (.invokevirtual 231, 3) := by decide +kernel
theorem dX12_readName_79 : decode cX12_readName 79 = .ok (.iload 4, 2) := by decide +kernel
theorem dX12_readName_81 : decode cX12_readName 81 = .ok (.ireturn, 1) := by decide +kernel
theorem dX12_type_0 : decode cX12_type 0 = .ok (.aload_n 0, 1) := by decide +kernel
theorem dX12_type_1 : decode cX12_type 1 = .ok (.getfield 181, 3) := by decide +kernel
theorem dX12_type_4 : decode cX12_type 4 = .ok (.istore_n 1, 1) := by decide +kernel
theorem dX12_type_5 : decode cX12_type 5 = .ok (.aload_n 0, 1) := by decide +kernel
theorem dX12_type_6 : decode cX12_type 6 = .ok (.iconst 0, 1) := by decide +kernel
theorem dX12_type_7 : decode cX12_type 7 = .ok (.putfield 204, 3) := by decide +kernel
theorem dX12_type_10 : decode cX12_type 10 = .ok (.aload_n 0, 1) := by decide +kernel
theorem dX12_type_11 : decode cX12_type 11 = .ok (.iconst 0, 1) := by decide +kernel
theorem dX12_type_12 : decode cX12_type 12 = .ok (.putfield 201, 3) := by decide +kernel
theorem dX12_type_15 : decode cX12_type 15 = .ok (.aload_n 0, 1) := by decide +kernel
theorem dX12_type_16 : decode cX12_type 16 = .ok (.iconst (-1), 1) := by decide +kernel
theorem dX12_type_17 : decode cX12_type 17 = .ok (.putfield 13, 3) := by decide +kernel
theorem dX12_type_20 : decode cX12_type 20 = .ok (.aload_n 0, 1) := by decide +kernel
theorem dX12_type_21 : decode cX12_type 21 = .ok (.iconst 0, 1) := by decide +kernel
theorem dX12_type_22 : decode cX12_type 22 = .ok (.putfield 211, 3) := by decide +kernel
theorem dX12_type_25 : decode cX12_type 25 = .ok (.iconst (-1), 1) := by decide +kernel
theorem dX12_type_26 : decode cX12_type 26 = .ok (.istore_n 2, 1) := by decide +kernel
theorem dX12_type_27 : decode cX12_type 27 = .ok (.iconst 1, 1) := by decide +kernel
theorem dX12_type_28 : decode cX12_type 28 = .ok (.istore_n 3, 1) := by decide +kernel
theorem dX12_type_29 : decode cX12_type 29 = .ok (.iload_n 3, 1) := by decide +kernel
theorem dX12_type_30 : decode cX12_type 30 = .ok (.ifCond .eq 55, 3) := by decide +kernel
theorem dX12_type_33 : decode cX12_type 33 = .ok (.aload_n 0, 1) := by decide +kernel
theorem dX12_type_34 : decode cX12_type 34 = .ok (.getfield 201, 3) := by decide +kernel
theorem dX12_type_37 : decode cX12_type 37 = .ok (.ifCond .ne 48, 3) := by decide +kernel
theorem dX12_type_40 : decode cX12_type 40 = .ok (.aload_n 0, 1) := by decide +kernel
theorem dX12_type_41 : decode cX12_type 41 = .ok (.invokevirtual 235, 3) := by decide +kernel
theorem dX12_type_44 : decode cX12_type 44 = .ok (.istore 4, 2) := by decide +kernel
theorem dX12_type_46 : decode cX12_type 46 = .ok (.iload 4, 2) := by decide +kernel
theorem dX12_type_48 : decode cX12_type 48 = .ok (.ifCond .lt 17, 3) := by decide +kernel
theorem dX12_type_51 : decode cX12_type 51 = .ok (.aload_n 0, 1) := by decide +kernel
theorem dX12_type_52 : decode cX12_type 52 = .ok (.getfield 201, 3) := by decide +kernel
theorem dX12_type_55 : decode cX12_type 55 = .ok (.ifCond .ne 10, 3) := by decide +kernel
theorem dX12_type_58 : decode cX12_type 58 = .ok (.aload_n 0, 1) := by decide +kernel
theorem dX12_type_59 : decode cX12_type 59 = .ok (.iload 4, 2) := by decide +kernel
theorem dX12_type_61 : decode cX12_type 61 = .ok (.invokevirtual 239, 3) := by decide +kernel
theorem dX12_type_64 : decode cX12_type 64 = .ok (.istore_n 2, 1) := by decide +kernel
theorem dX12_type_65 : decode cX12_type 65 = .ok (.aload_n 0, 1) := by decide +kernel
theorem dX12_type_66 : decode cX12_type 66 = .ok (.getfield 211, 3) := by decide +kernel
theorem dX12_type_69 : decode cX12_type 69 = .ok (.ifCond .gt 7, 3) := by decide +kernel
theorem dX12_type_72 : decode cX12_type 72 = .ok (.iload_n 2, 1) := by decide +kernel
theorem dX12_type_73 : decode cX12_type 73 = .ok (.ifCond .ge 7, 3) := by decide +kernel
theorem dX12_type_76 : decode cX12_type 76 = .ok (.iconst 1, 1) := by decide +kernel
theorem dX12_type_77 : decode cX12_type 77 = .ok (.goto 4, 3) := by decide +kernel
theorem dX12_type_80 : decode cX12_type 80 = .ok (.iconst 0, 1) := by decide +kernel
theorem dX12_type_81 : decode cX12_type 81 = .ok (.istore_n 3, 1) := by decide +kernel
theorem dX12_type_82 : decode cX12_type 82 = .ok (.goto (-53), 3) := by decide +kernel
theorem dX12_type_85 : decode cX12_type 85 = .ok (.aload_n 0, 1) := by decide +kernel
theorem dX12_type_86 : decode cX12_type 86 = .ok (.getfield 201, 3) := by decide +kernel
theorem dX12_type_89 : decode cX12_type 89 = .ok (.ifCond .ne 32, 3) := by decide +kernel
theorem dX12_type_92 : decode cX12_type 92 = .ok (.aload_n 0, 1) := by decide +kernel
theorem dX12_type_93 : decode cX12_type 93 = .ok (.getfield 204, 3) := by decide +kernel
theorem dX12_type_96 : decode cX12_type 96 = .ok (.aload_n 0, 1) := by decide +kernel
theorem dX12_type_97 : decode cX12_type 97 = .ok (.getfield 198, 3) := by decide +kernel
theorem dX12_type_100 : decode cX12_type 100 = .ok (.if_icmp .ge 21, 3) := by decide +kernel
theorem dX12_type_103 : decode cX12_type 103 = .ok (.aload_n 0, 1) := by decide +kernel
theorem dX12_type_104 : decode cX12_type 104 = .ok (.bipush (-14), 2) := by decide +kernel
theorem dX12_type_106 : decode cX12_type 106 = .ok (.aload_n 0, 1) := by decide +kernel
theorem dX12_type_107 : decode cX12_type 107 = .ok (.getfield 204, 3) := by decide +kernel
theorem dX12_type_110 : decode cX12_type 110 = .ok (.invokevirtual 207, 3) := by decide +kernel
theorem dX12_type_113 : decode cX12_type 113 = .ok (.istore 4, 2) := by decide +kernel
theorem dX12_type_115 : decode cX12_type 115 = .ok (.aload_n 0, 1) := by decide +kernel
theorem dX12_type_116 : decode cX12_type 116 = .ok (.iload 4, 2) := by decide +kernel
theorem dX12_type_118 : decode cX12_type 118 = .ok (.putfield 201, 3) := by decide +kernel
theorem dX12_type_121 : decode cX12_type 121 = .ok (.aload_n 0, 1) := by decide +kernel
theorem dX12_type_122 : decode cX12_type 122 = .ok (.iconst 0, 1) := by decide +kernel
theorem dX12_type_123 : decode cX12_type 123 = .ok (.putfield 198, 3) := by decide +kernel
theorem dX12_type_126 : decode cX12_type 126 = .ok (.aload_n 0, 1) := by decide +kernel
theorem dX12_type_127 : decode cX12_type 127 = .ok (.getfield 201, 3) := by decide +kernel
theorem dX12_type_130 : decode cX12_type 130 = .ok (.ifCond .ne 19, 3) := by decide +kernel
theorem dX12_type_133 : decode cX12_type 133 = .ok (.aload_n 0, 1) := by decide +kernel
theorem dX12_type_134 : decode cX12_type 134 = .ok (.getfield 181, 3) := by decide +kernel
theorem dX12_type_137 : decode cX12_type 137 = .ok (.sipush 200, 3) := by decide +kernel
theorem dX12_type_140 : decode cX12_type 140 = .ok (.if_icmp .le 9, 3) := by decide +kernel
theorem dX12_type_143 : decode cX12_type 143 = .ok (.aload_n 0, 1) := by decide +kernel
theorem dX12_type_144 : decode cX12_type 144 = .ok (.bipush (-3), 2) := by decide +kernel
theorem dX12_type_146 : decode cX12_type 146 = .ok (.putfield 201, 3) := by decide +kernel
theorem dX12_type_149 : decode cX12_type 149 = .ok (.aload_n 0, 1) := by decide +kernel
theorem dX12_type_150 : decode cX12_type 150 = .ok (.aload_n 0, 1) := by decide +kernel
theorem dX12_type_151 : decode cX12_type 151 = .ok (.getfield 201, 3) := by decide +kernel
theorem dX12_type_154 : decode cX12_type 154 = .ok (.ifCond .eq 7, 3) := by decide +kernel
theorem dX12_type_157 : decode cX12_type 157 = .ok (.iload_n 1, 1) := by decide +kernel
theorem dX12_type_158 : decode cX12_type 158 = .ok (.goto 7, 3) := by decide +kernel
theorem dX12_type_161 : decode cX12_type 161 = .ok (.aload_n 0, 1) := by decide +kernel
theorem dX12_type_162 : decode cX12_type 162 = .ok (.getfield 181, 3) := by decide +kernel
theorem dX12_type_165 : decode cX12_type 165 = .ok (.putfield 181, 3) := by decide +kernel
theorem dX12_type_168 : decode cX12_type 168 = .ok (.aload_n 0, 1) := by decide +kernel
theorem dX12_type_169 : decode cX12_type 169 = .ok (.getfield 201, 3) := by decide +kernel
theorem dX12_type_172 : decode cX12_type 172 = .ok (.ifCond .eq 10, 3) := by decide +kernel
theorem dX12_type_175 : decode cX12_type 175 = .ok (.aload_n 0, 1) := by decide +kernel
theorem dX12_type_176 : decode cX12_type 176 = .ok (.getfield 201, 3) := by decide +kernel
theorem dX12_type_179 : decode cX12_type 179 = .ok (.goto 4, 3) := by decide +kernel
theorem dX12_type_182 : decode cX12_type 182 = .ok (.iload_n 2, 1) := by decide +kernel
theorem dX12_type_183 : decode cX12_type 183 = .ok (.ireturn, 1) := by decide +kernel
theorem dX12_fits_0 : decode cX12_fits 0 = .ok (.aload_n 0, 1) := by decide +kernel
theorem dX12_fits_1 : decode cX12_fits 1 = .ok (.getfield 17, 3) := by decide +kernel
theorem dX12_fits_4 : decode cX12_fits 4 = .ok (.iload_n 1, 1) := by decide +kernel
theorem dX12_fits_5 : decode cX12_fits 5 = .ok (.iaload, 1) := by decide +kernel
theorem dX12_fits_6 : decode cX12_fits 6 = .ok (.iconst 1, 1) := by decide +kernel
theorem dX12_fits_7 : decode cX12_fits 7 = .ok (.if_icmp .eq 12, 3) := by decide +kernel
theorem dX12_fits_10 : decode cX12_fits 10 = .ok (.aload_n 0, 1) := by decide +kernel
theorem dX12_fits_11 : decode cX12_fits 11 = .ok (.getfield 17, 3) := by decide +kernel
theorem dX12_fits_14 : decode cX12_fits 14 = .ok (.iload_n 2, 1) := by decide +kernel
theorem dX12_fits_15 : decode cX12_fits 15 = .ok (.iaload, 1) := by decide +kernel
theorem dX12_fits_16 : decode cX12_fits 16 = .ok (.ifCond .ne 5, 3) := by decide +kernel
theorem dX12_fits_19 : decode cX12_fits 19 = .ok (.iconst 1, 1) := by decide +kernel
theorem dX12_fits_20 : decode cX12_fits 20 = .ok (.ireturn, 1) := by decide +kernel
theorem dX12_fits_21 : decode cX12_fits 21 = .ok (.aload_n 0, 1) := by decide +kernel
theorem dX12_fits_22 : decode cX12_fits 22 = .ok (.getfield 17, 3) := by decide +kernel
theorem dX12_fits_25 : decode cX12_fits 25 = .ok (.iload_n 1, 1) := by decide +kernel
theorem dX12_fits_26 : decode cX12_fits 26 = .ok (.iaload, 1) := by decide +kernel
theorem dX12_fits_27 : decode cX12_fits 27 = .ok (.aload_n 0, 1) := by decide +kernel
theorem dX12_fits_28 : decode cX12_fits 28 = .ok (.getfield 17, 3) := by decide +kernel
theorem dX12_fits_31 : decode cX12_fits 31 = .ok (.iload_n 2, 1) := by decide +kernel
theorem dX12_fits_32 : decode cX12_fits 32 = .ok (.iaload, 1) := by decide +kernel
theorem dX12_fits_33 : decode cX12_fits 33 = .ok (.if_icmp .eq 5, 3) := by decide +kernel
theorem dX12_fits_36 : decode cX12_fits 36 = .ok (.iconst 0, 1) := by decide +kernel
theorem dX12_fits_37 : decode cX12_fits 37 = .ok (.ireturn, 1) := by decide +kernel
theorem dX12_fits_38 : decode cX12_fits 38 = .ok (.aload_n 0, 1) := by decide +kernel
theorem dX12_fits_39 : decode cX12_fits 39 = .ok (.getfield 17, 3) := by decide +kernel
theorem dX12_fits_42 : decode cX12_fits 42 = .ok (.iload_n 1, 1) := by decide +kernel
theorem dX12_fits_43 : decode cX12_fits 43 = .ok (.iaload, 1) := by decide +kernel
theorem dX12_fits_44 : decode cX12_fits 44 = .ok (.iconst 5, 1) := by decide +kernel
theorem dX12_fits_45 : decode cX12_fits 45 = .ok (.if_icmp .ne 29, 3) := by decide +kernel
theorem dX12_fits_48 : decode cX12_fits 48 = .ok (.aload_n 0, 1) := by decide +kernel
theorem dX12_fits_49 : decode cX12_fits 49 = .ok (.getfield 20, 3) := by decide +kernel
theorem dX12_fits_52 : decode cX12_fits 52 = .ok (.iload_n 2, 1) := by decide +kernel
theorem dX12_fits_53 : decode cX12_fits 53 = .ok (.iaload, 1) := by decide +kernel
theorem dX12_fits_54 : decode cX12_fits 54 = .ok (.aload_n 0, 1) := by decide +kernel
theorem dX12_fits_55 : decode cX12_fits 55 = .ok (.getfield 20, 3) := by decide +kernel
theorem dX12_fits_58 : decode cX12_fits 58 = .ok (.iload_n 1, 1) := by decide +kernel
theorem dX12_fits_59 : decode cX12_fits 59 = .ok (.iaload, 1) := by decide +kernel
theorem dX12_fits_60 : decode cX12_fits 60 = .ok (.iconst (-1), 1) := by decide +kernel
theorem dX12_fits_61 : decode cX12_fits 61 = .ok (.ixor, 1) := by decide +kernel
theorem dX12_fits_62 : decode cX12_fits 62 = .ok (.iand, 1) := by decide +kernel
theorem dX12_fits_63 : decode cX12_fits 63 = .ok (.ifCond .ne 7, 3) := by decide +kernel
theorem dX12_fits_66 : decode cX12_fits 66 = .ok (.iconst 1, 1) := by decide +kernel
theorem dX12_fits_67 : decode cX12_fits 67 = .ok (.goto 41, 3) := by decide +kernel
theorem dX12_fits_70 : decode cX12_fits 70 = .ok (.iconst 0, 1) := by decide +kernel
theorem dX12_fits_71 : decode cX12_fits 71 = .ok (.goto 37, 3) := by decide +kernel
theorem dX12_fits_74 : decode cX12_fits 74 = .ok (.aload_n 0, 1) := by decide +kernel
theorem dX12_fits_75 : decode cX12_fits 75 = .ok (.getfield 17, 3) := by decide +kernel
theorem dX12_fits_78 : decode cX12_fits 78 = .ok (.iload_n 1, 1) := by decide +kernel
theorem dX12_fits_79 : decode cX12_fits 79 = .ok (.iaload, 1) := by decide +kernel
theorem dX12_fits_80 : decode cX12_fits 80 = .ok (.bipush 6, 2) := by decide +kernel
theorem dX12_fits_82 : decode cX12_fits 82 = .ok (.if_icmp .ne 21, 3) := by decide +kernel
theorem dX12_fits_85 : decode cX12_fits 85 = .ok (.aload_n 0, 1) := by decide +kernel
theorem dX12_fits_86 : decode cX12_fits 86 = .ok (.getfield 20, 3) := by decide +kernel
theorem dX12_fits_89 : decode cX12_fits 89 = .ok (.iload_n 1, 1) := by decide +kernel
theorem dX12_fits_90 : decode cX12_fits 90 = .ok (.iaload, 1) := by decide +kernel
theorem dX12_fits_91 : decode cX12_fits 91 = .ok (.aload_n 0, 1) := by decide +kernel
theorem dX12_fits_92 : decode cX12_fits 92 = .ok (.getfield 20, 3) := by decide +kernel
theorem dX12_fits_95 : decode cX12_fits 95 = .ok (.iload_n 2, 1) := by decide +kernel
theorem dX12_fits_96 : decode cX12_fits 96 = .ok (.iaload, 1) := by decide +kernel
theorem dX12_fits_97 : decode cX12_fits 97 = .ok (.iconst (-1), 1) := by decide +kernel
theorem dX12_fits_98 : decode cX12_fits 98 = .ok (.ixor, 1) := by decide +kernel
theorem dX12_fits_99 : decode cX12_fits 99 = .ok (.iand, 1) := by decide +kernel
theorem dX12_fits_100 : decode cX12_fits 100 = .ok (.ifCond .ne 7, 3) := by decide +kernel
theorem dX12_fits_103 : decode cX12_fits 103 = .ok (.iconst 1, 1) := by decide +kernel
theorem dX12_fits_104 : decode cX12_fits 104 = .ok (.goto 4, 3) := by decide +kernel
theorem dX12_fits_107 : decode cX12_fits 107 = .ok (.iconst 0, 1) := by decide +kernel
theorem dX12_fits_108 : decode cX12_fits 108 = .ok (.ireturn, 1) := by decide +kernel
theorem dX12_wanted_0 : decode cX12_wanted 0 = .ok (.aload_n 0, 1) := by decide +kernel
theorem dX12_wanted_1 : decode cX12_wanted 1 = .ok (.getfield 17, 3) := by decide +kernel
theorem dX12_wanted_4 : decode cX12_wanted 4 = .ok (.iload_n 1, 1) := by decide +kernel
theorem dX12_wanted_5 : decode cX12_wanted 5 = .ok (.iaload, 1) := by decide +kernel
theorem dX12_wanted_6 : decode cX12_wanted 6 = .ok (.iconst 1, 1) := by decide +kernel
theorem dX12_wanted_7 : decode cX12_wanted 7 = .ok (.if_icmp .eq 12, 3) := by decide +kernel
theorem dX12_wanted_10 : decode cX12_wanted 10 = .ok (.aload_n 0, 1) := by decide +kernel
theorem dX12_wanted_11 : decode cX12_wanted 11 = .ok (.getfield 17, 3) := by decide +kernel
theorem dX12_wanted_14 : decode cX12_wanted 14 = .ok (.iload_n 2, 1) := by decide +kernel
theorem dX12_wanted_15 : decode cX12_wanted 15 = .ok (.iaload, 1) := by decide +kernel
theorem dX12_wanted_16 : decode cX12_wanted 16 = .ok (.ifCond .ne 5, 3) := by decide +kernel
theorem dX12_wanted_19 : decode cX12_wanted 19 = .ok (.iconst 0, 1) := by decide +kernel
theorem dX12_wanted_20 : decode cX12_wanted 20 = .ok (.ireturn, 1) := by decide +kernel
theorem dX12_wanted_21 : decode cX12_wanted 21 = .ok (.aload_n 0, 1) := by decide +kernel
theorem dX12_wanted_22 : decode cX12_wanted 22 = .ok (.getfield 17, 3) := by decide +kernel
theorem dX12_wanted_25 : decode cX12_wanted 25 = .ok (.iload_n 1, 1) := by decide +kernel
theorem dX12_wanted_26 : decode cX12_wanted 26 = .ok (.iaload, 1) := by decide +kernel
theorem dX12_wanted_27 : decode cX12_wanted 27 = .ok (.iconst 5, 1) := by decide +kernel
theorem dX12_wanted_28 : decode cX12_wanted 28 = .ok (.if_icmp .ne 12, 3) := by decide +kernel
theorem dX12_wanted_31 : decode cX12_wanted 31 = .ok (.aload_n 0, 1) := by decide +kernel
theorem dX12_wanted_32 : decode cX12_wanted 32 = .ok (.getfield 20, 3) := by decide +kernel
theorem dX12_wanted_35 : decode cX12_wanted 35 = .ok (.iload_n 2, 1) := by decide +kernel
theorem dX12_wanted_36 : decode cX12_wanted 36 = .ok (.iaload, 1) := by decide +kernel
theorem dX12_wanted_37 : decode cX12_wanted 37 = .ok (.goto 9, 3) := by decide +kernel
theorem dX12_wanted_40 : decode cX12_wanted 40 = .ok (.aload_n 0, 1) := by decide +kernel
theorem dX12_wanted_41 : decode cX12_wanted 41 = .ok (.getfield 20, 3) := by decide +kernel
theorem dX12_wanted_44 : decode cX12_wanted 44 = .ok (.iload_n 1, 1) := by decide +kernel
theorem dX12_wanted_45 : decode cX12_wanted 45 = .ok (.iaload, 1) := by decide +kernel
theorem dX12_wanted_46 : decode cX12_wanted 46 = .ok (.ireturn, 1) := by decide +kernel
theorem dX12_nextPair_0 : decode cX12_nextPair 0 = .ok (.aload_n 0, 1) := by decide +kernel
theorem dX12_nextPair_1 : decode cX12_nextPair 1 = .ok (.getfield 17, 3) := by decide +kernel
theorem dX12_nextPair_4 : decode cX12_nextPair 4 = .ok (.iload_n 1, 1) := by decide +kernel
theorem dX12_nextPair_5 : decode cX12_nextPair 5 = .ok (.iaload, 1) := by decide +kernel
theorem dX12_nextPair_6 : decode cX12_nextPair 6 = .ok (.iconst 4, 1) := by decide +kernel
theorem dX12_nextPair_7 : decode cX12_nextPair 7 = .ok (.if_icmp .ne 11, 3) := by decide +kernel
theorem dX12_nextPair_10 : decode cX12_nextPair 10 = .ok (.iload_n 3, 1) := by decide +kernel
theorem dX12_nextPair_11 : decode cX12_nextPair 11 = .ok (.ifCond .ne 7, 3) := by decide +kernel
theorem dX12_nextPair_14 : decode cX12_nextPair 14 = .ok (.iconst 1, 1) := by decide +kernel
theorem dX12_nextPair_15 : decode cX12_nextPair 15 = .ok (.goto 4, 3) := by decide +kernel
theorem dX12_nextPair_18 : decode cX12_nextPair 18 = .ok (.iconst 0, 1) := by decide +kernel
theorem dX12_nextPair_19 : decode cX12_nextPair 19 = .ok (.istore 4, 2) := by decide +kernel
theorem dX12_nextPair_21 : decode cX12_nextPair 21 = .ok (.aload_n 0, 1) := by decide +kernel
theorem dX12_nextPair_22 : decode cX12_nextPair 22 = .ok (.iload 4, 2) := by decide +kernel
theorem dX12_nextPair_24 : decode cX12_nextPair 24 = .ok (.ifCond .eq 7, 3) := by decide +kernel
theorem dX12_nextPair_27 : decode cX12_nextPair 27 = .ok (.iload_n 2, 1) := by decide +kernel
theorem dX12_nextPair_28 : decode cX12_nextPair 28 = .ok (.goto 4, 3) := by decide +kernel
theorem dX12_nextPair_31 : decode cX12_nextPair 31 = .ok (.iload_n 1, 1) := by decide +kernel
theorem dX12_nextPair_32 : decode cX12_nextPair 32 = .ok (.iload_n 3, 1) := by decide +kernel
theorem dX12_nextPair_33 : decode cX12_nextPair 33 = .ok (.invokevirtual 242, 3) := by decide +kernel
theorem dX12_nextPair_36 : decode cX12_nextPair 36 = .ok (.istore 5, 2) := by decide +kernel
theorem dX12_nextPair_38 : decode cX12_nextPair 38 = .ok (.aload_n 0, 1) := by decide +kernel
theorem dX12_nextPair_39 : decode cX12_nextPair 39 = .ok (.iload 4, 2) := by decide +kernel
theorem dX12_nextPair_41 : decode cX12_nextPair 41 = .ok (.ifCond .eq 7, 3) := by decide +kernel
theorem dX12_nextPair_44 : decode cX12_nextPair 44 = .ok (.iload_n 1, 1) := by decide +kernel
theorem dX12_nextPair_45 : decode cX12_nextPair 45 = .ok (.goto 4, 3) := by decide +kernel
theorem dX12_nextPair_48 : decode cX12_nextPair 48 = .ok (.iload_n 2, 1) := by decide +kernel
theorem dX12_nextPair_49 : decode cX12_nextPair 49 = .ok (.iload_n 3, 1) := by decide +kernel
theorem dX12_nextPair_50 : decode cX12_nextPair 50 = .ok (.invokevirtual 242, 3) := by decide +kernel
theorem dX12_nextPair_53 : decode cX12_nextPair 53 = .ok (.istore 6, 2) := by decide +kernel
theorem dX12_nextPair_55 : decode cX12_nextPair 55 = .ok (.sipush 400, 3) := by decide +kernel
theorem dX12_nextPair_58 : decode cX12_nextPair 58 = .ok (.iload 5, 2) := by decide +kernel
theorem dX12_nextPair_60 : decode cX12_nextPair 60 = .ok (.imul, 1) := by decide +kernel
theorem dX12_nextPair_61 : decode cX12_nextPair 61 = .ok (.iload 6, 2) := by decide +kernel
theorem dX12_nextPair_63 : decode cX12_nextPair 63 = .ok (.iadd, 1) := by decide +kernel
theorem dX12_nextPair_64 : decode cX12_nextPair 64 = .ok (.ireturn, 1) := by decide +kernel
theorem dX12_measure_0 : decode cX12_measure 0 = .ok (.iconst 0, 1) := by decide +kernel
theorem dX12_measure_1 : decode cX12_measure 1 = .ok (.istore_n 1, 1) := by decide +kernel
theorem dX12_measure_2 : decode cX12_measure 2 = .ok (.iconst 0, 1) := by decide +kernel
theorem dX12_measure_3 : decode cX12_measure 3 = .ok (.istore_n 2, 1) := by decide +kernel
theorem dX12_measure_4 : decode cX12_measure 4 = .ok (.iconst 0, 1) := by decide +kernel
theorem dX12_measure_5 : decode cX12_measure 5 = .ok (.istore_n 3, 1) := by decide +kernel
theorem dX12_measure_6 : decode cX12_measure 6 = .ok (.iload_n 3, 1) := by decide +kernel
theorem dX12_measure_7 : decode cX12_measure 7 = .ok (.aload_n 0, 1) := by decide +kernel
theorem dX12_measure_8 : decode cX12_measure 8 = .ok (.getfield 181, 3) := by decide +kernel
theorem dX12_measure_11 : decode cX12_measure 11 = .ok (.if_icmp .ge 55, 3) := by decide +kernel
theorem dX12_measure_14 : decode cX12_measure 14 = .ok (.iconst 0, 1) := by decide +kernel
theorem dX12_measure_15 : decode cX12_measure 15 = .ok (.istore 4, 2) := by decide +kernel
theorem dX12_measure_17 : decode cX12_measure 17 = .ok (.iload 4, 2) := by decide +kernel
theorem dX12_measure_19 : decode cX12_measure 19 = .ok (.aload_n 0, 1) := by decide +kernel
theorem dX12_measure_20 : decode cX12_measure 20 = .ok (.getfield 181, 3) := by decide +kernel
theorem dX12_measure_23 : decode cX12_measure 23 = .ok (.if_icmp .ge 37, 3) := by decide +kernel
theorem dX12_measure_26 : decode cX12_measure 26 = .ok (.aload_n 0, 1) := by decide +kernel
theorem dX12_measure_27 : decode cX12_measure 27 = .ok (.getfield 27, 3) := by decide +kernel
theorem dX12_measure_30 : decode cX12_measure 30 = .ok (.sipush 400, 3) := by decide +kernel
theorem dX12_measure_33 : decode cX12_measure 33 = .ok (.iload_n 3, 1) := by decide +kernel
theorem dX12_measure_34 : decode cX12_measure 34 = .ok (.imul, 1) := by decide +kernel
theorem dX12_measure_35 : decode cX12_measure 35 = .ok (.iload 4, 2) := by decide +kernel
theorem dX12_measure_37 : decode cX12_measure 37 = .ok (.iadd, 1) := by decide +kernel
theorem dX12_measure_38 : decode cX12_measure 38 = .ok (.iconst (-1), 1) := by decide +kernel
theorem dX12_measure_39 : decode cX12_measure 39 = .ok (.iastore, 1) := by decide +kernel
theorem dX12_measure_40 : decode cX12_measure 40 = .ok (.aload_n 0, 1) := by decide +kernel
theorem dX12_measure_41 : decode cX12_measure 41 = .ok (.getfield 33, 3) := by decide +kernel
theorem dX12_measure_44 : decode cX12_measure 44 = .ok (.sipush 400, 3) := by decide +kernel
theorem dX12_measure_47 : decode cX12_measure 47 = .ok (.iload_n 3, 1) := by decide +kernel
theorem dX12_measure_48 : decode cX12_measure 48 = .ok (.imul, 1) := by decide +kernel
theorem dX12_measure_49 : decode cX12_measure 49 = .ok (.iload 4, 2) := by decide +kernel
theorem dX12_measure_51 : decode cX12_measure 51 = .ok (.iadd, 1) := by decide +kernel
theorem dX12_measure_52 : decode cX12_measure 52 = .ok (.iconst (-1), 1) := by decide +kernel
theorem dX12_measure_53 : decode cX12_measure 53 = .ok (.iastore, 1) := by decide +kernel
theorem dX12_measure_54 : decode cX12_measure 54 = .ok (.iinc 4 1, 3) := by decide +kernel
theorem dX12_measure_57 : decode cX12_measure 57 = .ok (.goto (-40), 3) := by decide +kernel
theorem dX12_measure_60 : decode cX12_measure 60 = .ok (.iinc 3 1, 3) := by decide +kernel
theorem dX12_measure_63 : decode cX12_measure 63 = .ok (.goto (-57), 3) := by decide +kernel
theorem dX12_measure_66 : decode cX12_measure 66 = .ok (.iconst 0, 1) := by decide +kernel
theorem dX12_measure_67 : decode cX12_measure 67 = .ok (.istore_n 3, 1) := by decide +kernel
theorem dX12_measure_68 : decode cX12_measure 68 = .ok (.iload_n 3, 1) := by decide +kernel
theorem dX12_measure_69 : decode cX12_measure 69 = .ok (.aload_n 0, 1) := by decide +kernel
theorem dX12_measure_70 : decode cX12_measure 70 = .ok (.getfield 181, 3) := by decide +kernel
theorem dX12_measure_73 : decode cX12_measure 73 = .ok (.if_icmp .ge 78, 3) := by decide +kernel
theorem dX12_measure_76 : decode cX12_measure 76 = .ok (.iconst 0, 1) := by decide +kernel
theorem dX12_measure_77 : decode cX12_measure 77 = .ok (.istore 4, 2) := by decide +kernel
theorem dX12_measure_79 : decode cX12_measure 79 = .ok (.iload 4, 2) := by decide +kernel
theorem dX12_measure_81 : decode cX12_measure 81 = .ok (.aload_n 0, 1) := by decide +kernel
theorem dX12_measure_82 : decode cX12_measure 82 = .ok (.getfield 181, 3) := by decide +kernel
theorem dX12_measure_85 : decode cX12_measure 85 = .ok (.if_icmp .ge 60, 3) := by decide +kernel
theorem dX12_measure_88 : decode cX12_measure 88 = .ok (.sipush 400, 3) := by decide +kernel
theorem dX12_measure_91 : decode cX12_measure 91 = .ok (.iload_n 3, 1) := by decide +kernel
theorem dX12_measure_92 : decode cX12_measure 92 = .ok (.imul, 1) := by decide +kernel
theorem dX12_measure_93 : decode cX12_measure 93 = .ok (.iload 4, 2) := by decide +kernel
theorem dX12_measure_95 : decode cX12_measure 95 = .ok (.iadd, 1) := by decide +kernel
theorem dX12_measure_96 : decode cX12_measure 96 = .ok (.istore 5, 2) := by decide +kernel
theorem dX12_measure_98 : decode cX12_measure 98 = .ok (.aload_n 0, 1) := by decide +kernel
theorem dX12_measure_99 : decode cX12_measure 99 = .ok (.iload_n 3, 1) := by decide +kernel
theorem dX12_measure_100 : decode cX12_measure 100 = .ok (.iload 4, 2) := by decide +kernel
theorem dX12_measure_102 : decode cX12_measure 102 = .ok (.invokevirtual 245, 3) := by decide +kernel
theorem dX12_measure_105 : decode cX12_measure 105 = .ok (.ifCond .eq 15, 3) := by decide +kernel
theorem dX12_measure_108 : decode cX12_measure 108 = .ok (.aload_n 0, 1) := by decide +kernel
theorem dX12_measure_109 : decode cX12_measure 109 = .ok (.iload_n 3, 1) := by decide +kernel
theorem dX12_measure_110 : decode cX12_measure 110 = .ok (.iload 4, 2) := by decide +kernel
theorem dX12_measure_112 : decode cX12_measure 112 = .ok (.iload_n 2, 1) := by decide +kernel
theorem dX12_measure_113 : decode cX12_measure 113 = .ok (.invokevirtual 249, 3) := by decide +kernel
theorem dX12_measure_116 : decode cX12_measure 116 = .ok (.istore_n 2, 1) := by decide +kernel
theorem dX12_measure_117 : decode cX12_measure 117 = .ok (.goto 22, 3) := by decide +kernel
theorem dX12_measure_120 : decode cX12_measure 120 = .ok (.aload_n 0, 1) := by decide +kernel
theorem dX12_measure_121 : decode cX12_measure 121 = .ok (.getfield 27, 3) := by decide +kernel
theorem dX12_measure_124 : decode cX12_measure 124 = .ok (.iload 5, 2) := by decide +kernel
theorem dX12_measure_126 : decode cX12_measure 126 = .ok (.iconst 0, 1) := by decide +kernel
theorem dX12_measure_127 : decode cX12_measure 127 = .ok (.iastore, 1) := by decide +kernel
theorem dX12_measure_128 : decode cX12_measure 128 = .ok (.aload_n 0, 1) := by decide +kernel
theorem dX12_measure_129 : decode cX12_measure 129 = .ok (.getfield 30, 3) := by decide +kernel
theorem dX12_measure_132 : decode cX12_measure 132 = .ok (.iload_n 1, 1) := by decide +kernel
theorem dX12_measure_133 : decode cX12_measure 133 = .ok (.iload 5, 2) := by decide +kernel
theorem dX12_measure_135 : decode cX12_measure 135 = .ok (.iastore, 1) := by decide +kernel
theorem dX12_measure_136 : decode cX12_measure 136 = .ok (.iinc 1 1, 3) := by decide +kernel
theorem dX12_measure_139 : decode cX12_measure 139 = .ok (.iinc 4 1, 3) := by decide +kernel
theorem dX12_measure_142 : decode cX12_measure 142 = .ok (.goto (-63), 3) := by decide +kernel
theorem dX12_measure_145 : decode cX12_measure 145 = .ok (.iinc 3 1, 3) := by decide +kernel
theorem dX12_measure_148 : decode cX12_measure 148 = .ok (.goto (-80), 3) := by decide +kernel
theorem dX12_measure_151 : decode cX12_measure 151 = .ok (.iconst 0, 1) := by decide +kernel
theorem dX12_measure_152 : decode cX12_measure 152 = .ok (.istore_n 3, 1) := by decide +kernel
theorem dX12_measure_153 : decode cX12_measure 153 = .ok (.iload_n 3, 1) := by decide +kernel
theorem dX12_measure_154 : decode cX12_measure 154 = .ok (.iload_n 1, 1) := by decide +kernel
theorem dX12_measure_155 : decode cX12_measure 155 = .ok (.if_icmp .ge 89, 3) := by decide +kernel
theorem dX12_measure_158 : decode cX12_measure 158 = .ok (.aload_n 0, 1) := by decide +kernel
theorem dX12_measure_159 : decode cX12_measure 159 = .ok (.getfield 30, 3) := by decide +kernel
theorem dX12_measure_162 : decode cX12_measure 162 = .ok (.iload_n 3, 1) := by decide +kernel
theorem dX12_measure_163 : decode cX12_measure 163 = .ok (.iaload, 1) := by decide +kernel
theorem dX12_measure_164 : decode cX12_measure 164 = .ok (.istore 4, 2) := by decide +kernel
theorem dX12_measure_166 : decode cX12_measure 166 = .ok (.aload_n 0, 1) := by decide +kernel
theorem dX12_measure_167 : decode cX12_measure 167 = .ok (.getfield 33, 3) := by decide +kernel
theorem dX12_measure_170 : decode cX12_measure 170 = .ok (.iload 4, 2) := by decide +kernel
theorem dX12_measure_172 : decode cX12_measure 172 = .ok (.iaload, 1) := by decide +kernel
theorem dX12_measure_173 : decode cX12_measure 173 = .ok (.istore 5, 2) := by decide +kernel
theorem dX12_measure_175 : decode cX12_measure 175 = .ok (.iload 5, 2) := by decide +kernel
theorem dX12_measure_177 : decode cX12_measure 177 = .ok (.ifCond .lt 61, 3) := by decide +kernel
theorem dX12_measure_180 : decode cX12_measure 180 = .ok (.aload_n 0, 1) := by decide +kernel
theorem dX12_measure_181 : decode cX12_measure 181 = .ok (.getfield 40, 3) := by decide +kernel
theorem dX12_measure_184 : decode cX12_measure 184 = .ok (.iload 5, 2) := by decide +kernel
theorem dX12_measure_186 : decode cX12_measure 186 = .ok (.iaload, 1) := by decide +kernel
theorem dX12_measure_187 : decode cX12_measure 187 = .ok (.istore 6, 2) := by decide +kernel
theorem dX12_measure_189 : decode cX12_measure 189 = .ok (.aload_n 0, 1) := by decide +kernel
theorem dX12_measure_190 : decode cX12_measure 190 = .ok (.getfield 27, 3) := by decide +kernel
theorem dX12_measure_193 : decode cX12_measure 193 = .ok (.iload 6, 2) := by decide +kernel
theorem dX12_measure_195 : decode cX12_measure 195 = .ok (.iaload, 1) := by decide +kernel
theorem dX12_measure_196 : decode cX12_measure 196 = .ok (.ifCond .ge 30, 3) := by decide +kernel
theorem dX12_measure_199 : decode cX12_measure 199 = .ok (.aload_n 0, 1) := by decide +kernel
theorem dX12_measure_200 : decode cX12_measure 200 = .ok (.getfield 27, 3) := by decide +kernel
theorem dX12_measure_203 : decode cX12_measure 203 = .ok (.iload 6, 2) := by decide +kernel
theorem dX12_measure_205 : decode cX12_measure 205 = .ok (.aload_n 0, 1) := by decide +kernel
theorem dX12_measure_206 : decode cX12_measure 206 = .ok (.getfield 27, 3) := by decide +kernel
theorem dX12_measure_209 : decode cX12_measure 209 = .ok (.iload 4, 2) := by decide +kernel
theorem dX12_measure_211 : decode cX12_measure 211 = .ok (.iaload, 1) := by decide +kernel
theorem dX12_measure_212 : decode cX12_measure 212 = .ok (.iconst 1, 1) := by decide +kernel
theorem dX12_measure_213 : decode cX12_measure 213 = .ok (.iadd, 1) := by decide +kernel
theorem dX12_measure_214 : decode cX12_measure 214 = .ok (.iastore, 1) := by decide +kernel
theorem dX12_measure_215 : decode cX12_measure 215 = .ok (.aload_n 0, 1) := by decide +kernel
theorem dX12_measure_216 : decode cX12_measure 216 = .ok (.getfield 30, 3) := by decide +kernel
theorem dX12_measure_219 : decode cX12_measure 219 = .ok (.iload_n 1, 1) := by decide +kernel
theorem dX12_measure_220 : decode cX12_measure 220 = .ok (.iload 6, 2) := by decide +kernel
theorem dX12_measure_222 : decode cX12_measure 222 = .ok (.iastore, 1) := by decide +kernel
theorem dX12_measure_223 : decode cX12_measure 223 = .ok (.iinc 1 1, 3) := by decide +kernel
theorem dX12_measure_226 : decode cX12_measure 226 = .ok (.aload_n 0, 1) := by decide +kernel
theorem dX12_measure_227 : decode cX12_measure 227 = .ok (.getfield 37, 3) := by decide +kernel
theorem dX12_measure_230 : decode cX12_measure 230 = .ok (.iload 5, 2) := by decide +kernel
theorem dX12_measure_232 : decode cX12_measure 232 = .ok (.iaload, 1) := by decide +kernel
theorem dX12_measure_233 : decode cX12_measure 233 = .ok (.istore 5, 2) := by decide +kernel
theorem dX12_measure_235 : decode cX12_measure 235 = .ok (.goto (-60), 3) := by decide +kernel
theorem dX12_measure_238 : decode cX12_measure 238 = .ok (.iinc 3 1, 3) := by decide +kernel
theorem dX12_measure_241 : decode cX12_measure 241 = .ok (.goto (-88), 3) := by decide +kernel
theorem dX12_measure_244 : decode cX12_measure 244 = .ok (.return_, 1) := by decide +kernel
theorem dX12_addBack_0 : decode cX12_addBack 0 = .ok (.iload_n 3, 1) := by decide +kernel
theorem dX12_addBack_1 : decode cX12_addBack 1 = .ok (.istore 4, 2) := by decide +kernel
theorem dX12_addBack_3 : decode cX12_addBack 3 = .ok (.aload_n 0, 1) := by decide +kernel
theorem dX12_addBack_4 : decode cX12_addBack 4 = .ok (.iload_n 1, 1) := by decide +kernel
theorem dX12_addBack_5 : decode cX12_addBack 5 = .ok (.iload_n 2, 1) := by decide +kernel
theorem dX12_addBack_6 : decode cX12_addBack 6 = .ok (.invokevirtual 253, 3) := by decide +kernel
theorem dX12_addBack_9 : decode cX12_addBack 9 = .ok (.istore 5, 2) := by decide +kernel
theorem dX12_addBack_11 : decode cX12_addBack 11 = .ok (.iconst 0, 1) := by decide +kernel
theorem dX12_addBack_12 : decode cX12_addBack 12 = .ok (.istore 6, 2) := by decide +kernel
theorem dX12_addBack_14 : decode cX12_addBack 14 = .ok (.iload 6, 2) := by decide +kernel
theorem dX12_addBack_16 : decode cX12_addBack 16 = .ok (.bipush 8, 2) := by decide +kernel
theorem dX12_addBack_18 : decode cX12_addBack 18 = .ok (.if_icmp .ge 70, 3) := by decide +kernel
theorem dX12_addBack_21 : decode cX12_addBack 21 = .ok (.iload 5, 2) := by decide +kernel
theorem dX12_addBack_23 : decode cX12_addBack 23 = .ok (.iload 6, 2) := by decide +kernel
theorem dX12_addBack_25 : decode cX12_addBack 25 = .ok (.ishr, 1) := by decide +kernel
theorem dX12_addBack_26 : decode cX12_addBack 26 = .ok (.iconst 1, 1) := by decide +kernel
theorem dX12_addBack_27 : decode cX12_addBack 27 = .ok (.iand, 1) := by decide +kernel
theorem dX12_addBack_28 : decode cX12_addBack 28 = .ok (.iconst 1, 1) := by decide +kernel
theorem dX12_addBack_29 : decode cX12_addBack 29 = .ok (.if_icmp .ne 53, 3) := by decide +kernel
theorem dX12_addBack_32 : decode cX12_addBack 32 = .ok (.aload_n 0, 1) := by decide +kernel
theorem dX12_addBack_33 : decode cX12_addBack 33 = .ok (.iload_n 1, 1) := by decide +kernel
theorem dX12_addBack_34 : decode cX12_addBack 34 = .ok (.iload_n 2, 1) := by decide +kernel
theorem dX12_addBack_35 : decode cX12_addBack 35 = .ok (.iload 6, 2) := by decide +kernel
theorem dX12_addBack_37 : decode cX12_addBack 37 = .ok (.invokevirtual 256, 3) := by decide +kernel
theorem dX12_addBack_40 : decode cX12_addBack 40 = .ok (.istore 7, 2) := by decide +kernel
theorem dX12_addBack_42 : decode cX12_addBack 42 = .ok (.aload_n 0, 1) := by decide +kernel
theorem dX12_addBack_43 : decode cX12_addBack 43 = .ok (.getfield 40, 3) := by decide +kernel
theorem dX12_addBack_46 : decode cX12_addBack 46 = .ok (.iload 4, 2) := by decide +kernel
theorem dX12_addBack_48 : decode cX12_addBack 48 = .ok (.sipush 400, 3) := by decide +kernel
theorem dX12_addBack_51 : decode cX12_addBack 51 = .ok (.iload_n 1, 1) := by decide +kernel
theorem dX12_addBack_52 : decode cX12_addBack 52 = .ok (.imul, 1) := by decide +kernel
theorem dX12_addBack_53 : decode cX12_addBack 53 = .ok (.iload_n 2, 1) := by decide +kernel
theorem dX12_addBack_54 : decode cX12_addBack 54 = .ok (.iadd, 1) := by decide +kernel
theorem dX12_addBack_55 : decode cX12_addBack 55 = .ok (.iastore, 1) := by decide +kernel
theorem dX12_addBack_56 : decode cX12_addBack 56 = .ok (.aload_n 0, 1) := by decide +kernel
theorem dX12_addBack_57 : decode cX12_addBack 57 = .ok (.getfield 37, 3) := by decide +kernel
theorem dX12_addBack_60 : decode cX12_addBack 60 = .ok (.iload 4, 2) := by decide +kernel
theorem dX12_addBack_62 : decode cX12_addBack 62 = .ok (.aload_n 0, 1) := by decide +kernel
theorem dX12_addBack_63 : decode cX12_addBack 63 = .ok (.getfield 33, 3) := by decide +kernel
theorem dX12_addBack_66 : decode cX12_addBack 66 = .ok (.iload 7, 2) := by decide +kernel
theorem dX12_addBack_68 : decode cX12_addBack 68 = .ok (.iaload, 1) := by decide +kernel
theorem dX12_addBack_69 : decode cX12_addBack 69 = .ok (.iastore, 1) := by decide +kernel
theorem dX12_addBack_70 : decode cX12_addBack 70 = .ok (.aload_n 0, 1) := by decide +kernel
theorem dX12_addBack_71 : decode cX12_addBack 71 = .ok (.getfield 33, 3) := by decide +kernel
theorem dX12_addBack_74 : decode cX12_addBack 74 = .ok (.iload 7, 2) := by decide +kernel
theorem dX12_addBack_76 : decode cX12_addBack 76 = .ok (.iload 4, 2) := by decide +kernel
theorem dX12_addBack_78 : decode cX12_addBack 78 = .ok (.iastore, 1) := by decide +kernel
theorem dX12_addBack_79 : decode cX12_addBack 79 = .ok (.iinc 4 1, 3) := by decide +kernel
theorem dX12_addBack_82 : decode cX12_addBack 82 = .ok (.iinc 6 1, 3) := by decide +kernel
theorem dX12_addBack_85 : decode cX12_addBack 85 = .ok (.goto (-71), 3) := by decide +kernel
theorem dX12_addBack_88 : decode cX12_addBack 88 = .ok (.iload 4, 2) := by decide +kernel
theorem dX12_addBack_90 : decode cX12_addBack 90 = .ok (.ireturn, 1) := by decide +kernel
theorem dX12_farOf_0 : decode cX12_farOf 0 = .ok (.aload_n 0, 1) := by decide +kernel
theorem dX12_farOf_1 : decode cX12_farOf 1 = .ok (.invokevirtual 259, 3) := by decide +kernel
theorem dX12_farOf_4 : decode cX12_farOf 4 = .ok (.aload_n 0, 1) := by decide +kernel
theorem dX12_farOf_5 : decode cX12_farOf 5 = .ok (.getfield 27, 3) := by decide +kernel
theorem dX12_farOf_8 : decode cX12_farOf 8 = .ok (.sipush 400, 3) := by decide +kernel
theorem dX12_farOf_11 : decode cX12_farOf 11 = .ok (.iload_n 1, 1) := by decide +kernel
theorem dX12_farOf_12 : decode cX12_farOf 12 = .ok (.imul, 1) := by decide +kernel
theorem dX12_farOf_13 : decode cX12_farOf 13 = .ok (.iload_n 2, 1) := by decide +kernel
theorem dX12_farOf_14 : decode cX12_farOf 14 = .ok (.iadd, 1) := by decide +kernel
theorem dX12_farOf_15 : decode cX12_farOf 15 = .ok (.iaload, 1) := by decide +kernel
theorem dX12_farOf_16 : decode cX12_farOf 16 = .ok (.ireturn, 1) := by decide +kernel
theorem dX12_isBelow_0 : decode cX12_isBelow 0 = .ok (.aload_n 0, 1) := by decide +kernel
theorem dX12_isBelow_1 : decode cX12_isBelow 1 = .ok (.iload_n 1, 1) := by decide +kernel
theorem dX12_isBelow_2 : decode cX12_isBelow 2 = .ok (.iload_n 2, 1) := by decide +kernel
theorem dX12_isBelow_3 : decode cX12_isBelow 3 = .ok (.invokevirtual 262, 3) := by decide +kernel
theorem dX12_isBelow_6 : decode cX12_isBelow 6 = .ok (.ifCond .ge 7, 3) := by decide +kernel
theorem dX12_isBelow_9 : decode cX12_isBelow 9 = .ok (.iconst 1, 1) := by decide +kernel
theorem dX12_isBelow_10 : decode cX12_isBelow 10 = .ok (.goto 4, 3) := by decide +kernel
theorem dX12_isBelow_13 : decode cX12_isBelow 13 = .ok (.iconst 0, 1) := by decide +kernel
theorem dX12_isBelow_14 : decode cX12_isBelow 14 = .ok (.ireturn, 1) := by decide +kernel
theorem dX12_below_0 : decode cX12_below 0 = .ok (.aload_n 0, 1) := by decide +kernel
theorem dX12_below_1 : decode cX12_below 1 = .ok (.iload_n 1, 1) := by decide +kernel
theorem dX12_below_2 : decode cX12_below 2 = .ok (.invokevirtual 265, 3) := by decide +kernel
theorem dX12_below_5 : decode cX12_below 5 = .ok (.ifCond .eq 11, 3) := by decide +kernel
theorem dX12_below_8 : decode cX12_below 8 = .ok (.aload_n 0, 1) := by decide +kernel
theorem dX12_below_9 : decode cX12_below 9 = .ok (.iload_n 2, 1) := by decide +kernel
theorem dX12_below_10 : decode cX12_below 10 = .ok (.invokevirtual 265, 3) := by decide +kernel
theorem dX12_below_13 : decode cX12_below 13 = .ok (.ifCond .ne 8, 3) := by decide +kernel
theorem dX12_below_16 : decode cX12_below 16 = .ok (.bipush (-2), 2) := by decide +kernel
theorem dX12_below_18 : decode cX12_below 18 = .ok (.goto 17, 3) := by decide +kernel
theorem dX12_below_21 : decode cX12_below 21 = .ok (.aload_n 0, 1) := by decide +kernel
theorem dX12_below_22 : decode cX12_below 22 = .ok (.iload_n 1, 1) := by decide +kernel
theorem dX12_below_23 : decode cX12_below 23 = .ok (.iload_n 2, 1) := by decide +kernel
theorem dX12_below_24 : decode cX12_below 24 = .ok (.invokevirtual 269, 3) := by decide +kernel
theorem dX12_below_27 : decode cX12_below 27 = .ok (.ifCond .eq 7, 3) := by decide +kernel
theorem dX12_below_30 : decode cX12_below 30 = .ok (.iconst 1, 1) := by decide +kernel
theorem dX12_below_31 : decode cX12_below 31 = .ok (.goto 4, 3) := by decide +kernel
theorem dX12_below_34 : decode cX12_below 34 = .ok (.iconst 0, 1) := by decide +kernel
theorem dX12_below_35 : decode cX12_below 35 = .ok (.ireturn, 1) := by decide +kernel
theorem dX12_depth_0 : decode cX12_depth 0 = .ok (.aload_n 0, 1) := by decide +kernel
theorem dX12_depth_1 : decode cX12_depth 1 = .ok (.iload_n 1, 1) := by decide +kernel
theorem dX12_depth_2 : decode cX12_depth 2 = .ok (.invokevirtual 265, 3) := by decide +kernel
theorem dX12_depth_5 : decode cX12_depth 5 = .ok (.ifCond .eq 11, 3) := by decide +kernel
theorem dX12_depth_8 : decode cX12_depth 8 = .ok (.aload_n 0, 1) := by decide +kernel
theorem dX12_depth_9 : decode cX12_depth 9 = .ok (.iload_n 2, 1) := by decide +kernel
theorem dX12_depth_10 : decode cX12_depth 10 = .ok (.invokevirtual 265, 3) := by decide +kernel
theorem dX12_depth_13 : decode cX12_depth 13 = .ok (.ifCond .ne 8, 3) := by decide +kernel
theorem dX12_depth_16 : decode cX12_depth 16 = .ok (.bipush (-2), 2) := by decide +kernel
theorem dX12_depth_18 : decode cX12_depth 18 = .ok (.goto 9, 3) := by decide +kernel
theorem dX12_depth_21 : decode cX12_depth 21 = .ok (.aload_n 0, 1) := by decide +kernel
theorem dX12_depth_22 : decode cX12_depth 22 = .ok (.iload_n 1, 1) := by decide +kernel
theorem dX12_depth_23 : decode cX12_depth 23 = .ok (.iload_n 2, 1) := by decide +kernel
theorem dX12_depth_24 : decode cX12_depth 24 = .ok (.invokevirtual 262, 3) := by decide +kernel
theorem dX12_depth_27 : decode cX12_depth 27 = .ok (.ireturn, 1) := by decide +kernel
theorem dX12_way_0 : decode cX12_way 0 = .ok (.aload_n 0, 1) := by decide +kernel
theorem dX12_way_1 : decode cX12_way 1 = .ok (.iload_n 1, 1) := by decide +kernel
theorem dX12_way_2 : decode cX12_way 2 = .ok (.invokevirtual 265, 3) := by decide +kernel
theorem dX12_way_5 : decode cX12_way 5 = .ok (.ifCond .eq 11, 3) := by decide +kernel
theorem dX12_way_8 : decode cX12_way 8 = .ok (.aload_n 0, 1) := by decide +kernel
theorem dX12_way_9 : decode cX12_way 9 = .ok (.iload_n 2, 1) := by decide +kernel
theorem dX12_way_10 : decode cX12_way 10 = .ok (.invokevirtual 265, 3) := by decide +kernel
theorem dX12_way_13 : decode cX12_way 13 = .ok (.ifCond .ne 6, 3) := by decide +kernel
theorem dX12_way_16 : decode cX12_way 16 = .ok (.bipush (-2), 2) := by decide +kernel
theorem dX12_way_18 : decode cX12_way 18 = .ok (.ireturn, 1) := by decide +kernel
theorem dX12_way_19 : decode cX12_way 19 = .ok (.aload_n 0, 1) := by decide +kernel
theorem dX12_way_20 : decode cX12_way 20 = .ok (.iload_n 1, 1) := by decide +kernel
theorem dX12_way_21 : decode cX12_way 21 = .ok (.iload_n 2, 1) := by decide +kernel
theorem dX12_way_22 : decode cX12_way 22 = .ok (.invokevirtual 262, 3) := by decide +kernel
theorem dX12_way_25 : decode cX12_way 25 = .ok (.istore 4, 2) := by decide +kernel
theorem dX12_way_27 : decode cX12_way 27 = .ok (.iload 4, 2) := by decide +kernel
theorem dX12_way_29 : decode cX12_way 29 = .ok (.ifCond .lt 13, 3) := by decide +kernel
theorem dX12_way_32 : decode cX12_way 32 = .ok (.iload_n 3, 1) := by decide +kernel
theorem dX12_way_33 : decode cX12_way 33 = .ok (.ifCond .lt 9, 3) := by decide +kernel
theorem dX12_way_36 : decode cX12_way 36 = .ok (.iload_n 3, 1) := by decide +kernel
theorem dX12_way_37 : decode cX12_way 37 = .ok (.iload 4, 2) := by decide +kernel
theorem dX12_way_39 : decode cX12_way 39 = .ok (.if_icmp .lt 5, 3) := by decide +kernel
theorem dX12_way_42 : decode cX12_way 42 = .ok (.iconst (-1), 1) := by decide +kernel
theorem dX12_way_43 : decode cX12_way 43 = .ok (.ireturn, 1) := by decide +kernel
theorem dX12_way_44 : decode cX12_way 44 = .ok (.iload_n 1, 1) := by decide +kernel
theorem dX12_way_45 : decode cX12_way 45 = .ok (.istore 5, 2) := by decide +kernel
theorem dX12_way_47 : decode cX12_way 47 = .ok (.iload_n 2, 1) := by decide +kernel
theorem dX12_way_48 : decode cX12_way 48 = .ok (.istore 6, 2) := by decide +kernel
theorem dX12_way_50 : decode cX12_way 50 = .ok (.iconst (-1), 1) := by decide +kernel
theorem dX12_way_51 : decode cX12_way 51 = .ok (.istore 7, 2) := by decide +kernel
theorem dX12_way_53 : decode cX12_way 53 = .ok (.iconst 0, 1) := by decide +kernel
theorem dX12_way_54 : decode cX12_way 54 = .ok (.istore 8, 2) := by decide +kernel
theorem dX12_way_56 : decode cX12_way 56 = .ok (.iload 8, 2) := by decide +kernel
theorem dX12_way_58 : decode cX12_way 58 = .ok (.iload_n 3, 1) := by decide +kernel
theorem dX12_way_59 : decode cX12_way 59 = .ok (.if_icmp .gt 120, 3) := by decide +kernel
theorem dX12_way_62 : decode cX12_way 62 = .ok (.iconst 0, 1) := by decide +kernel
theorem dX12_way_63 : decode cX12_way 63 = .ok (.istore 7, 2) := by decide +kernel
theorem dX12_way_65 : decode cX12_way 65 = .ok (.aload_n 0, 1) := by decide +kernel
theorem dX12_way_66 : decode cX12_way 66 = .ok (.iload 5, 2) := by decide +kernel
theorem dX12_way_68 : decode cX12_way 68 = .ok (.iload 6, 2) := by decide +kernel
theorem dX12_way_70 : decode cX12_way 70 = .ok (.invokevirtual 253, 3) := by decide +kernel
theorem dX12_way_73 : decode cX12_way 73 = .ok (.istore 9, 2) := by decide +kernel
theorem dX12_way_75 : decode cX12_way 75 = .ok (.iconst 0, 1) := by decide +kernel
theorem dX12_way_76 : decode cX12_way 76 = .ok (.istore 10, 2) := by decide +kernel
theorem dX12_way_78 : decode cX12_way 78 = .ok (.iload 10, 2) := by decide +kernel
theorem dX12_way_80 : decode cX12_way 80 = .ok (.ifCond .ne 62, 3) := by decide +kernel
theorem dX12_way_83 : decode cX12_way 83 = .ok (.iload 9, 2) := by decide +kernel
theorem dX12_way_85 : decode cX12_way 85 = .ok (.iload 7, 2) := by decide +kernel
theorem dX12_way_87 : decode cX12_way 87 = .ok (.ishr, 1) := by decide +kernel
theorem dX12_way_88 : decode cX12_way 88 = .ok (.iconst 1, 1) := by decide +kernel
theorem dX12_way_89 : decode cX12_way 89 = .ok (.iand, 1) := by decide +kernel
theorem dX12_way_90 : decode cX12_way 90 = .ok (.iconst 1, 1) := by decide +kernel
theorem dX12_way_91 : decode cX12_way 91 = .ok (.if_icmp .ne 29, 3) := by decide +kernel
theorem dX12_way_94 : decode cX12_way 94 = .ok (.aload_n 0, 1) := by decide +kernel
theorem dX12_way_95 : decode cX12_way 95 = .ok (.getfield 27, 3) := by decide +kernel
theorem dX12_way_98 : decode cX12_way 98 = .ok (.aload_n 0, 1) := by decide +kernel
theorem dX12_way_99 : decode cX12_way 99 = .ok (.iload 5, 2) := by decide +kernel
theorem dX12_way_101 : decode cX12_way 101 = .ok (.iload 6, 2) := by decide +kernel
theorem dX12_way_103 : decode cX12_way 103 = .ok (.iload 7, 2) := by decide +kernel
theorem dX12_way_105 : decode cX12_way 105 = .ok (.invokevirtual 256, 3) := by decide +kernel
theorem dX12_way_108 : decode cX12_way 108 = .ok (.iaload, 1) := by decide +kernel
theorem dX12_way_109 : decode cX12_way 109 = .ok (.iload 4, 2) := by decide +kernel
theorem dX12_way_111 : decode cX12_way 111 = .ok (.iconst 1, 1) := by decide +kernel
theorem dX12_way_112 : decode cX12_way 112 = .ok (.isub, 1) := by decide +kernel
theorem dX12_way_113 : decode cX12_way 113 = .ok (.if_icmp .ne 7, 3) := by decide +kernel
theorem dX12_way_116 : decode cX12_way 116 = .ok (.iconst 1, 1) := by decide +kernel
theorem dX12_way_117 : decode cX12_way 117 = .ok (.goto 4, 3) := by decide +kernel
theorem dX12_way_120 : decode cX12_way 120 = .ok (.iconst 0, 1) := by decide +kernel
theorem dX12_way_121 : decode cX12_way 121 = .ok (.istore 10, 2) := by decide +kernel
theorem dX12_way_123 : decode cX12_way 123 = .ok (.iload 10, 2) := by decide +kernel
theorem dX12_way_125 : decode cX12_way 125 = .ok (.ifCond .eq 8, 3) := by decide +kernel
theorem dX12_way_128 : decode cX12_way 128 = .ok (.iload 7, 2) := by decide +kernel
theorem dX12_way_130 : decode cX12_way 130 = .ok (.goto 7, 3) := by decide +kernel
theorem dX12_way_133 : decode cX12_way 133 = .ok (.iload 7, 2) := by decide +kernel
theorem dX12_way_135 : decode cX12_way 135 = .ok (.iconst 1, 1) := by decide +kernel
theorem dX12_way_136 : decode cX12_way 136 = .ok (.iadd, 1) := by decide +kernel
theorem dX12_way_137 : decode cX12_way 137 = .ok (.istore 7, 2) := by decide +kernel
theorem dX12_way_139 : decode cX12_way 139 = .ok (.goto (-61), 3) := by decide +kernel
theorem dX12_way_142 : decode cX12_way 142 = .ok (.aload_n 0, 1) := by decide +kernel
theorem dX12_way_143 : decode cX12_way 143 = .ok (.iload 5, 2) := by decide +kernel
theorem dX12_way_145 : decode cX12_way 145 = .ok (.iload 6, 2) := by decide +kernel
theorem dX12_way_147 : decode cX12_way 147 = .ok (.iload 7, 2) := by decide +kernel
theorem dX12_way_149 : decode cX12_way 149 = .ok (.invokevirtual 256, 3) := by decide +kernel
theorem dX12_way_152 : decode cX12_way 152 = .ok (.istore 11, 2) := by decide +kernel
theorem dX12_way_154 : decode cX12_way 154 = .ok (.iload 11, 2) := by decide +kernel
theorem dX12_way_156 : decode cX12_way 156 = .ok (.sipush 400, 3) := by decide +kernel
theorem dX12_way_159 : decode cX12_way 159 = .ok (.idiv, 1) := by decide +kernel
theorem dX12_way_160 : decode cX12_way 160 = .ok (.istore 5, 2) := by decide +kernel
theorem dX12_way_162 : decode cX12_way 162 = .ok (.iload 11, 2) := by decide +kernel
theorem dX12_way_164 : decode cX12_way 164 = .ok (.sipush 400, 3) := by decide +kernel
theorem dX12_way_167 : decode cX12_way 167 = .ok (.irem, 1) := by decide +kernel
theorem dX12_way_168 : decode cX12_way 168 = .ok (.istore 6, 2) := by decide +kernel
theorem dX12_way_170 : decode cX12_way 170 = .ok (.iinc 4 (-1), 3) := by decide +kernel
theorem dX12_way_173 : decode cX12_way 173 = .ok (.iinc 8 1, 3) := by decide +kernel
theorem dX12_way_176 : decode cX12_way 176 = .ok (.goto (-120), 3) := by decide +kernel
theorem dX12_way_179 : decode cX12_way 179 = .ok (.iload 7, 2) := by decide +kernel
theorem dX12_way_181 : decode cX12_way 181 = .ok (.ireturn, 1) := by decide +kernel
theorem dX12_ask_0 : decode cX12_ask 0 = .ok (.aload_n 0, 1) := by decide +kernel
theorem dX12_ask_1 : decode cX12_ask 1 = .ok (.getfield 43, 3) := by decide +kernel
theorem dX12_ask_4 : decode cX12_ask 4 = .ok (.aload_n 0, 1) := by decide +kernel
theorem dX12_ask_5 : decode cX12_ask 5 = .ok (.getfield 272, 3) := by decide +kernel
theorem dX12_ask_8 : decode cX12_ask 8 = .ok (.iload_n 1, 1) := by decide +kernel
theorem dX12_ask_9 : decode cX12_ask 9 = .ok (.iastore, 1) := by decide +kernel
theorem dX12_ask_10 : decode cX12_ask 10 = .ok (.aload_n 0, 1) := by decide +kernel
theorem dX12_ask_11 : decode cX12_ask 11 = .ok (.getfield 46, 3) := by decide +kernel
theorem dX12_ask_14 : decode cX12_ask 14 = .ok (.aload_n 0, 1) := by decide +kernel
theorem dX12_ask_15 : decode cX12_ask 15 = .ok (.getfield 272, 3) := by decide +kernel
theorem dX12_ask_18 : decode cX12_ask 18 = .ok (.iload_n 2, 1) := by decide +kernel
theorem dX12_ask_19 : decode cX12_ask 19 = .ok (.iastore, 1) := by decide +kernel
theorem dX12_ask_20 : decode cX12_ask 20 = .ok (.aload_n 0, 1) := by decide +kernel
theorem dX12_ask_21 : decode cX12_ask 21 = .ok (.getfield 49, 3) := by decide +kernel
theorem dX12_ask_24 : decode cX12_ask 24 = .ok (.aload_n 0, 1) := by decide +kernel
theorem dX12_ask_25 : decode cX12_ask 25 = .ok (.getfield 272, 3) := by decide +kernel
theorem dX12_ask_28 : decode cX12_ask 28 = .ok (.iload_n 3, 1) := by decide +kernel
theorem dX12_ask_29 : decode cX12_ask 29 = .ok (.iastore, 1) := by decide +kernel
theorem dX12_ask_30 : decode cX12_ask 30 = .ok (.aload_n 0, 1) := by decide +kernel
theorem dX12_ask_31 : decode cX12_ask 31 = .ok (.getfield 52, 3) := by decide +kernel
theorem dX12_ask_34 : decode cX12_ask 34 = .ok (.aload_n 0, 1) := by decide +kernel
theorem dX12_ask_35 : decode cX12_ask 35 = .ok (.getfield 272, 3) := by decide +kernel
theorem dX12_ask_38 : decode cX12_ask 38 = .ok (.iload 4, 2) := by decide +kernel
theorem dX12_ask_40 : decode cX12_ask 40 = .ok (.iastore, 1) := by decide +kernel
theorem dX12_ask_41 : decode cX12_ask 41 = .ok (.aload_n 0, 1) := by decide +kernel
theorem dX12_ask_42 : decode cX12_ask 42 = .ok (.getfield 55, 3) := by decide +kernel
theorem dX12_ask_45 : decode cX12_ask 45 = .ok (.aload_n 0, 1) := by decide +kernel
theorem dX12_ask_46 : decode cX12_ask 46 = .ok (.getfield 272, 3) := by decide +kernel
theorem dX12_ask_49 : decode cX12_ask 49 = .ok (.iload 5, 2) := by decide +kernel
theorem dX12_ask_51 : decode cX12_ask 51 = .ok (.iastore, 1) := by decide +kernel
theorem dX12_ask_52 : decode cX12_ask 52 = .ok (.aload_n 0, 1) := by decide +kernel
theorem dX12_ask_53 : decode cX12_ask 53 = .ok (.dup, 1) := by decide +kernel
theorem dX12_ask_54 : decode cX12_ask 54 = .ok (.getfield 272, 3) := by decide +kernel
theorem dX12_ask_57 : decode cX12_ask 57 = .ok (.iconst 1, 1) := by decide +kernel
theorem dX12_ask_58 : decode cX12_ask 58 = .ok (.iadd, 1) := by decide +kernel
theorem dX12_ask_59 : decode cX12_ask 59 = .ok (.putfield 272, 3) := by decide +kernel
theorem dX12_ask_62 : decode cX12_ask 62 = .ok (.return_, 1) := by decide +kernel
theorem dX12_simple_0 : decode cX12_simple 0 = .ok (.iload_n 1, 1) := by decide +kernel
theorem dX12_simple_1 : decode cX12_simple 1 = .ok (.ifCond .ne 7, 3) := by decide +kernel
theorem dX12_simple_4 : decode cX12_simple 4 = .ok (.iconst 1, 1) := by decide +kernel
theorem dX12_simple_5 : decode cX12_simple 5 = .ok (.goto 4, 3) := by decide +kernel
theorem dX12_simple_8 : decode cX12_simple 8 = .ok (.iconst 0, 1) := by decide +kernel
theorem dX12_simple_9 : decode cX12_simple 9 = .ok (.istore 4, 2) := by decide +kernel
theorem dX12_simple_11 : decode cX12_simple 11 = .ok (.iload_n 1, 1) := by decide +kernel
theorem dX12_simple_12 : decode cX12_simple 12 = .ok (.ifCond .ne 7, 3) := by decide +kernel
theorem dX12_simple_15 : decode cX12_simple 15 = .ok (.iconst 0, 1) := by decide +kernel
theorem dX12_simple_16 : decode cX12_simple 16 = .ok (.goto 4, 3) := by decide +kernel
theorem dX12_simple_19 : decode cX12_simple 19 = .ok (.iconst 1, 1) := by decide +kernel
theorem dX12_simple_20 : decode cX12_simple 20 = .ok (.istore 5, 2) := by decide +kernel
theorem dX12_simple_22 : decode cX12_simple 22 = .ok (.iload_n 2, 1) := by decide +kernel
theorem dX12_simple_23 : decode cX12_simple 23 = .ok (.iload_n 3, 1) := by decide +kernel
theorem dX12_simple_24 : decode cX12_simple 24 = .ok (.if_icmp .ne 5, 3) := by decide +kernel
theorem dX12_simple_27 : decode cX12_simple 27 = .ok (.iload_n 2, 1) := by decide +kernel
theorem dX12_simple_28 : decode cX12_simple 28 = .ok (.ireturn, 1) := by decide +kernel
theorem dX12_simple_29 : decode cX12_simple 29 = .ok (.aload_n 0, 1) := by decide +kernel
theorem dX12_simple_30 : decode cX12_simple 30 = .ok (.getfield 17, 3) := by decide +kernel
theorem dX12_simple_33 : decode cX12_simple 33 = .ok (.iload_n 2, 1) := by decide +kernel
theorem dX12_simple_34 : decode cX12_simple 34 = .ok (.iaload, 1) := by decide +kernel
theorem dX12_simple_35 : decode cX12_simple 35 = .ok (.iload 4, 2) := by decide +kernel
theorem dX12_simple_37 : decode cX12_simple 37 = .ok (.if_icmp .ne 5, 3) := by decide +kernel
theorem dX12_simple_40 : decode cX12_simple 40 = .ok (.iload_n 3, 1) := by decide +kernel
theorem dX12_simple_41 : decode cX12_simple 41 = .ok (.ireturn, 1) := by decide +kernel
theorem dX12_simple_42 : decode cX12_simple 42 = .ok (.aload_n 0, 1) := by decide +kernel
theorem dX12_simple_43 : decode cX12_simple 43 = .ok (.getfield 17, 3) := by decide +kernel
theorem dX12_simple_46 : decode cX12_simple 46 = .ok (.iload_n 3, 1) := by decide +kernel
theorem dX12_simple_47 : decode cX12_simple 47 = .ok (.iaload, 1) := by decide +kernel
theorem dX12_simple_48 : decode cX12_simple 48 = .ok (.iload 4, 2) := by decide +kernel
theorem dX12_simple_50 : decode cX12_simple 50 = .ok (.if_icmp .ne 5, 3) := by decide +kernel
theorem dX12_simple_53 : decode cX12_simple 53 = .ok (.iload_n 2, 1) := by decide +kernel
theorem dX12_simple_54 : decode cX12_simple 54 = .ok (.ireturn, 1) := by decide +kernel
theorem dX12_simple_55 : decode cX12_simple 55 = .ok (.aload_n 0, 1) := by decide +kernel
theorem dX12_simple_56 : decode cX12_simple 56 = .ok (.getfield 17, 3) := by decide +kernel
theorem dX12_simple_59 : decode cX12_simple 59 = .ok (.iload_n 2, 1) := by decide +kernel
theorem dX12_simple_60 : decode cX12_simple 60 = .ok (.iaload, 1) := by decide +kernel
theorem dX12_simple_61 : decode cX12_simple 61 = .ok (.iload 5, 2) := by decide +kernel
theorem dX12_simple_63 : decode cX12_simple 63 = .ok (.if_icmp .ne 5, 3) := by decide +kernel
theorem dX12_simple_66 : decode cX12_simple 66 = .ok (.iload_n 2, 1) := by decide +kernel
theorem dX12_simple_67 : decode cX12_simple 67 = .ok (.ireturn, 1) := by decide +kernel
theorem dX12_simple_68 : decode cX12_simple 68 = .ok (.aload_n 0, 1) := by decide +kernel
theorem dX12_simple_69 : decode cX12_simple 69 = .ok (.getfield 17, 3) := by decide +kernel
theorem dX12_simple_72 : decode cX12_simple 72 = .ok (.iload_n 3, 1) := by decide +kernel
theorem dX12_simple_73 : decode cX12_simple 73 = .ok (.iaload, 1) := by decide +kernel
theorem dX12_simple_74 : decode cX12_simple 74 = .ok (.iload 5, 2) := by decide +kernel
theorem dX12_simple_76 : decode cX12_simple 76 = .ok (.if_icmp .ne 5, 3) := by decide +kernel
theorem dX12_simple_79 : decode cX12_simple 79 = .ok (.iload_n 3, 1) := by decide +kernel
theorem dX12_simple_80 : decode cX12_simple 80 = .ok (.ireturn, 1) := by decide +kernel
theorem dX12_simple_81 : decode cX12_simple 81 = .ok (.aload_n 0, 1) := by decide +kernel
theorem dX12_simple_82 : decode cX12_simple 82 = .ok (.getfield 17, 3) := by decide +kernel
theorem dX12_simple_85 : decode cX12_simple 85 = .ok (.iload_n 2, 1) := by decide +kernel
theorem dX12_simple_86 : decode cX12_simple 86 = .ok (.iaload, 1) := by decide +kernel
theorem dX12_simple_87 : decode cX12_simple 87 = .ok (.aload_n 0, 1) := by decide +kernel
theorem dX12_simple_88 : decode cX12_simple 88 = .ok (.getfield 17, 3) := by decide +kernel
theorem dX12_simple_91 : decode cX12_simple 91 = .ok (.iload_n 3, 1) := by decide +kernel
theorem dX12_simple_92 : decode cX12_simple 92 = .ok (.iaload, 1) := by decide +kernel
theorem dX12_simple_93 : decode cX12_simple 93 = .ok (.if_icmp .ne 27, 3) := by decide +kernel
theorem dX12_simple_96 : decode cX12_simple 96 = .ok (.aload_n 0, 1) := by decide +kernel
theorem dX12_simple_97 : decode cX12_simple 97 = .ok (.getfield 17, 3) := by decide +kernel
theorem dX12_simple_100 : decode cX12_simple 100 = .ok (.iload_n 2, 1) := by decide +kernel
theorem dX12_simple_101 : decode cX12_simple 101 = .ok (.iaload, 1) := by decide +kernel
theorem dX12_simple_102 : decode cX12_simple 102 = .ok (.iconst 2, 1) := by decide +kernel
theorem dX12_simple_103 : decode cX12_simple 103 = .ok (.if_icmp .eq 13, 3) := by decide +kernel
theorem dX12_simple_106 : decode cX12_simple 106 = .ok (.aload_n 0, 1) := by decide +kernel
theorem dX12_simple_107 : decode cX12_simple 107 = .ok (.getfield 17, 3) := by decide +kernel
theorem dX12_simple_110 : decode cX12_simple 110 = .ok (.iload_n 2, 1) := by decide +kernel
theorem dX12_simple_111 : decode cX12_simple 111 = .ok (.iaload, 1) := by decide +kernel
theorem dX12_simple_112 : decode cX12_simple 112 = .ok (.iconst 3, 1) := by decide +kernel
theorem dX12_simple_113 : decode cX12_simple 113 = .ok (.if_icmp .ne 7, 3) := by decide +kernel
theorem dX12_simple_116 : decode cX12_simple 116 = .ok (.iload_n 2, 1) := by decide +kernel
theorem dX12_simple_117 : decode cX12_simple 117 = .ok (.goto 4, 3) := by decide +kernel
theorem dX12_simple_120 : decode cX12_simple 120 = .ok (.iconst (-1), 1) := by decide +kernel
theorem dX12_simple_121 : decode cX12_simple 121 = .ok (.ireturn, 1) := by decide +kernel
theorem dX12_findMade_0 : decode cX12_findMade 0 = .ok (.iconst 0, 1) := by decide +kernel
theorem dX12_findMade_1 : decode cX12_findMade 1 = .ok (.istore 4, 2) := by decide +kernel
theorem dX12_findMade_3 : decode cX12_findMade 3 = .ok (.iload 4, 2) := by decide +kernel
theorem dX12_findMade_5 : decode cX12_findMade 5 = .ok (.aload_n 0, 1) := by decide +kernel
theorem dX12_findMade_6 : decode cX12_findMade 6 = .ok (.getfield 275, 3) := by decide +kernel
theorem dX12_findMade_9 : decode cX12_findMade 9 = .ok (.if_icmp .ge 50, 3) := by decide +kernel
theorem dX12_findMade_12 : decode cX12_findMade 12 = .ok (.aload_n 0, 1) := by decide +kernel
theorem dX12_findMade_13 : decode cX12_findMade 13 = .ok (.getfield 58, 3) := by decide +kernel
theorem dX12_findMade_16 : decode cX12_findMade 16 = .ok (.iload 4, 2) := by decide +kernel
theorem dX12_findMade_18 : decode cX12_findMade 18 = .ok (.iaload, 1) := by decide +kernel
theorem dX12_findMade_19 : decode cX12_findMade 19 = .ok (.iload_n 1, 1) := by decide +kernel
theorem dX12_findMade_20 : decode cX12_findMade 20 = .ok (.if_icmp .ne 33, 3) := by decide +kernel
theorem dX12_findMade_23 : decode cX12_findMade 23 = .ok (.aload_n 0, 1) := by decide +kernel
theorem dX12_findMade_24 : decode cX12_findMade 24 = .ok (.getfield 61, 3) := by decide +kernel
theorem dX12_findMade_27 : decode cX12_findMade 27 = .ok (.iload 4, 2) := by decide +kernel
theorem dX12_findMade_29 : decode cX12_findMade 29 = .ok (.iaload, 1) := by decide +kernel
theorem dX12_findMade_30 : decode cX12_findMade 30 = .ok (.iload_n 2, 1) := by decide +kernel
theorem dX12_findMade_31 : decode cX12_findMade 31 = .ok (.if_icmp .ne 22, 3) := by decide +kernel
theorem dX12_findMade_34 : decode cX12_findMade 34 = .ok (.aload_n 0, 1) := by decide +kernel
theorem dX12_findMade_35 : decode cX12_findMade 35 = .ok (.getfield 64, 3) := by decide +kernel
theorem dX12_findMade_38 : decode cX12_findMade 38 = .ok (.iload 4, 2) := by decide +kernel
theorem dX12_findMade_40 : decode cX12_findMade 40 = .ok (.iaload, 1) := by decide +kernel
theorem dX12_findMade_41 : decode cX12_findMade 41 = .ok (.iload_n 3, 1) := by decide +kernel
theorem dX12_findMade_42 : decode cX12_findMade 42 = .ok (.if_icmp .ne 11, 3) := by decide +kernel
theorem dX12_findMade_45 : decode cX12_findMade 45 = .ok (.aload_n 0, 1) := by decide +kernel
theorem dX12_findMade_46 : decode cX12_findMade 46 = .ok (.getfield 67, 3) := by decide +kernel
theorem dX12_findMade_49 : decode cX12_findMade 49 = .ok (.iload 4, 2) := by decide +kernel
theorem dX12_findMade_51 : decode cX12_findMade 51 = .ok (.iaload, 1) := by decide +kernel
theorem dX12_findMade_52 : decode cX12_findMade 52 = .ok (.ireturn, 1) := by decide +kernel
theorem dX12_findMade_53 : decode cX12_findMade 53 = .ok (.iinc 4 1, 3) := by decide +kernel
theorem dX12_findMade_56 : decode cX12_findMade 56 = .ok (.goto (-53), 3) := by decide +kernel
theorem dX12_findMade_59 : decode cX12_findMade 59 = .ok (.iconst (-1), 1) := by decide +kernel
theorem dX12_findMade_60 : decode cX12_findMade 60 = .ok (.ireturn, 1) := by decide +kernel
theorem dX12_make_0 : decode cX12_make 0 = .ok (.aload_n 0, 1) := by decide +kernel
theorem dX12_make_1 : decode cX12_make 1 = .ok (.getfield 17, 3) := by decide +kernel
theorem dX12_make_4 : decode cX12_make 4 = .ok (.iload_n 2, 1) := by decide +kernel
theorem dX12_make_5 : decode cX12_make 5 = .ok (.iaload, 1) := by decide +kernel
theorem dX12_make_6 : decode cX12_make 6 = .ok (.aload_n 0, 1) := by decide +kernel
theorem dX12_make_7 : decode cX12_make 7 = .ok (.getfield 17, 3) := by decide +kernel
theorem dX12_make_10 : decode cX12_make 10 = .ok (.iload_n 3, 1) := by decide +kernel
theorem dX12_make_11 : decode cX12_make 11 = .ok (.iaload, 1) := by decide +kernel
theorem dX12_make_12 : decode cX12_make 12 = .ok (.if_icmp .ne 7, 3) := by decide +kernel
theorem dX12_make_15 : decode cX12_make 15 = .ok (.iconst 1, 1) := by decide +kernel
theorem dX12_make_16 : decode cX12_make 16 = .ok (.goto 4, 3) := by decide +kernel
theorem dX12_make_19 : decode cX12_make 19 = .ok (.iconst 0, 1) := by decide +kernel
theorem dX12_make_20 : decode cX12_make 20 = .ok (.istore 4, 2) := by decide +kernel
theorem dX12_make_22 : decode cX12_make 22 = .ok (.iload 4, 2) := by decide +kernel
theorem dX12_make_24 : decode cX12_make 24 = .ok (.ifCond .eq 12, 3) := by decide +kernel
theorem dX12_make_27 : decode cX12_make 27 = .ok (.aload_n 0, 1) := by decide +kernel
theorem dX12_make_28 : decode cX12_make 28 = .ok (.getfield 17, 3) := by decide +kernel
theorem dX12_make_31 : decode cX12_make 31 = .ok (.iload_n 2, 1) := by decide +kernel
theorem dX12_make_32 : decode cX12_make 32 = .ok (.iaload, 1) := by decide +kernel
theorem dX12_make_33 : decode cX12_make 33 = .ok (.goto 12, 3) := by decide +kernel
theorem dX12_make_36 : decode cX12_make 36 = .ok (.iload_n 1, 1) := by decide +kernel
theorem dX12_make_37 : decode cX12_make 37 = .ok (.ifCond .ne 7, 3) := by decide +kernel
theorem dX12_make_40 : decode cX12_make 40 = .ok (.iconst 0, 1) := by decide +kernel
theorem dX12_make_41 : decode cX12_make 41 = .ok (.goto 4, 3) := by decide +kernel
theorem dX12_make_44 : decode cX12_make 44 = .ok (.iconst 1, 1) := by decide +kernel
theorem dX12_make_45 : decode cX12_make 45 = .ok (.istore 5, 2) := by decide +kernel
theorem dX12_make_47 : decode cX12_make 47 = .ok (.iload 5, 2) := by decide +kernel
theorem dX12_make_49 : decode cX12_make 49 = .ok (.iconst 5, 1) := by decide +kernel
theorem dX12_make_50 : decode cX12_make 50 = .ok (.if_icmp .ne 7, 3) := by decide +kernel
theorem dX12_make_53 : decode cX12_make 53 = .ok (.iconst 1, 1) := by decide +kernel
theorem dX12_make_54 : decode cX12_make 54 = .ok (.goto 4, 3) := by decide +kernel
theorem dX12_make_57 : decode cX12_make 57 = .ok (.iconst 0, 1) := by decide +kernel
theorem dX12_make_58 : decode cX12_make 58 = .ok (.iload_n 1, 1) := by decide +kernel
theorem dX12_make_59 : decode cX12_make 59 = .ok (.ifCond .ne 7, 3) := by decide +kernel
theorem dX12_make_62 : decode cX12_make 62 = .ok (.iconst 1, 1) := by decide +kernel
theorem dX12_make_63 : decode cX12_make 63 = .ok (.goto 4, 3) := by decide +kernel
theorem dX12_make_66 : decode cX12_make 66 = .ok (.iconst 0, 1) := by decide +kernel
theorem dX12_make_67 : decode cX12_make 67 = .ok (.if_icmp .ne 7, 3) := by decide +kernel
theorem dX12_make_70 : decode cX12_make 70 = .ok (.iconst 1, 1) := by decide +kernel
theorem dX12_make_71 : decode cX12_make 71 = .ok (.goto 4, 3) := by decide +kernel
theorem dX12_make_74 : decode cX12_make 74 = .ok (.iconst 0, 1) := by decide +kernel
theorem dX12_make_75 : decode cX12_make 75 = .ok (.istore 6, 2) := by decide +kernel
theorem dX12_make_77 : decode cX12_make 77 = .ok (.iload 5, 2) := by decide +kernel
theorem dX12_make_79 : decode cX12_make 79 = .ok (.iconst 5, 1) := by decide +kernel
theorem dX12_make_80 : decode cX12_make 80 = .ok (.if_icmp .ge 7, 3) := by decide +kernel
theorem dX12_make_83 : decode cX12_make 83 = .ok (.iconst 0, 1) := by decide +kernel
theorem dX12_make_84 : decode cX12_make 84 = .ok (.goto 37, 3) := by decide +kernel
theorem dX12_make_87 : decode cX12_make 87 = .ok (.iload 6, 2) := by decide +kernel
theorem dX12_make_89 : decode cX12_make 89 = .ok (.ifCond .eq 19, 3) := by decide +kernel
theorem dX12_make_92 : decode cX12_make 92 = .ok (.aload_n 0, 1) := by decide +kernel
theorem dX12_make_93 : decode cX12_make 93 = .ok (.getfield 20, 3) := by decide +kernel
theorem dX12_make_96 : decode cX12_make 96 = .ok (.iload_n 2, 1) := by decide +kernel
theorem dX12_make_97 : decode cX12_make 97 = .ok (.iaload, 1) := by decide +kernel
theorem dX12_make_98 : decode cX12_make 98 = .ok (.aload_n 0, 1) := by decide +kernel
theorem dX12_make_99 : decode cX12_make 99 = .ok (.getfield 20, 3) := by decide +kernel
theorem dX12_make_102 : decode cX12_make 102 = .ok (.iload_n 3, 1) := by decide +kernel
theorem dX12_make_103 : decode cX12_make 103 = .ok (.iaload, 1) := by decide +kernel
theorem dX12_make_104 : decode cX12_make 104 = .ok (.iand, 1) := by decide +kernel
theorem dX12_make_105 : decode cX12_make 105 = .ok (.goto 16, 3) := by decide +kernel
theorem dX12_make_108 : decode cX12_make 108 = .ok (.aload_n 0, 1) := by decide +kernel
theorem dX12_make_109 : decode cX12_make 109 = .ok (.getfield 20, 3) := by decide +kernel
theorem dX12_make_112 : decode cX12_make 112 = .ok (.iload_n 2, 1) := by decide +kernel
theorem dX12_make_113 : decode cX12_make 113 = .ok (.iaload, 1) := by decide +kernel
theorem dX12_make_114 : decode cX12_make 114 = .ok (.aload_n 0, 1) := by decide +kernel
theorem dX12_make_115 : decode cX12_make 115 = .ok (.getfield 20, 3) := by decide +kernel
theorem dX12_make_118 : decode cX12_make 118 = .ok (.iload_n 3, 1) := by decide +kernel
theorem dX12_make_119 : decode cX12_make 119 = .ok (.iaload, 1) := by decide +kernel
theorem dX12_make_120 : decode cX12_make 120 = .ok (.ior, 1) := by decide +kernel
theorem dX12_make_121 : decode cX12_make 121 = .ok (.istore 7, 2) := by decide +kernel
theorem dX12_make_123 : decode cX12_make 123 = .ok (.aload_n 0, 1) := by decide +kernel
theorem dX12_make_124 : decode cX12_make 124 = .ok (.iload 5, 2) := by decide +kernel
theorem dX12_make_126 : decode cX12_make 126 = .ok (.iload 7, 2) := by decide +kernel
theorem dX12_make_128 : decode cX12_make 128 = .ok (.invokevirtual 228, 3) := by decide +kernel
theorem dX12_make_131 : decode cX12_make 131 = .ok (.istore 8, 2) := by decide +kernel
theorem dX12_make_133 : decode cX12_make 133 = .ok (.aload_n 0, 1) := by decide +kernel
theorem dX12_make_134 : decode cX12_make 134 = .ok (.getfield 58, 3) := by decide +kernel
theorem dX12_make_137 : decode cX12_make 137 = .ok (.aload_n 0, 1) := by decide +kernel
theorem dX12_make_138 : decode cX12_make 138 = .ok (.getfield 275, 3) := by decide +kernel
theorem dX12_make_141 : decode cX12_make 141 = .ok (.iload_n 1, 1) := by decide +kernel
theorem dX12_make_142 : decode cX12_make 142 = .ok (.iastore, 1) := by decide +kernel
theorem dX12_make_143 : decode cX12_make 143 = .ok (.aload_n 0, 1) := by decide +kernel
theorem dX12_make_144 : decode cX12_make 144 = .ok (.getfield 61, 3) := by decide +kernel
theorem dX12_make_147 : decode cX12_make 147 = .ok (.aload_n 0, 1) := by decide +kernel
theorem dX12_make_148 : decode cX12_make 148 = .ok (.getfield 275, 3) := by decide +kernel
theorem dX12_make_151 : decode cX12_make 151 = .ok (.iload_n 2, 1) := by decide +kernel
theorem dX12_make_152 : decode cX12_make 152 = .ok (.iastore, 1) := by decide +kernel
theorem dX12_make_153 : decode cX12_make 153 = .ok (.aload_n 0, 1) := by decide +kernel
theorem dX12_make_154 : decode cX12_make 154 = .ok (.getfield 64, 3) := by decide +kernel
theorem dX12_make_157 : decode cX12_make 157 = .ok (.aload_n 0, 1) := by decide +kernel
theorem dX12_make_158 : decode cX12_make 158 = .ok (.getfield 275, 3) := by decide +kernel
theorem dX12_make_161 : decode cX12_make 161 = .ok (.iload_n 3, 1) := by decide +kernel
theorem dX12_make_162 : decode cX12_make 162 = .ok (.iastore, 1) := by decide +kernel
theorem dX12_make_163 : decode cX12_make 163 = .ok (.aload_n 0, 1) := by decide +kernel
theorem dX12_make_164 : decode cX12_make 164 = .ok (.getfield 67, 3) := by decide +kernel
theorem dX12_make_167 : decode cX12_make 167 = .ok (.aload_n 0, 1) := by decide +kernel
theorem dX12_make_168 : decode cX12_make 168 = .ok (.getfield 275, 3) := by decide +kernel
theorem dX12_make_171 : decode cX12_make 171 = .ok (.iload 8, 2) := by decide +kernel
theorem dX12_make_173 : decode cX12_make 173 = .ok (.iastore, 1) := by decide +kernel
theorem dX12_make_174 : decode cX12_make 174 = .ok (.aload_n 0, 1) := by decide +kernel
theorem dX12_make_175 : decode cX12_make 175 = .ok (.dup, 1) := by decide +kernel
theorem dX12_make_176 : decode cX12_make 176 = .ok (.getfield 275, 3) := by decide +kernel
theorem dX12_make_179 : decode cX12_make 179 = .ok (.iconst 1, 1) := by decide +kernel
theorem dX12_make_180 : decode cX12_make 180 = .ok (.iadd, 1) := by decide +kernel
theorem dX12_make_181 : decode cX12_make 181 = .ok (.putfield 275, 3) := by decide +kernel
theorem dX12_make_184 : decode cX12_make 184 = .ok (.iload 5, 2) := by decide +kernel
theorem dX12_make_186 : decode cX12_make 186 = .ok (.iconst 4, 1) := by decide +kernel
theorem dX12_make_187 : decode cX12_make 187 = .ok (.if_icmp .ge 7, 3) := by decide +kernel
theorem dX12_make_190 : decode cX12_make 190 = .ok (.iconst 0, 1) := by decide +kernel
theorem dX12_make_191 : decode cX12_make 191 = .ok (.goto 10, 3) := by decide +kernel
theorem dX12_make_194 : decode cX12_make 194 = .ok (.aload_n 0, 1) := by decide +kernel
theorem dX12_make_195 : decode cX12_make 195 = .ok (.getfield 20, 3) := by decide +kernel
theorem dX12_make_198 : decode cX12_make 198 = .ok (.iload 8, 2) := by decide +kernel
theorem dX12_make_200 : decode cX12_make 200 = .ok (.iaload, 1) := by decide +kernel
theorem dX12_make_201 : decode cX12_make 201 = .ok (.istore 9, 2) := by decide +kernel
theorem dX12_make_203 : decode cX12_make 203 = .ok (.bipush 7, 2) := by decide +kernel
theorem dX12_make_205 : decode cX12_make 205 = .ok (.istore 10, 2) := by decide +kernel
theorem dX12_make_207 : decode cX12_make 207 = .ok (.iload 10, 2) := by decide +kernel
theorem dX12_make_209 : decode cX12_make 209 = .ok (.ifCond .lt 174, 3) := by decide +kernel
theorem dX12_make_212 : decode cX12_make 212 = .ok (.iload 9, 2) := by decide +kernel
theorem dX12_make_214 : decode cX12_make 214 = .ok (.iload 10, 2) := by decide +kernel
theorem dX12_make_216 : decode cX12_make 216 = .ok (.ishr, 1) := by decide +kernel
theorem dX12_make_217 : decode cX12_make 217 = .ok (.iconst 1, 1) := by decide +kernel
theorem dX12_make_218 : decode cX12_make 218 = .ok (.iand, 1) := by decide +kernel
theorem dX12_make_219 : decode cX12_make 219 = .ok (.iconst 1, 1) := by decide +kernel
theorem dX12_make_220 : decode cX12_make 220 = .ok (.if_icmp .ne 7, 3) := by decide +kernel
theorem dX12_make_223 : decode cX12_make 223 = .ok (.iconst 1, 1) := by decide +kernel
theorem dX12_make_224 : decode cX12_make 224 = .ok (.goto 4, 3) := by decide +kernel
theorem dX12_make_227 : decode cX12_make 227 = .ok (.iconst 0, 1) := by decide +kernel
theorem dX12_make_228 : decode cX12_make 228 = .ok (.istore 11, 2) := by decide +kernel
theorem dX12_make_230 : decode cX12_make 230 = .ok (.iload 11, 2) := by decide +kernel
theorem dX12_make_232 : decode cX12_make 232 = .ok (.ifCond .eq 22, 3) := by decide +kernel
theorem dX12_make_235 : decode cX12_make 235 = .ok (.aload_n 0, 1) := by decide +kernel
theorem dX12_make_236 : decode cX12_make 236 = .ok (.getfield 20, 3) := by decide +kernel
theorem dX12_make_239 : decode cX12_make 239 = .ok (.iload_n 2, 1) := by decide +kernel
theorem dX12_make_240 : decode cX12_make 240 = .ok (.iaload, 1) := by decide +kernel
theorem dX12_make_241 : decode cX12_make 241 = .ok (.iload 10, 2) := by decide +kernel
theorem dX12_make_243 : decode cX12_make 243 = .ok (.ishr, 1) := by decide +kernel
theorem dX12_make_244 : decode cX12_make 244 = .ok (.iconst 1, 1) := by decide +kernel
theorem dX12_make_245 : decode cX12_make 245 = .ok (.iand, 1) := by decide +kernel
theorem dX12_make_246 : decode cX12_make 246 = .ok (.iconst 1, 1) := by decide +kernel
theorem dX12_make_247 : decode cX12_make 247 = .ok (.if_icmp .ne 7, 3) := by decide +kernel
theorem dX12_make_250 : decode cX12_make 250 = .ok (.iconst 1, 1) := by decide +kernel
theorem dX12_make_251 : decode cX12_make 251 = .ok (.goto 4, 3) := by decide +kernel
theorem dX12_make_254 : decode cX12_make 254 = .ok (.iconst 0, 1) := by decide +kernel
theorem dX12_make_255 : decode cX12_make 255 = .ok (.istore 12, 2) := by decide +kernel
theorem dX12_make_257 : decode cX12_make 257 = .ok (.iload 11, 2) := by decide +kernel
theorem dX12_make_259 : decode cX12_make 259 = .ok (.ifCond .eq 22, 3) := by decide +kernel
theorem dX12_make_262 : decode cX12_make 262 = .ok (.aload_n 0, 1) := by decide +kernel
theorem dX12_make_263 : decode cX12_make 263 = .ok (.getfield 20, 3) := by decide +kernel
theorem dX12_make_266 : decode cX12_make 266 = .ok (.iload_n 3, 1) := by decide +kernel
theorem dX12_make_267 : decode cX12_make 267 = .ok (.iaload, 1) := by decide +kernel
theorem dX12_make_268 : decode cX12_make 268 = .ok (.iload 10, 2) := by decide +kernel
theorem dX12_make_270 : decode cX12_make 270 = .ok (.ishr, 1) := by decide +kernel
theorem dX12_make_271 : decode cX12_make 271 = .ok (.iconst 1, 1) := by decide +kernel
theorem dX12_make_272 : decode cX12_make 272 = .ok (.iand, 1) := by decide +kernel
theorem dX12_make_273 : decode cX12_make 273 = .ok (.iconst 1, 1) := by decide +kernel
theorem dX12_make_274 : decode cX12_make 274 = .ok (.if_icmp .ne 7, 3) := by decide +kernel
theorem dX12_make_277 : decode cX12_make 277 = .ok (.iconst 1, 1) := by decide +kernel
theorem dX12_make_278 : decode cX12_make 278 = .ok (.goto 4, 3) := by decide +kernel
theorem dX12_make_281 : decode cX12_make 281 = .ok (.iconst 0, 1) := by decide +kernel
theorem dX12_make_282 : decode cX12_make 282 = .ok (.istore 13, 2) := by decide +kernel
theorem dX12_make_284 : decode cX12_make 284 = .ok (.iload 12, 2) := by decide +kernel
theorem dX12_make_286 : decode cX12_make 286 = .ok (.ifCond .eq 51, 3) := by decide +kernel
theorem dX12_make_289 : decode cX12_make 289 = .ok (.iload 13, 2) := by decide +kernel
theorem dX12_make_291 : decode cX12_make 291 = .ok (.ifCond .eq 46, 3) := by decide +kernel
theorem dX12_make_294 : decode cX12_make 294 = .ok (.aload_n 0, 1) := by decide +kernel
theorem dX12_make_295 : decode cX12_make 295 = .ok (.iload 5, 2) := by decide +kernel
theorem dX12_make_297 : decode cX12_make 297 = .ok (.iconst 4, 1) := by decide +kernel
theorem dX12_make_298 : decode cX12_make 298 = .ok (.if_icmp .ne 14, 3) := by decide +kernel
theorem dX12_make_301 : decode cX12_make 301 = .ok (.iload 10, 2) := by decide +kernel
theorem dX12_make_303 : decode cX12_make 303 = .ok (.ifCond .ne 9, 3) := by decide +kernel
theorem dX12_make_306 : decode cX12_make 306 = .ok (.iconst 1, 1) := by decide +kernel
theorem dX12_make_307 : decode cX12_make 307 = .ok (.iload_n 1, 1) := by decide +kernel
theorem dX12_make_308 : decode cX12_make 308 = .ok (.isub, 1) := by decide +kernel
theorem dX12_make_309 : decode cX12_make 309 = .ok (.goto 4, 3) := by decide +kernel
theorem dX12_make_312 : decode cX12_make 312 = .ok (.iload_n 1, 1) := by decide +kernel
theorem dX12_make_313 : decode cX12_make 313 = .ok (.aload_n 0, 1) := by decide +kernel
theorem dX12_make_314 : decode cX12_make 314 = .ok (.iload_n 2, 1) := by decide +kernel
theorem dX12_make_315 : decode cX12_make 315 = .ok (.iload 10, 2) := by decide +kernel
theorem dX12_make_317 : decode cX12_make 317 = .ok (.invokevirtual 242, 3) := by decide +kernel
theorem dX12_make_320 : decode cX12_make 320 = .ok (.aload_n 0, 1) := by decide +kernel
theorem dX12_make_321 : decode cX12_make 321 = .ok (.iload_n 3, 1) := by decide +kernel
theorem dX12_make_322 : decode cX12_make 322 = .ok (.iload 10, 2) := by decide +kernel
theorem dX12_make_324 : decode cX12_make 324 = .ok (.invokevirtual 242, 3) := by decide +kernel
theorem dX12_make_327 : decode cX12_make 327 = .ok (.iload 8, 2) := by decide +kernel
theorem dX12_make_329 : decode cX12_make 329 = .ok (.iload 10, 2) := by decide +kernel
theorem dX12_make_331 : decode cX12_make 331 = .ok (.invokevirtual 278, 3) := by decide +kernel
theorem dX12_make_334 : decode cX12_make 334 = .ok (.goto 43, 3) := by decide +kernel
theorem dX12_make_337 : decode cX12_make 337 = .ok (.iload 11, 2) := by decide +kernel
theorem dX12_make_339 : decode cX12_make 339 = .ok (.ifCond .eq 38, 3) := by decide +kernel
theorem dX12_make_342 : decode cX12_make 342 = .ok (.aload_n 0, 1) := by decide +kernel
theorem dX12_make_343 : decode cX12_make 343 = .ok (.getfield 23, 3) := by decide +kernel
theorem dX12_make_346 : decode cX12_make 346 = .ok (.bipush 8, 2) := by decide +kernel
theorem dX12_make_348 : decode cX12_make 348 = .ok (.iload 8, 2) := by decide +kernel
theorem dX12_make_350 : decode cX12_make 350 = .ok (.imul, 1) := by decide +kernel
theorem dX12_make_351 : decode cX12_make 351 = .ok (.iload 10, 2) := by decide +kernel
theorem dX12_make_353 : decode cX12_make 353 = .ok (.iadd, 1) := by decide +kernel
theorem dX12_make_354 : decode cX12_make 354 = .ok (.iload 12, 2) := by decide +kernel
theorem dX12_make_356 : decode cX12_make 356 = .ok (.ifCond .eq 13, 3) := by decide +kernel
theorem dX12_make_359 : decode cX12_make 359 = .ok (.aload_n 0, 1) := by decide +kernel
theorem dX12_make_360 : decode cX12_make 360 = .ok (.iload_n 2, 1) := by decide +kernel
theorem dX12_make_361 : decode cX12_make 361 = .ok (.iload 10, 2) := by decide +kernel
theorem dX12_make_363 : decode cX12_make 363 = .ok (.invokevirtual 242, 3) := by decide +kernel
theorem dX12_make_366 : decode cX12_make 366 = .ok (.goto 10, 3) := by decide +kernel
theorem dX12_make_369 : decode cX12_make 369 = .ok (.aload_n 0, 1) := by decide +kernel
theorem dX12_make_370 : decode cX12_make 370 = .ok (.iload_n 3, 1) := by decide +kernel
theorem dX12_make_371 : decode cX12_make 371 = .ok (.iload 10, 2) := by decide +kernel
theorem dX12_make_373 : decode cX12_make 373 = .ok (.invokevirtual 242, 3) := by decide +kernel
theorem dX12_make_376 : decode cX12_make 376 = .ok (.iastore, 1) := by decide +kernel
theorem dX12_make_377 : decode cX12_make 377 = .ok (.iinc 10 (-1), 3) := by decide +kernel
theorem dX12_make_380 : decode cX12_make 380 = .ok (.goto (-173), 3) := by decide +kernel
theorem dX12_make_383 : decode cX12_make 383 = .ok (.iload 8, 2) := by decide +kernel
theorem dX12_make_385 : decode cX12_make 385 = .ok (.ireturn, 1) := by decide +kernel
theorem dX12_join_0 : decode cX12_join 0 = .ok (.aload_n 0, 1) := by decide +kernel
theorem dX12_join_1 : decode cX12_join 1 = .ok (.getfield 181, 3) := by decide +kernel
theorem dX12_join_4 : decode cX12_join 4 = .ok (.istore 4, 2) := by decide +kernel
theorem dX12_join_6 : decode cX12_join 6 = .ok (.aload_n 0, 1) := by decide +kernel
theorem dX12_join_7 : decode cX12_join 7 = .ok (.iconst 0, 1) := by decide +kernel
theorem dX12_join_8 : decode cX12_join 8 = .ok (.putfield 275, 3) := by decide +kernel
theorem dX12_join_11 : decode cX12_join 11 = .ok (.aload_n 0, 1) := by decide +kernel
theorem dX12_join_12 : decode cX12_join 12 = .ok (.iconst 0, 1) := by decide +kernel
theorem dX12_join_13 : decode cX12_join 13 = .ok (.putfield 272, 3) := by decide +kernel
theorem dX12_join_16 : decode cX12_join 16 = .ok (.aload_n 0, 1) := by decide +kernel
theorem dX12_join_17 : decode cX12_join 17 = .ok (.iload_n 1, 1) := by decide +kernel
theorem dX12_join_18 : decode cX12_join 18 = .ok (.iload_n 2, 1) := by decide +kernel
theorem dX12_join_19 : decode cX12_join 19 = .ok (.iload_n 3, 1) := by decide +kernel
theorem dX12_join_20 : decode cX12_join 20 = .ok (.iconst (-1), 1) := by decide +kernel
theorem dX12_join_21 : decode cX12_join 21 = .ok (.iconst 0, 1) := by decide +kernel
theorem dX12_join_22 : decode cX12_join 22 = .ok (.invokevirtual 278, 3) := by decide +kernel
theorem dX12_join_25 : decode cX12_join 25 = .ok (.iconst (-1), 1) := by decide +kernel
theorem dX12_join_26 : decode cX12_join 26 = .ok (.istore 5, 2) := by decide +kernel
theorem dX12_join_28 : decode cX12_join 28 = .ok (.aload_n 0, 1) := by decide +kernel
theorem dX12_join_29 : decode cX12_join 29 = .ok (.getfield 272, 3) := by decide +kernel
theorem dX12_join_32 : decode cX12_join 32 = .ok (.ifCond .le 168, 3) := by decide +kernel
theorem dX12_join_35 : decode cX12_join 35 = .ok (.aload_n 0, 1) := by decide +kernel
theorem dX12_join_36 : decode cX12_join 36 = .ok (.dup, 1) := by decide +kernel
theorem dX12_join_37 : decode cX12_join 37 = .ok (.getfield 272, 3) := by decide +kernel
theorem dX12_join_40 : decode cX12_join 40 = .ok (.iconst 1, 1) := by decide +kernel
theorem dX12_join_41 : decode cX12_join 41 = .ok (.isub, 1) := by decide +kernel
theorem dX12_join_42 : decode cX12_join 42 = .ok (.putfield 272, 3) := by decide +kernel
theorem dX12_join_45 : decode cX12_join 45 = .ok (.aload_n 0, 1) := by decide +kernel
theorem dX12_join_46 : decode cX12_join 46 = .ok (.getfield 52, 3) := by decide +kernel
theorem dX12_join_49 : decode cX12_join 49 = .ok (.aload_n 0, 1) := by decide +kernel
theorem dX12_join_50 : decode cX12_join 50 = .ok (.getfield 272, 3) := by decide +kernel
theorem dX12_join_53 : decode cX12_join 53 = .ok (.iaload, 1) := by decide +kernel
theorem dX12_join_54 : decode cX12_join 54 = .ok (.istore 6, 2) := by decide +kernel
theorem dX12_join_56 : decode cX12_join 56 = .ok (.aload_n 0, 1) := by decide +kernel
theorem dX12_join_57 : decode cX12_join 57 = .ok (.getfield 55, 3) := by decide +kernel
theorem dX12_join_60 : decode cX12_join 60 = .ok (.aload_n 0, 1) := by decide +kernel
theorem dX12_join_61 : decode cX12_join 61 = .ok (.getfield 272, 3) := by decide +kernel
theorem dX12_join_64 : decode cX12_join 64 = .ok (.iaload, 1) := by decide +kernel
theorem dX12_join_65 : decode cX12_join 65 = .ok (.istore 7, 2) := by decide +kernel
theorem dX12_join_67 : decode cX12_join 67 = .ok (.aload_n 0, 1) := by decide +kernel
theorem dX12_join_68 : decode cX12_join 68 = .ok (.getfield 43, 3) := by decide +kernel
theorem dX12_join_71 : decode cX12_join 71 = .ok (.aload_n 0, 1) := by decide +kernel
theorem dX12_join_72 : decode cX12_join 72 = .ok (.getfield 272, 3) := by decide +kernel
theorem dX12_join_75 : decode cX12_join 75 = .ok (.iaload, 1) := by decide +kernel
theorem dX12_join_76 : decode cX12_join 76 = .ok (.istore 8, 2) := by decide +kernel
theorem dX12_join_78 : decode cX12_join 78 = .ok (.aload_n 0, 1) := by decide +kernel
theorem dX12_join_79 : decode cX12_join 79 = .ok (.getfield 46, 3) := by decide +kernel
theorem dX12_join_82 : decode cX12_join 82 = .ok (.aload_n 0, 1) := by decide +kernel
theorem dX12_join_83 : decode cX12_join 83 = .ok (.getfield 272, 3) := by decide +kernel
theorem dX12_join_86 : decode cX12_join 86 = .ok (.iaload, 1) := by decide +kernel
theorem dX12_join_87 : decode cX12_join 87 = .ok (.istore 9, 2) := by decide +kernel
theorem dX12_join_89 : decode cX12_join 89 = .ok (.aload_n 0, 1) := by decide +kernel
theorem dX12_join_90 : decode cX12_join 90 = .ok (.getfield 49, 3) := by decide +kernel
theorem dX12_join_93 : decode cX12_join 93 = .ok (.aload_n 0, 1) := by decide +kernel
theorem dX12_join_94 : decode cX12_join 94 = .ok (.getfield 272, 3) := by decide +kernel
theorem dX12_join_97 : decode cX12_join 97 = .ok (.iaload, 1) := by decide +kernel
theorem dX12_join_98 : decode cX12_join 98 = .ok (.istore 10, 2) := by decide +kernel
theorem dX12_join_100 : decode cX12_join 100 = .ok (.aload_n 0, 1) := by decide +kernel
theorem dX12_join_101 : decode cX12_join 101 = .ok (.iload 8, 2) := by decide +kernel
theorem dX12_join_103 : decode cX12_join 103 = .ok (.iload 9, 2) := by decide +kernel
theorem dX12_join_105 : decode cX12_join 105 = .ok (.iload 10, 2) := by decide +kernel
theorem dX12_join_107 : decode cX12_join 107 = .ok (.invokevirtual 282, 3) := by decide +kernel
theorem dX12_join_110 : decode cX12_join 110 = .ok (.istore 11, 2) := by decide +kernel
theorem dX12_join_112 : decode cX12_join 112 = .ok (.iload 11, 2) := by decide +kernel
theorem dX12_join_114 : decode cX12_join 114 = .ok (.ifCond .ge 16, 3) := by decide +kernel
theorem dX12_join_117 : decode cX12_join 117 = .ok (.aload_n 0, 1) := by decide +kernel
theorem dX12_join_118 : decode cX12_join 118 = .ok (.iload 8, 2) := by decide +kernel
theorem dX12_join_120 : decode cX12_join 120 = .ok (.iload 9, 2) := by decide +kernel
theorem dX12_join_122 : decode cX12_join 122 = .ok (.iload 10, 2) := by decide +kernel
theorem dX12_join_124 : decode cX12_join 124 = .ok (.invokevirtual 285, 3) := by decide +kernel
theorem dX12_join_127 : decode cX12_join 127 = .ok (.goto 5, 3) := by decide +kernel
theorem dX12_join_130 : decode cX12_join 130 = .ok (.iload 11, 2) := by decide +kernel
theorem dX12_join_132 : decode cX12_join 132 = .ok (.istore 11, 2) := by decide +kernel
theorem dX12_join_134 : decode cX12_join 134 = .ok (.iload 11, 2) := by decide +kernel
theorem dX12_join_136 : decode cX12_join 136 = .ok (.ifCond .ge 34, 3) := by decide +kernel
theorem dX12_join_139 : decode cX12_join 139 = .ok (.aload_n 0, 1) := by decide +kernel
theorem dX12_join_140 : decode cX12_join 140 = .ok (.getfield 181, 3) := by decide +kernel
theorem dX12_join_143 : decode cX12_join 143 = .ok (.sipush 200, 3) := by decide +kernel
theorem dX12_join_146 : decode cX12_join 146 = .ok (.if_icmp .lt 12, 3) := by decide +kernel
theorem dX12_join_149 : decode cX12_join 149 = .ok (.aload_n 0, 1) := by decide +kernel
theorem dX12_join_150 : decode cX12_join 150 = .ok (.iload 4, 2) := by decide +kernel
theorem dX12_join_152 : decode cX12_join 152 = .ok (.putfield 181, 3) := by decide +kernel
theorem dX12_join_155 : decode cX12_join 155 = .ok (.bipush (-3), 2) := by decide +kernel
theorem dX12_join_157 : decode cX12_join 157 = .ok (.ireturn, 1) := by decide +kernel
theorem dX12_join_158 : decode cX12_join 158 = .ok (.aload_n 0, 1) := by decide +kernel
theorem dX12_join_159 : decode cX12_join 159 = .ok (.iload 8, 2) := by decide +kernel
theorem dX12_join_161 : decode cX12_join 161 = .ok (.iload 9, 2) := by decide +kernel
theorem dX12_join_163 : decode cX12_join 163 = .ok (.iload 10, 2) := by decide +kernel
theorem dX12_join_165 : decode cX12_join 165 = .ok (.invokevirtual 288, 3) := by decide +kernel
theorem dX12_join_168 : decode cX12_join 168 = .ok (.istore 11, 2) := by decide +kernel
theorem dX12_join_170 : decode cX12_join 170 = .ok (.iload 6, 2) := by decide +kernel
theorem dX12_join_172 : decode cX12_join 172 = .ok (.ifCond .lt 21, 3) := by decide +kernel
theorem dX12_join_175 : decode cX12_join 175 = .ok (.aload_n 0, 1) := by decide +kernel
theorem dX12_join_176 : decode cX12_join 176 = .ok (.getfield 23, 3) := by decide +kernel
theorem dX12_join_179 : decode cX12_join 179 = .ok (.bipush 8, 2) := by decide +kernel
theorem dX12_join_181 : decode cX12_join 181 = .ok (.iload 6, 2) := by decide +kernel
theorem dX12_join_183 : decode cX12_join 183 = .ok (.imul, 1) := by decide +kernel
theorem dX12_join_184 : decode cX12_join 184 = .ok (.iload 7, 2) := by decide +kernel
theorem dX12_join_186 : decode cX12_join 186 = .ok (.iadd, 1) := by decide +kernel
theorem dX12_join_187 : decode cX12_join 187 = .ok (.iload 11, 2) := by decide +kernel
theorem dX12_join_189 : decode cX12_join 189 = .ok (.iastore, 1) := by decide +kernel
theorem dX12_join_190 : decode cX12_join 190 = .ok (.goto 7, 3) := by decide +kernel
theorem dX12_join_193 : decode cX12_join 193 = .ok (.iload 11, 2) := by decide +kernel
theorem dX12_join_195 : decode cX12_join 195 = .ok (.istore 5, 2) := by decide +kernel
theorem dX12_join_197 : decode cX12_join 197 = .ok (.goto (-169), 3) := by decide +kernel
theorem dX12_join_200 : decode cX12_join 200 = .ok (.iload 5, 2) := by decide +kernel
theorem dX12_join_202 : decode cX12_join 202 = .ok (.ireturn, 1) := by decide +kernel
theorem dX12_unite_0 : decode cX12_unite 0 = .ok (.aload_n 0, 1) := by decide +kernel
theorem dX12_unite_1 : decode cX12_unite 1 = .ok (.iload_n 1, 1) := by decide +kernel
theorem dX12_unite_2 : decode cX12_unite 2 = .ok (.invokevirtual 265, 3) := by decide +kernel
theorem dX12_unite_5 : decode cX12_unite 5 = .ok (.ifCond .eq 11, 3) := by decide +kernel
theorem dX12_unite_8 : decode cX12_unite 8 = .ok (.aload_n 0, 1) := by decide +kernel
theorem dX12_unite_9 : decode cX12_unite 9 = .ok (.iload_n 2, 1) := by decide +kernel
theorem dX12_unite_10 : decode cX12_unite 10 = .ok (.invokevirtual 265, 3) := by decide +kernel
theorem dX12_unite_13 : decode cX12_unite 13 = .ok (.ifCond .ne 8, 3) := by decide +kernel
theorem dX12_unite_16 : decode cX12_unite 16 = .ok (.bipush (-2), 2) := by decide +kernel
theorem dX12_unite_18 : decode cX12_unite 18 = .ok (.goto 10, 3) := by decide +kernel
theorem dX12_unite_21 : decode cX12_unite 21 = .ok (.aload_n 0, 1) := by decide +kernel
theorem dX12_unite_22 : decode cX12_unite 22 = .ok (.iconst 0, 1) := by decide +kernel
theorem dX12_unite_23 : decode cX12_unite 23 = .ok (.iload_n 1, 1) := by decide +kernel
theorem dX12_unite_24 : decode cX12_unite 24 = .ok (.iload_n 2, 1) := by decide +kernel
theorem dX12_unite_25 : decode cX12_unite 25 = .ok (.invokevirtual 291, 3) := by decide +kernel
theorem dX12_unite_28 : decode cX12_unite 28 = .ok (.ireturn, 1) := by decide +kernel
theorem dX12_meet_0 : decode cX12_meet 0 = .ok (.aload_n 0, 1) := by decide +kernel
theorem dX12_meet_1 : decode cX12_meet 1 = .ok (.iload_n 1, 1) := by decide +kernel
theorem dX12_meet_2 : decode cX12_meet 2 = .ok (.invokevirtual 265, 3) := by decide +kernel
theorem dX12_meet_5 : decode cX12_meet 5 = .ok (.ifCond .eq 11, 3) := by decide +kernel
theorem dX12_meet_8 : decode cX12_meet 8 = .ok (.aload_n 0, 1) := by decide +kernel
theorem dX12_meet_9 : decode cX12_meet 9 = .ok (.iload_n 2, 1) := by decide +kernel
theorem dX12_meet_10 : decode cX12_meet 10 = .ok (.invokevirtual 265, 3) := by decide +kernel
theorem dX12_meet_13 : decode cX12_meet 13 = .ok (.ifCond .ne 8, 3) := by decide +kernel
theorem dX12_meet_16 : decode cX12_meet 16 = .ok (.bipush (-2), 2) := by decide +kernel
theorem dX12_meet_18 : decode cX12_meet 18 = .ok (.goto 10, 3) := by decide +kernel
theorem dX12_meet_21 : decode cX12_meet 21 = .ok (.aload_n 0, 1) := by decide +kernel
theorem dX12_meet_22 : decode cX12_meet 22 = .ok (.iconst 1, 1) := by decide +kernel
theorem dX12_meet_23 : decode cX12_meet 23 = .ok (.iload_n 1, 1) := by decide +kernel
theorem dX12_meet_24 : decode cX12_meet 24 = .ok (.iload_n 2, 1) := by decide +kernel
theorem dX12_meet_25 : decode cX12_meet 25 = .ok (.invokevirtual 291, 3) := by decide +kernel
theorem dX12_meet_28 : decode cX12_meet 28 = .ok (.ireturn, 1) := by decide +kernel
theorem dX12_place_0 : decode cX12_place 0 = .ok (.aload_n 0, 1) := by decide +kernel
theorem dX12_place_1 : decode cX12_place 1 = .ok (.getfield 13, 3) := by decide +kernel
theorem dX12_place_4 : decode cX12_place 4 = .ok (.ireturn, 1) := by decide +kernel
theorem dX12_node_0 : decode cX12_node 0 = .ok (.iload_n 2, 1) := by decide +kernel
theorem dX12_node_1 : decode cX12_node 1 = .ok (.ifCond .ge 6, 3) := by decide +kernel
theorem dX12_node_4 : decode cX12_node 4 = .ok (.bipush (-2), 2) := by decide +kernel
theorem dX12_node_6 : decode cX12_node 6 = .ok (.ireturn, 1) := by decide +kernel
theorem dX12_node_7 : decode cX12_node 7 = .ok (.aload_n 0, 1) := by decide +kernel
theorem dX12_node_8 : decode cX12_node 8 = .ok (.iload_n 1, 1) := by decide +kernel
theorem dX12_node_9 : decode cX12_node 9 = .ok (.invokevirtual 265, 3) := by decide +kernel
theorem dX12_node_12 : decode cX12_node 12 = .ok (.ifCond .ne 5, 3) := by decide +kernel
theorem dX12_node_15 : decode cX12_node 15 = .ok (.iconst (-1), 1) := by decide +kernel
theorem dX12_node_16 : decode cX12_node 16 = .ok (.ireturn, 1) := by decide +kernel
theorem dX12_node_17 : decode cX12_node 17 = .ok (.iload_n 2, 1) := by decide +kernel
theorem dX12_node_18 : decode cX12_node 18 = .ok (.ifCond .ne 12, 3) := by decide +kernel
theorem dX12_node_21 : decode cX12_node 21 = .ok (.aload_n 0, 1) := by decide +kernel
theorem dX12_node_22 : decode cX12_node 22 = .ok (.getfield 17, 3) := by decide +kernel
theorem dX12_node_25 : decode cX12_node 25 = .ok (.iload_n 1, 1) := by decide +kernel
theorem dX12_node_26 : decode cX12_node 26 = .ok (.iaload, 1) := by decide +kernel
theorem dX12_node_27 : decode cX12_node 27 = .ok (.goto 53, 3) := by decide +kernel
theorem dX12_node_30 : decode cX12_node 30 = .ok (.iload_n 2, 1) := by decide +kernel
theorem dX12_node_31 : decode cX12_node 31 = .ok (.iconst 1, 1) := by decide +kernel
theorem dX12_node_32 : decode cX12_node 32 = .ok (.if_icmp .ne 12, 3) := by decide +kernel
theorem dX12_node_35 : decode cX12_node 35 = .ok (.aload_n 0, 1) := by decide +kernel
theorem dX12_node_36 : decode cX12_node 36 = .ok (.getfield 20, 3) := by decide +kernel
theorem dX12_node_39 : decode cX12_node 39 = .ok (.iload_n 1, 1) := by decide +kernel
theorem dX12_node_40 : decode cX12_node 40 = .ok (.iaload, 1) := by decide +kernel
theorem dX12_node_41 : decode cX12_node 41 = .ok (.goto 39, 3) := by decide +kernel
theorem dX12_node_44 : decode cX12_node 44 = .ok (.iload_n 2, 1) := by decide +kernel
theorem dX12_node_45 : decode cX12_node 45 = .ok (.iconst 2, 1) := by decide +kernel
theorem dX12_node_46 : decode cX12_node 46 = .ok (.isub, 1) := by decide +kernel
theorem dX12_node_47 : decode cX12_node 47 = .ok (.bipush 8, 2) := by decide +kernel
theorem dX12_node_49 : decode cX12_node 49 = .ok (.if_icmp .ge 30, 3) := by decide +kernel
theorem dX12_node_52 : decode cX12_node 52 = .ok (.aload_n 0, 1) := by decide +kernel
theorem dX12_node_53 : decode cX12_node 53 = .ok (.getfield 20, 3) := by decide +kernel
theorem dX12_node_56 : decode cX12_node 56 = .ok (.iload_n 1, 1) := by decide +kernel
theorem dX12_node_57 : decode cX12_node 57 = .ok (.iaload, 1) := by decide +kernel
theorem dX12_node_58 : decode cX12_node 58 = .ok (.iload_n 2, 1) := by decide +kernel
theorem dX12_node_59 : decode cX12_node 59 = .ok (.iconst 2, 1) := by decide +kernel
theorem dX12_node_60 : decode cX12_node 60 = .ok (.isub, 1) := by decide +kernel
theorem dX12_node_61 : decode cX12_node 61 = .ok (.ishr, 1) := by decide +kernel
theorem dX12_node_62 : decode cX12_node 62 = .ok (.iconst 1, 1) := by decide +kernel
theorem dX12_node_63 : decode cX12_node 63 = .ok (.iand, 1) := by decide +kernel
theorem dX12_node_64 : decode cX12_node 64 = .ok (.iconst 1, 1) := by decide +kernel
theorem dX12_node_65 : decode cX12_node 65 = .ok (.if_icmp .ne 14, 3) := by decide +kernel
theorem dX12_node_68 : decode cX12_node 68 = .ok (.aload_n 0, 1) := by decide +kernel
theorem dX12_node_69 : decode cX12_node 69 = .ok (.iload_n 1, 1) := by decide +kernel
theorem dX12_node_70 : decode cX12_node 70 = .ok (.iload_n 2, 1) := by decide +kernel
theorem dX12_node_71 : decode cX12_node 71 = .ok (.iconst 2, 1) := by decide +kernel
theorem dX12_node_72 : decode cX12_node 72 = .ok (.isub, 1) := by decide +kernel
theorem dX12_node_73 : decode cX12_node 73 = .ok (.invokevirtual 242, 3) := by decide +kernel
theorem dX12_node_76 : decode cX12_node 76 = .ok (.goto 4, 3) := by decide +kernel
theorem dX12_node_79 : decode cX12_node 79 = .ok (.iconst (-1), 1) := by decide +kernel
theorem dX12_node_80 : decode cX12_node 80 = .ok (.ireturn, 1) := by decide +kernel
theorem dX12_wants_0 : decode cX12_wants 0 = .ok (.iload_n 0, 1) := by decide +kernel
theorem dX12_wants_1 : decode cX12_wants 1 = .ok (.tableswitch 73 21 33 #[71, 67, 73, 67, 67, 73, 73, 69, 73, 71, 71, 73, 71], 67) := by decide +kernel
theorem dX12_wants_68 : decode cX12_wants 68 = .ok (.iconst 2, 1) := by decide +kernel
theorem dX12_wants_69 : decode cX12_wants 69 = .ok (.ireturn, 1) := by decide +kernel
theorem dX12_wants_70 : decode cX12_wants 70 = .ok (.iconst 3, 1) := by decide +kernel
theorem dX12_wants_71 : decode cX12_wants 71 = .ok (.ireturn, 1) := by decide +kernel
theorem dX12_wants_72 : decode cX12_wants 72 = .ok (.iconst 1, 1) := by decide +kernel
theorem dX12_wants_73 : decode cX12_wants 73 = .ok (.ireturn, 1) := by decide +kernel
theorem dX12_wants_74 : decode cX12_wants 74 = .ok (.iconst 0, 1) := by decide +kernel
theorem dX12_wants_75 : decode cX12_wants 75 = .ok (.ireturn, 1) := by decide +kernel
theorem dX12_takeNode_0 : decode cX12_takeNode 0 = .ok (.aload_n 0, 1) := by decide +kernel
theorem dX12_takeNode_1 : decode cX12_takeNode 1 = .ok (.getfield 88, 3) := by decide +kernel
theorem dX12_takeNode_4 : decode cX12_takeNode 4 = .ok (.aload_n 0, 1) := by decide +kernel
theorem dX12_takeNode_5 : decode cX12_takeNode 5 = .ok (.getfield 294, 3) := by decide +kernel
theorem dX12_takeNode_8 : decode cX12_takeNode 8 = .ok (.iconst 1, 1) := by decide +kernel
theorem dX12_takeNode_9 : decode cX12_takeNode 9 = .ok (.isub, 1) := by decide +kernel
theorem dX12_takeNode_10 : decode cX12_takeNode 10 = .ok (.aload_n 0, 1) := by decide +kernel
theorem dX12_takeNode_11 : decode cX12_takeNode 11 = .ok (.iconst 0, 1) := by decide +kernel
theorem dX12_takeNode_12 : decode cX12_takeNode 12 = .ok (.aload_n 0, 1) := by decide +kernel
theorem dX12_takeNode_13 : decode cX12_takeNode 13 = .ok (.getfield 181, 3) := by decide +kernel
theorem dX12_takeNode_16 : decode cX12_takeNode 16 = .ok (.iconst 1, 1) := by decide +kernel
theorem dX12_takeNode_17 : decode cX12_takeNode 17 = .ok (.isub, 1) := by decide +kernel
theorem dX12_takeNode_18 : decode cX12_takeNode 18 = .ok (.invokevirtual 214, 3) := by decide +kernel
theorem dX12_takeNode_21 : decode cX12_takeNode 21 = .ok (.iastore, 1) := by decide +kernel
theorem dX12_takeNode_22 : decode cX12_takeNode 22 = .ok (.return_, 1) := by decide +kernel
theorem dX12_readTermWord_0 : decode cX12_readTermWord 0 = .ok (.aload_n 0, 1) := by decide +kernel
theorem dX12_readTermWord_1 : decode cX12_readTermWord 1 = .ok (.getfield 204, 3) := by decide +kernel
theorem dX12_readTermWord_4 : decode cX12_readTermWord 4 = .ok (.istore_n 3, 1) := by decide +kernel
theorem dX12_readTermWord_5 : decode cX12_readTermWord 5 = .ok (.aload_n 0, 1) := by decide +kernel
theorem dX12_readTermWord_6 : decode cX12_readTermWord 6 = .ok (.iload_n 2, 1) := by decide +kernel
theorem dX12_readTermWord_7 : decode cX12_readTermWord 7 = .ok (.ifCond .eq 8, 3) := by decide +kernel
theorem dX12_readTermWord_10 : decode cX12_readTermWord 10 = .ok (.bipush 21, 2) := by decide +kernel
theorem dX12_readTermWord_12 : decode cX12_readTermWord 12 = .ok (.goto 5, 3) := by decide +kernel
theorem dX12_readTermWord_15 : decode cX12_readTermWord 15 = .ok (.bipush 20, 2) := by decide +kernel
theorem dX12_readTermWord_17 : decode cX12_readTermWord 17 = .ok (.iload_n 2, 1) := by decide +kernel
theorem dX12_readTermWord_18 : decode cX12_readTermWord 18 = .ok (.ifCond .eq 8, 3) := by decide +kernel
theorem dX12_readTermWord_21 : decode cX12_readTermWord 21 = .ok (.bipush 21, 2) := by decide +kernel
theorem dX12_readTermWord_23 : decode cX12_readTermWord 23 = .ok (.goto 5, 3) := by decide +kernel
theorem dX12_readTermWord_26 : decode cX12_readTermWord 26 = .ok (.bipush 33, 2) := by decide +kernel
theorem dX12_readTermWord_28 : decode cX12_readTermWord 28 = .ok (.invokevirtual 214, 3) := by decide +kernel
theorem dX12_readTermWord_31 : decode cX12_readTermWord 31 = .ok (.istore 4, 2) := by decide +kernel
theorem dX12_readTermWord_33 : decode cX12_readTermWord 33 = .ok (.aload_n 0, 1) := by decide +kernel
theorem dX12_readTermWord_34 : decode cX12_readTermWord 34 = .ok (.getfield 201, 3) := by decide +kernel
theorem dX12_readTermWord_37 : decode cX12_readTermWord 37 = .ok (.ifCond .eq 5, 3) := by decide +kernel
theorem dX12_readTermWord_40 : decode cX12_readTermWord 40 = .ok (.iconst 0, 1) := by decide +kernel
theorem dX12_readTermWord_41 : decode cX12_readTermWord 41 = .ok (.ireturn, 1) := by decide +kernel
theorem dX12_readTermWord_42 : decode cX12_readTermWord 42 = .ok (.aload_n 0, 1) := by decide +kernel
theorem dX12_readTermWord_43 : decode cX12_readTermWord 43 = .ok (.getfield 294, 3) := by decide +kernel
theorem dX12_readTermWord_46 : decode cX12_readTermWord 46 = .ok (.istore 5, 2) := by decide +kernel
theorem dX12_readTermWord_48 : decode cX12_readTermWord 48 = .ok (.aload_n 0, 1) := by decide +kernel
theorem dX12_readTermWord_49 : decode cX12_readTermWord 49 = .ok (.dup, 1) := by decide +kernel
theorem dX12_readTermWord_50 : decode cX12_readTermWord 50 = .ok (.getfield 294, 3) := by decide +kernel
theorem dX12_readTermWord_53 : decode cX12_readTermWord 53 = .ok (.iconst 1, 1) := by decide +kernel
theorem dX12_readTermWord_54 : decode cX12_readTermWord 54 = .ok (.iadd, 1) := by decide +kernel
theorem dX12_readTermWord_55 : decode cX12_readTermWord 55 = .ok (.putfield 294, 3) := by decide +kernel
theorem dX12_readTermWord_58 : decode cX12_readTermWord 58 = .ok (.aload_n 0, 1) := by decide +kernel
theorem dX12_readTermWord_59 : decode cX12_readTermWord 59 = .ok (.getfield 82, 3) := by decide +kernel
theorem dX12_readTermWord_62 : decode cX12_readTermWord 62 = .ok (.iload 5, 2) := by decide +kernel
theorem dX12_readTermWord_64 : decode cX12_readTermWord 64 = .ok (.iload 4, 2) := by decide +kernel
theorem dX12_readTermWord_66 : decode cX12_readTermWord 66 = .ok (.iastore, 1) := by decide +kernel
theorem dX12_readTermWord_67 : decode cX12_readTermWord 67 = .ok (.aload_n 0, 1) := by decide +kernel
theorem dX12_readTermWord_68 : decode cX12_readTermWord 68 = .ok (.getfield 85, 3) := by decide +kernel
theorem dX12_readTermWord_71 : decode cX12_readTermWord 71 = .ok (.iload 5, 2) := by decide +kernel
theorem dX12_readTermWord_73 : decode cX12_readTermWord 73 = .ok (.iload_n 3, 1) := by decide +kernel
theorem dX12_readTermWord_74 : decode cX12_readTermWord 74 = .ok (.iastore, 1) := by decide +kernel
theorem dX12_readTermWord_75 : decode cX12_readTermWord 75 = .ok (.aload_n 0, 1) := by decide +kernel
theorem dX12_readTermWord_76 : decode cX12_readTermWord 76 = .ok (.getfield 88, 3) := by decide +kernel
theorem dX12_readTermWord_79 : decode cX12_readTermWord 79 = .ok (.iload 5, 2) := by decide +kernel
theorem dX12_readTermWord_81 : decode cX12_readTermWord 81 = .ok (.iconst 0, 1) := by decide +kernel
theorem dX12_readTermWord_82 : decode cX12_readTermWord 82 = .ok (.iastore, 1) := by decide +kernel
theorem dX12_readTermWord_83 : decode cX12_readTermWord 83 = .ok (.aload_n 0, 1) := by decide +kernel
theorem dX12_readTermWord_84 : decode cX12_readTermWord 84 = .ok (.getfield 91, 3) := by decide +kernel
theorem dX12_readTermWord_87 : decode cX12_readTermWord 87 = .ok (.iload 5, 2) := by decide +kernel
theorem dX12_readTermWord_89 : decode cX12_readTermWord 89 = .ok (.iconst 0, 1) := by decide +kernel
theorem dX12_readTermWord_90 : decode cX12_readTermWord 90 = .ok (.iastore, 1) := by decide +kernel
theorem dX12_readTermWord_91 : decode cX12_readTermWord 91 = .ok (.aload_n 0, 1) := by decide +kernel
theorem dX12_readTermWord_92 : decode cX12_readTermWord 92 = .ok (.getfield 100, 3) := by decide +kernel
theorem dX12_readTermWord_95 : decode cX12_readTermWord 95 = .ok (.iload 5, 2) := by decide +kernel
theorem dX12_readTermWord_97 : decode cX12_readTermWord 97 = .ok (.iconst 0, 1) := by decide +kernel
theorem dX12_readTermWord_98 : decode cX12_readTermWord 98 = .ok (.iastore, 1) := by decide +kernel
theorem dX12_readTermWord_99 : decode cX12_readTermWord 99 = .ok (.iload 4, 2) := by decide +kernel
theorem dX12_readTermWord_101 : decode cX12_readTermWord 101 = .ok (.invokestatic 297, 3) := by decide +kernel
theorem dX12_readTermWord_104 : decode cX12_readTermWord 104 = .ok (.istore 6, 2) := by decide +kernel
theorem dX12_readTermWord_106 : decode cX12_readTermWord 106 = .ok (.iload 4, 2) := by decide +kernel
theorem dX12_readTermWord_108 : decode cX12_readTermWord 108 = .ok (.tableswitch 182 20 33 #[72, 90, 182, 97, 182, 182, 182, 182, 182, 117, 156, 173, 117, 90], 72) := by decide +kernel
theorem dX12_readTermWord_180 : decode cX12_readTermWord 180 = .ok (.aload_n 0, 1) := by decide +kernel
theorem dX12_readTermWord_181 : decode cX12_readTermWord 181 = .ok (.getfield 88, 3) := by decide +kernel
theorem dX12_readTermWord_184 : decode cX12_readTermWord 184 = .ok (.iload 5, 2) := by decide +kernel
theorem dX12_readTermWord_186 : decode cX12_readTermWord 186 = .ok (.aload_n 0, 1) := by decide +kernel
theorem dX12_readTermWord_187 : decode cX12_readTermWord 187 = .ok (.iconst 0, 1) := by decide +kernel
theorem dX12_readTermWord_188 : decode cX12_readTermWord 188 = .ok (.iload_n 1, 1) := by decide +kernel
theorem dX12_readTermWord_189 : decode cX12_readTermWord 189 = .ok (.iconst 1, 1) := by decide +kernel
theorem dX12_readTermWord_190 : decode cX12_readTermWord 190 = .ok (.isub, 1) := by decide +kernel
theorem dX12_readTermWord_191 : decode cX12_readTermWord 191 = .ok (.invokevirtual 214, 3) := by decide +kernel
theorem dX12_readTermWord_194 : decode cX12_readTermWord 194 = .ok (.iastore, 1) := by decide +kernel
theorem dX12_readTermWord_195 : decode cX12_readTermWord 195 = .ok (.goto 95, 3) := by decide +kernel
theorem dX12_readTermWord_198 : decode cX12_readTermWord 198 = .ok (.aload_n 0, 1) := by decide +kernel
theorem dX12_readTermWord_199 : decode cX12_readTermWord 199 = .ok (.invokevirtual 300, 3) := by decide +kernel
theorem dX12_readTermWord_202 : decode cX12_readTermWord 202 = .ok (.goto 88, 3) := by decide +kernel
theorem dX12_readTermWord_205 : decode cX12_readTermWord 205 = .ok (.aload_n 0, 1) := by decide +kernel
theorem dX12_readTermWord_206 : decode cX12_readTermWord 206 = .ok (.getfield 88, 3) := by decide +kernel
theorem dX12_readTermWord_209 : decode cX12_readTermWord 209 = .ok (.iload 5, 2) := by decide +kernel
theorem dX12_readTermWord_211 : decode cX12_readTermWord 211 = .ok (.aload_n 0, 1) := by decide +kernel
theorem dX12_readTermWord_212 : decode cX12_readTermWord 212 = .ok (.ldc_w 303, 3) := by decide +kernel
theorem dX12_readTermWord_215 : decode cX12_readTermWord 215 = .ok (.ldc_w 304, 3) := by decide +kernel
theorem dX12_readTermWord_218 : decode cX12_readTermWord 218 = .ok (.invokevirtual 214, 3) := by decide +kernel
theorem dX12_readTermWord_221 : decode cX12_readTermWord 221 = .ok (.iastore, 1) := by decide +kernel
theorem dX12_readTermWord_222 : decode cX12_readTermWord 222 = .ok (.goto 68, 3) := by decide +kernel
theorem dX12_readTermWord_225 : decode cX12_readTermWord 225 = .ok (.aload_n 0, 1) := by decide +kernel
theorem dX12_readTermWord_226 : decode cX12_readTermWord 226 = .ok (.iconst 0, 1) := by decide +kernel
theorem dX12_readTermWord_227 : decode cX12_readTermWord 227 = .ok (.bipush 8, 2) := by decide +kernel
theorem dX12_readTermWord_229 : decode cX12_readTermWord 229 = .ok (.invokevirtual 214, 3) := by decide +kernel
theorem dX12_readTermWord_232 : decode cX12_readTermWord 232 = .ok (.istore 6, 2) := by decide +kernel
theorem dX12_readTermWord_234 : decode cX12_readTermWord 234 = .ok (.aload_n 0, 1) := by decide +kernel
theorem dX12_readTermWord_235 : decode cX12_readTermWord 235 = .ok (.getfield 88, 3) := by decide +kernel
theorem dX12_readTermWord_238 : decode cX12_readTermWord 238 = .ok (.iload 5, 2) := by decide +kernel
theorem dX12_readTermWord_240 : decode cX12_readTermWord 240 = .ok (.iload 6, 2) := by decide +kernel
theorem dX12_readTermWord_242 : decode cX12_readTermWord 242 = .ok (.iastore, 1) := by decide +kernel
theorem dX12_readTermWord_243 : decode cX12_readTermWord 243 = .ok (.iload 4, 2) := by decide +kernel
theorem dX12_readTermWord_245 : decode cX12_readTermWord 245 = .ok (.bipush 32, 2) := by decide +kernel
theorem dX12_readTermWord_247 : decode cX12_readTermWord 247 = .ok (.if_icmp .ne 10, 3) := by decide +kernel
theorem dX12_readTermWord_250 : decode cX12_readTermWord 250 = .ok (.iload 6, 2) := by decide +kernel
theorem dX12_readTermWord_252 : decode cX12_readTermWord 252 = .ok (.iconst 1, 1) := by decide +kernel
theorem dX12_readTermWord_253 : decode cX12_readTermWord 253 = .ok (.iadd, 1) := by decide +kernel
theorem dX12_readTermWord_254 : decode cX12_readTermWord 254 = .ok (.goto 5, 3) := by decide +kernel
theorem dX12_readTermWord_257 : decode cX12_readTermWord 257 = .ok (.iload 6, 2) := by decide +kernel
theorem dX12_readTermWord_259 : decode cX12_readTermWord 259 = .ok (.istore 6, 2) := by decide +kernel
theorem dX12_readTermWord_261 : decode cX12_readTermWord 261 = .ok (.goto 29, 3) := by decide +kernel
theorem dX12_readTermWord_264 : decode cX12_readTermWord 264 = .ok (.aload_n 0, 1) := by decide +kernel
theorem dX12_readTermWord_265 : decode cX12_readTermWord 265 = .ok (.getfield 91, 3) := by decide +kernel
theorem dX12_readTermWord_268 : decode cX12_readTermWord 268 = .ok (.iload 5, 2) := by decide +kernel
theorem dX12_readTermWord_270 : decode cX12_readTermWord 270 = .ok (.aload_n 0, 1) := by decide +kernel
theorem dX12_readTermWord_271 : decode cX12_readTermWord 271 = .ok (.iconst 0, 1) := by decide +kernel
theorem dX12_readTermWord_272 : decode cX12_readTermWord 272 = .ok (.bipush 7, 2) := by decide +kernel
theorem dX12_readTermWord_274 : decode cX12_readTermWord 274 = .ok (.invokevirtual 214, 3) := by decide +kernel
theorem dX12_readTermWord_277 : decode cX12_readTermWord 277 = .ok (.iastore, 1) := by decide +kernel
theorem dX12_readTermWord_278 : decode cX12_readTermWord 278 = .ok (.goto 12, 3) := by decide +kernel
theorem dX12_readTermWord_281 : decode cX12_readTermWord 281 = .ok (.aload_n 0, 1) := by decide +kernel
theorem dX12_readTermWord_282 : decode cX12_readTermWord 282 = .ok (.iload 5, 2) := by decide +kernel
theorem dX12_readTermWord_284 : decode cX12_readTermWord 284 = .ok (.invokevirtual 305, 3) := by decide +kernel
theorem dX12_readTermWord_287 : decode cX12_readTermWord 287 = .ok (.goto 3, 3) := by decide +kernel
theorem dX12_readTermWord_290 : decode cX12_readTermWord 290 = .ok (.aload_n 0, 1) := by decide +kernel
theorem dX12_readTermWord_291 : decode cX12_readTermWord 291 = .ok (.getfield 201, 3) := by decide +kernel
theorem dX12_readTermWord_294 : decode cX12_readTermWord 294 = .ok (.ifCond .eq 7, 3) := by decide +kernel
theorem dX12_readTermWord_297 : decode cX12_readTermWord 297 = .ok (.iconst 0, 1) := by decide +kernel
theorem dX12_readTermWord_298 : decode cX12_readTermWord 298 = .ok (.goto 5, 3) := by decide +kernel
theorem dX12_readTermWord_301 : decode cX12_readTermWord 301 = .ok (.iload 6, 2) := by decide +kernel
theorem dX12_readTermWord_303 : decode cX12_readTermWord 303 = .ok (.ireturn, 1) := by decide +kernel
theorem dX12_readChoice_0 : decode cX12_readChoice 0 = .ok (.aload_n 0, 1) := by decide +kernel
theorem dX12_readChoice_1 : decode cX12_readChoice 1 = .ok (.invokevirtual 300, 3) := by decide +kernel
theorem dX12_readChoice_4 : decode cX12_readChoice 4 = .ok (.aload_n 0, 1) := by decide +kernel
theorem dX12_readChoice_5 : decode cX12_readChoice 5 = .ok (.getfield 201, 3) := by decide +kernel
theorem dX12_readChoice_8 : decode cX12_readChoice 8 = .ok (.ifCond .eq 4, 3) := by decide +kernel
theorem dX12_readChoice_11 : decode cX12_readChoice 11 = .ok (.return_, 1) := by decide +kernel
theorem dX12_readChoice_12 : decode cX12_readChoice 12 = .ok (.aload_n 0, 1) := by decide +kernel
theorem dX12_readChoice_13 : decode cX12_readChoice 13 = .ok (.getfield 17, 3) := by decide +kernel
theorem dX12_readChoice_16 : decode cX12_readChoice 16 = .ok (.aload_n 0, 1) := by decide +kernel
theorem dX12_readChoice_17 : decode cX12_readChoice 17 = .ok (.getfield 88, 3) := by decide +kernel
theorem dX12_readChoice_20 : decode cX12_readChoice 20 = .ok (.iload_n 1, 1) := by decide +kernel
theorem dX12_readChoice_21 : decode cX12_readChoice 21 = .ok (.iaload, 1) := by decide +kernel
theorem dX12_readChoice_22 : decode cX12_readChoice 22 = .ok (.iaload, 1) := by decide +kernel
theorem dX12_readChoice_23 : decode cX12_readChoice 23 = .ok (.bipush 6, 2) := by decide +kernel
theorem dX12_readChoice_25 : decode cX12_readChoice 25 = .ok (.if_icmp .eq 22, 3) := by decide +kernel
theorem dX12_readChoice_28 : decode cX12_readChoice 28 = .ok (.aload_n 0, 1) := by decide +kernel
theorem dX12_readChoice_29 : decode cX12_readChoice 29 = .ok (.bipush (-11), 2) := by decide +kernel
theorem dX12_readChoice_31 : decode cX12_readChoice 31 = .ok (.aload_n 0, 1) := by decide +kernel
theorem dX12_readChoice_32 : decode cX12_readChoice 32 = .ok (.getfield 204, 3) := by decide +kernel
theorem dX12_readChoice_35 : decode cX12_readChoice 35 = .ok (.iconst 1, 1) := by decide +kernel
theorem dX12_readChoice_36 : decode cX12_readChoice 36 = .ok (.isub, 1) := by decide +kernel
theorem dX12_readChoice_37 : decode cX12_readChoice 37 = .ok (.invokevirtual 207, 3) := by decide +kernel
theorem dX12_readChoice_40 : decode cX12_readChoice 40 = .ok (.istore_n 2, 1) := by decide +kernel
theorem dX12_readChoice_41 : decode cX12_readChoice 41 = .ok (.aload_n 0, 1) := by decide +kernel
theorem dX12_readChoice_42 : decode cX12_readChoice 42 = .ok (.iload_n 2, 1) := by decide +kernel
theorem dX12_readChoice_43 : decode cX12_readChoice 43 = .ok (.putfield 201, 3) := by decide +kernel
theorem dX12_readChoice_46 : decode cX12_readChoice 46 = .ok (.return_, 1) := by decide +kernel
theorem dX12_readChoice_47 : decode cX12_readChoice 47 = .ok (.aload_n 0, 1) := by decide +kernel
theorem dX12_readChoice_48 : decode cX12_readChoice 48 = .ok (.getfield 91, 3) := by decide +kernel
theorem dX12_readChoice_51 : decode cX12_readChoice 51 = .ok (.iload_n 1, 1) := by decide +kernel
theorem dX12_readChoice_52 : decode cX12_readChoice 52 = .ok (.aload_n 0, 1) := by decide +kernel
theorem dX12_readChoice_53 : decode cX12_readChoice 53 = .ok (.iconst 0, 1) := by decide +kernel
theorem dX12_readChoice_54 : decode cX12_readChoice 54 = .ok (.bipush 7, 2) := by decide +kernel
theorem dX12_readChoice_56 : decode cX12_readChoice 56 = .ok (.invokevirtual 214, 3) := by decide +kernel
theorem dX12_readChoice_59 : decode cX12_readChoice 59 = .ok (.iastore, 1) := by decide +kernel
theorem dX12_readChoice_60 : decode cX12_readChoice 60 = .ok (.aload_n 0, 1) := by decide +kernel
theorem dX12_readChoice_61 : decode cX12_readChoice 61 = .ok (.getfield 201, 3) := by decide +kernel
theorem dX12_readChoice_64 : decode cX12_readChoice 64 = .ok (.ifCond .ne 44, 3) := by decide +kernel
theorem dX12_readChoice_67 : decode cX12_readChoice 67 = .ok (.aload_n 0, 1) := by decide +kernel
theorem dX12_readChoice_68 : decode cX12_readChoice 68 = .ok (.getfield 20, 3) := by decide +kernel
theorem dX12_readChoice_71 : decode cX12_readChoice 71 = .ok (.aload_n 0, 1) := by decide +kernel
theorem dX12_readChoice_72 : decode cX12_readChoice 72 = .ok (.getfield 88, 3) := by decide +kernel
theorem dX12_readChoice_75 : decode cX12_readChoice 75 = .ok (.iload_n 1, 1) := by decide +kernel
theorem dX12_readChoice_76 : decode cX12_readChoice 76 = .ok (.iaload, 1) := by decide +kernel
theorem dX12_readChoice_77 : decode cX12_readChoice 77 = .ok (.iaload, 1) := by decide +kernel
theorem dX12_readChoice_78 : decode cX12_readChoice 78 = .ok (.aload_n 0, 1) := by decide +kernel
theorem dX12_readChoice_79 : decode cX12_readChoice 79 = .ok (.getfield 91, 3) := by decide +kernel
theorem dX12_readChoice_82 : decode cX12_readChoice 82 = .ok (.iload_n 1, 1) := by decide +kernel
theorem dX12_readChoice_83 : decode cX12_readChoice 83 = .ok (.iaload, 1) := by decide +kernel
theorem dX12_readChoice_84 : decode cX12_readChoice 84 = .ok (.ishr, 1) := by decide +kernel
theorem dX12_readChoice_85 : decode cX12_readChoice 85 = .ok (.iconst 1, 1) := by decide +kernel
theorem dX12_readChoice_86 : decode cX12_readChoice 86 = .ok (.iand, 1) := by decide +kernel
theorem dX12_readChoice_87 : decode cX12_readChoice 87 = .ok (.ifCond .ne 21, 3) := by decide +kernel
theorem dX12_readChoice_90 : decode cX12_readChoice 90 = .ok (.aload_n 0, 1) := by decide +kernel
theorem dX12_readChoice_91 : decode cX12_readChoice 91 = .ok (.bipush (-11), 2) := by decide +kernel
theorem dX12_readChoice_93 : decode cX12_readChoice 93 = .ok (.aload_n 0, 1) := by decide +kernel
theorem dX12_readChoice_94 : decode cX12_readChoice 94 = .ok (.getfield 204, 3) := by decide +kernel
theorem dX12_readChoice_97 : decode cX12_readChoice 97 = .ok (.iconst 1, 1) := by decide +kernel
theorem dX12_readChoice_98 : decode cX12_readChoice 98 = .ok (.isub, 1) := by decide +kernel
theorem dX12_readChoice_99 : decode cX12_readChoice 99 = .ok (.invokevirtual 207, 3) := by decide +kernel
theorem dX12_readChoice_102 : decode cX12_readChoice 102 = .ok (.istore_n 2, 1) := by decide +kernel
theorem dX12_readChoice_103 : decode cX12_readChoice 103 = .ok (.aload_n 0, 1) := by decide +kernel
theorem dX12_readChoice_104 : decode cX12_readChoice 104 = .ok (.iload_n 2, 1) := by decide +kernel
theorem dX12_readChoice_105 : decode cX12_readChoice 105 = .ok (.putfield 201, 3) := by decide +kernel
theorem dX12_readChoice_108 : decode cX12_readChoice 108 = .ok (.return_, 1) := by decide +kernel
theorem dX12_isLabelled_0 : decode cX12_isLabelled 0 = .ok (.aload_n 0, 1) := by decide +kernel
theorem dX12_isLabelled_1 : decode cX12_isLabelled 1 = .ok (.getfield 82, 3) := by decide +kernel
theorem dX12_isLabelled_4 : decode cX12_isLabelled 4 = .ok (.iload_n 1, 1) := by decide +kernel
theorem dX12_isLabelled_5 : decode cX12_isLabelled 5 = .ok (.iaload, 1) := by decide +kernel
theorem dX12_isLabelled_6 : decode cX12_isLabelled 6 = .ok (.bipush 29, 2) := by decide +kernel
theorem dX12_isLabelled_8 : decode cX12_isLabelled 8 = .ok (.if_icmp .eq 29, 3) := by decide +kernel
theorem dX12_isLabelled_11 : decode cX12_isLabelled 11 = .ok (.aload_n 0, 1) := by decide +kernel
theorem dX12_isLabelled_12 : decode cX12_isLabelled 12 = .ok (.getfield 82, 3) := by decide +kernel
theorem dX12_isLabelled_15 : decode cX12_isLabelled 15 = .ok (.iload_n 1, 1) := by decide +kernel
theorem dX12_isLabelled_16 : decode cX12_isLabelled 16 = .ok (.iaload, 1) := by decide +kernel
theorem dX12_isLabelled_17 : decode cX12_isLabelled 17 = .ok (.bipush 32, 2) := by decide +kernel
theorem dX12_isLabelled_19 : decode cX12_isLabelled 19 = .ok (.if_icmp .ne 22, 3) := by decide +kernel
theorem dX12_isLabelled_22 : decode cX12_isLabelled 22 = .ok (.aload_n 0, 1) := by decide +kernel
theorem dX12_isLabelled_23 : decode cX12_isLabelled 23 = .ok (.getfield 100, 3) := by decide +kernel
theorem dX12_isLabelled_26 : decode cX12_isLabelled 26 = .ok (.iload_n 1, 1) := by decide +kernel
theorem dX12_isLabelled_27 : decode cX12_isLabelled 27 = .ok (.iaload, 1) := by decide +kernel
theorem dX12_isLabelled_28 : decode cX12_isLabelled 28 = .ok (.aload_n 0, 1) := by decide +kernel
theorem dX12_isLabelled_29 : decode cX12_isLabelled 29 = .ok (.getfield 88, 3) := by decide +kernel
theorem dX12_isLabelled_32 : decode cX12_isLabelled 32 = .ok (.iload_n 1, 1) := by decide +kernel
theorem dX12_isLabelled_33 : decode cX12_isLabelled 33 = .ok (.iaload, 1) := by decide +kernel
theorem dX12_isLabelled_34 : decode cX12_isLabelled 34 = .ok (.if_icmp .ge 7, 3) := by decide +kernel
theorem dX12_isLabelled_37 : decode cX12_isLabelled 37 = .ok (.iconst 1, 1) := by decide +kernel
theorem dX12_isLabelled_38 : decode cX12_isLabelled 38 = .ok (.goto 4, 3) := by decide +kernel
theorem dX12_isLabelled_41 : decode cX12_isLabelled 41 = .ok (.iconst 0, 1) := by decide +kernel
theorem dX12_isLabelled_42 : decode cX12_isLabelled 42 = .ok (.ireturn, 1) := by decide +kernel
theorem dX12_readTerms_0 : decode cX12_readTerms 0 = .ok (.aload_n 0, 1) := by decide +kernel
theorem dX12_readTerms_1 : decode cX12_readTerms 1 = .ok (.iconst 0, 1) := by decide +kernel
theorem dX12_readTerms_2 : decode cX12_readTerms 2 = .ok (.putfield 294, 3) := by decide +kernel
theorem dX12_readTerms_5 : decode cX12_readTerms 5 = .ok (.aload_n 0, 1) := by decide +kernel
theorem dX12_readTerms_6 : decode cX12_readTerms 6 = .ok (.iconst 0, 1) := by decide +kernel
theorem dX12_readTerms_7 : decode cX12_readTerms 7 = .ok (.putfield 308, 3) := by decide +kernel
theorem dX12_readTerms_10 : decode cX12_readTerms 10 = .ok (.iconst 0, 1) := by decide +kernel
theorem dX12_readTerms_11 : decode cX12_readTerms 11 = .ok (.istore_n 1, 1) := by decide +kernel
theorem dX12_readTerms_12 : decode cX12_readTerms 12 = .ok (.iconst 0, 1) := by decide +kernel
theorem dX12_readTerms_13 : decode cX12_readTerms 13 = .ok (.istore_n 2, 1) := by decide +kernel
theorem dX12_readTerms_14 : decode cX12_readTerms 14 = .ok (.iconst 1, 1) := by decide +kernel
theorem dX12_readTerms_15 : decode cX12_readTerms 15 = .ok (.istore_n 3, 1) := by decide +kernel
theorem dX12_readTerms_16 : decode cX12_readTerms 16 = .ok (.iload_n 3, 1) := by decide +kernel
theorem dX12_readTerms_17 : decode cX12_readTerms 17 = .ok (.ifCond .eq 330, 3) := by decide +kernel
theorem dX12_readTerms_20 : decode cX12_readTerms 20 = .ok (.aload_n 0, 1) := by decide +kernel
theorem dX12_readTerms_21 : decode cX12_readTerms 21 = .ok (.getfield 201, 3) := by decide +kernel
theorem dX12_readTerms_24 : decode cX12_readTerms 24 = .ok (.ifCond .ne 323, 3) := by decide +kernel
theorem dX12_readTerms_27 : decode cX12_readTerms 27 = .ok (.aload_n 0, 1) := by decide +kernel
theorem dX12_readTerms_28 : decode cX12_readTerms 28 = .ok (.getfield 294, 3) := by decide +kernel
theorem dX12_readTerms_31 : decode cX12_readTerms 31 = .ok (.istore 4, 2) := by decide +kernel
theorem dX12_readTerms_33 : decode cX12_readTerms 33 = .ok (.aload_n 0, 1) := by decide +kernel
theorem dX12_readTerms_34 : decode cX12_readTerms 34 = .ok (.iload_n 1, 1) := by decide +kernel
theorem dX12_readTerms_35 : decode cX12_readTerms 35 = .ok (.iload_n 2, 1) := by decide +kernel
theorem dX12_readTerms_36 : decode cX12_readTerms 36 = .ok (.invokevirtual 311, 3) := by decide +kernel
theorem dX12_readTerms_39 : decode cX12_readTerms 39 = .ok (.istore 5, 2) := by decide +kernel
theorem dX12_readTerms_41 : decode cX12_readTerms 41 = .ok (.aload_n 0, 1) := by decide +kernel
theorem dX12_readTerms_42 : decode cX12_readTerms 42 = .ok (.getfield 201, 3) := by decide +kernel
theorem dX12_readTerms_45 : decode cX12_readTerms 45 = .ok (.ifCond .ne 146, 3) := by decide +kernel
theorem dX12_readTerms_48 : decode cX12_readTerms 48 = .ok (.aload_n 0, 1) := by decide +kernel
theorem dX12_readTerms_49 : decode cX12_readTerms 49 = .ok (.getfield 308, 3) := by decide +kernel
theorem dX12_readTerms_52 : decode cX12_readTerms 52 = .ok (.ifCond .le 47, 3) := by decide +kernel
theorem dX12_readTerms_55 : decode cX12_readTerms 55 = .ok (.aload_n 0, 1) := by decide +kernel
theorem dX12_readTerms_56 : decode cX12_readTerms 56 = .ok (.getfield 121, 3) := by decide +kernel
theorem dX12_readTerms_59 : decode cX12_readTerms 59 = .ok (.aload_n 0, 1) := by decide +kernel
theorem dX12_readTerms_60 : decode cX12_readTerms 60 = .ok (.getfield 308, 3) := by decide +kernel
theorem dX12_readTerms_63 : decode cX12_readTerms 63 = .ok (.iconst 1, 1) := by decide +kernel
theorem dX12_readTerms_64 : decode cX12_readTerms 64 = .ok (.isub, 1) := by decide +kernel
theorem dX12_readTerms_65 : decode cX12_readTerms 65 = .ok (.iaload, 1) := by decide +kernel
theorem dX12_readTerms_66 : decode cX12_readTerms 66 = .ok (.istore 6, 2) := by decide +kernel
theorem dX12_readTerms_68 : decode cX12_readTerms 68 = .ok (.aload_n 0, 1) := by decide +kernel
theorem dX12_readTerms_69 : decode cX12_readTerms 69 = .ok (.getfield 94, 3) := by decide +kernel
theorem dX12_readTerms_72 : decode cX12_readTerms 72 = .ok (.bipush 9, 2) := by decide +kernel
theorem dX12_readTerms_74 : decode cX12_readTerms 74 = .ok (.iload 6, 2) := by decide +kernel
theorem dX12_readTerms_76 : decode cX12_readTerms 76 = .ok (.imul, 1) := by decide +kernel
theorem dX12_readTerms_77 : decode cX12_readTerms 77 = .ok (.aload_n 0, 1) := by decide +kernel
theorem dX12_readTerms_78 : decode cX12_readTerms 78 = .ok (.getfield 100, 3) := by decide +kernel
theorem dX12_readTerms_81 : decode cX12_readTerms 81 = .ok (.iload 6, 2) := by decide +kernel
theorem dX12_readTerms_83 : decode cX12_readTerms 83 = .ok (.iaload, 1) := by decide +kernel
theorem dX12_readTerms_84 : decode cX12_readTerms 84 = .ok (.iadd, 1) := by decide +kernel
theorem dX12_readTerms_85 : decode cX12_readTerms 85 = .ok (.iload 4, 2) := by decide +kernel
theorem dX12_readTerms_87 : decode cX12_readTerms 87 = .ok (.iastore, 1) := by decide +kernel
theorem dX12_readTerms_88 : decode cX12_readTerms 88 = .ok (.aload_n 0, 1) := by decide +kernel
theorem dX12_readTerms_89 : decode cX12_readTerms 89 = .ok (.getfield 100, 3) := by decide +kernel
theorem dX12_readTerms_92 : decode cX12_readTerms 92 = .ok (.iload 6, 2) := by decide +kernel
theorem dX12_readTerms_94 : decode cX12_readTerms 94 = .ok (.dup2, 1) := by decide +kernel
theorem dX12_readTerms_95 : decode cX12_readTerms 95 = .ok (.iaload, 1) := by decide +kernel
theorem dX12_readTerms_96 : decode cX12_readTerms 96 = .ok (.iconst 1, 1) := by decide +kernel
theorem dX12_readTerms_97 : decode cX12_readTerms 97 = .ok (.iadd, 1) := by decide +kernel
theorem dX12_readTerms_98 : decode cX12_readTerms 98 = .ok (.iastore, 1) := by decide +kernel
theorem dX12_readTerms_99 : decode cX12_readTerms 99 = .ok (.aload_n 0, 1) := by decide +kernel
theorem dX12_readTerms_100 : decode cX12_readTerms 100 = .ok (.getfield 127, 3) := by decide +kernel
theorem dX12_readTerms_103 : decode cX12_readTerms 103 = .ok (.iload 4, 2) := by decide +kernel
theorem dX12_readTerms_105 : decode cX12_readTerms 105 = .ok (.iload 5, 2) := by decide +kernel
theorem dX12_readTerms_107 : decode cX12_readTerms 107 = .ok (.iastore, 1) := by decide +kernel
theorem dX12_readTerms_108 : decode cX12_readTerms 108 = .ok (.aload_n 0, 1) := by decide +kernel
theorem dX12_readTerms_109 : decode cX12_readTerms 109 = .ok (.getfield 121, 3) := by decide +kernel
theorem dX12_readTerms_112 : decode cX12_readTerms 112 = .ok (.aload_n 0, 1) := by decide +kernel
theorem dX12_readTerms_113 : decode cX12_readTerms 113 = .ok (.getfield 308, 3) := by decide +kernel
theorem dX12_readTerms_116 : decode cX12_readTerms 116 = .ok (.iload 4, 2) := by decide +kernel
theorem dX12_readTerms_118 : decode cX12_readTerms 118 = .ok (.iastore, 1) := by decide +kernel
theorem dX12_readTerms_119 : decode cX12_readTerms 119 = .ok (.aload_n 0, 1) := by decide +kernel
theorem dX12_readTerms_120 : decode cX12_readTerms 120 = .ok (.getfield 124, 3) := by decide +kernel
theorem dX12_readTerms_123 : decode cX12_readTerms 123 = .ok (.aload_n 0, 1) := by decide +kernel
theorem dX12_readTerms_124 : decode cX12_readTerms 124 = .ok (.getfield 308, 3) := by decide +kernel
theorem dX12_readTerms_127 : decode cX12_readTerms 127 = .ok (.iload_n 1, 1) := by decide +kernel
theorem dX12_readTerms_128 : decode cX12_readTerms 128 = .ok (.iastore, 1) := by decide +kernel
theorem dX12_readTerms_129 : decode cX12_readTerms 129 = .ok (.aload_n 0, 1) := by decide +kernel
theorem dX12_readTerms_130 : decode cX12_readTerms 130 = .ok (.dup, 1) := by decide +kernel
theorem dX12_readTerms_131 : decode cX12_readTerms 131 = .ok (.getfield 308, 3) := by decide +kernel
theorem dX12_readTerms_134 : decode cX12_readTerms 134 = .ok (.iconst 1, 1) := by decide +kernel
theorem dX12_readTerms_135 : decode cX12_readTerms 135 = .ok (.iadd, 1) := by decide +kernel
theorem dX12_readTerms_136 : decode cX12_readTerms 136 = .ok (.putfield 308, 3) := by decide +kernel
theorem dX12_readTerms_139 : decode cX12_readTerms 139 = .ok (.aload_n 0, 1) := by decide +kernel
theorem dX12_readTerms_140 : decode cX12_readTerms 140 = .ok (.getfield 308, 3) := by decide +kernel
theorem dX12_readTerms_143 : decode cX12_readTerms 143 = .ok (.ifCond .le 35, 3) := by decide +kernel
theorem dX12_readTerms_146 : decode cX12_readTerms 146 = .ok (.aload_n 0, 1) := by decide +kernel
theorem dX12_readTerms_147 : decode cX12_readTerms 147 = .ok (.getfield 127, 3) := by decide +kernel
theorem dX12_readTerms_150 : decode cX12_readTerms 150 = .ok (.aload_n 0, 1) := by decide +kernel
theorem dX12_readTerms_151 : decode cX12_readTerms 151 = .ok (.getfield 121, 3) := by decide +kernel
theorem dX12_readTerms_154 : decode cX12_readTerms 154 = .ok (.aload_n 0, 1) := by decide +kernel
theorem dX12_readTerms_155 : decode cX12_readTerms 155 = .ok (.getfield 308, 3) := by decide +kernel
theorem dX12_readTerms_158 : decode cX12_readTerms 158 = .ok (.iconst 1, 1) := by decide +kernel
theorem dX12_readTerms_159 : decode cX12_readTerms 159 = .ok (.isub, 1) := by decide +kernel
theorem dX12_readTerms_160 : decode cX12_readTerms 160 = .ok (.iaload, 1) := by decide +kernel
theorem dX12_readTerms_161 : decode cX12_readTerms 161 = .ok (.iaload, 1) := by decide +kernel
theorem dX12_readTerms_162 : decode cX12_readTerms 162 = .ok (.ifCond .ne 16, 3) := by decide +kernel
theorem dX12_readTerms_165 : decode cX12_readTerms 165 = .ok (.aload_n 0, 1) := by decide +kernel
theorem dX12_readTerms_166 : decode cX12_readTerms 166 = .ok (.dup, 1) := by decide +kernel
theorem dX12_readTerms_167 : decode cX12_readTerms 167 = .ok (.getfield 308, 3) := by decide +kernel
theorem dX12_readTerms_170 : decode cX12_readTerms 170 = .ok (.iconst 1, 1) := by decide +kernel
theorem dX12_readTerms_171 : decode cX12_readTerms 171 = .ok (.isub, 1) := by decide +kernel
theorem dX12_readTerms_172 : decode cX12_readTerms 172 = .ok (.putfield 308, 3) := by decide +kernel
theorem dX12_readTerms_175 : decode cX12_readTerms 175 = .ok (.goto (-36), 3) := by decide +kernel
theorem dX12_readTerms_178 : decode cX12_readTerms 178 = .ok (.aload_n 0, 1) := by decide +kernel
theorem dX12_readTerms_179 : decode cX12_readTerms 179 = .ok (.getfield 308, 3) := by decide +kernel
theorem dX12_readTerms_182 : decode cX12_readTerms 182 = .ok (.ifCond .le 7, 3) := by decide +kernel
theorem dX12_readTerms_185 : decode cX12_readTerms 185 = .ok (.iconst 1, 1) := by decide +kernel
theorem dX12_readTerms_186 : decode cX12_readTerms 186 = .ok (.goto 4, 3) := by decide +kernel
theorem dX12_readTerms_189 : decode cX12_readTerms 189 = .ok (.iconst 0, 1) := by decide +kernel
theorem dX12_readTerms_190 : decode cX12_readTerms 190 = .ok (.istore_n 3, 1) := by decide +kernel
theorem dX12_readTerms_191 : decode cX12_readTerms 191 = .ok (.aload_n 0, 1) := by decide +kernel
theorem dX12_readTerms_192 : decode cX12_readTerms 192 = .ok (.getfield 201, 3) := by decide +kernel
theorem dX12_readTerms_195 : decode cX12_readTerms 195 = .ok (.ifCond .ne 149, 3) := by decide +kernel
theorem dX12_readTerms_198 : decode cX12_readTerms 198 = .ok (.iload_n 3, 1) := by decide +kernel
theorem dX12_readTerms_199 : decode cX12_readTerms 199 = .ok (.ifCond .eq 145, 3) := by decide +kernel
theorem dX12_readTerms_202 : decode cX12_readTerms 202 = .ok (.aload_n 0, 1) := by decide +kernel
theorem dX12_readTerms_203 : decode cX12_readTerms 203 = .ok (.getfield 121, 3) := by decide +kernel
theorem dX12_readTerms_206 : decode cX12_readTerms 206 = .ok (.aload_n 0, 1) := by decide +kernel
theorem dX12_readTerms_207 : decode cX12_readTerms 207 = .ok (.getfield 308, 3) := by decide +kernel
theorem dX12_readTerms_210 : decode cX12_readTerms 210 = .ok (.iconst 1, 1) := by decide +kernel
theorem dX12_readTerms_211 : decode cX12_readTerms 211 = .ok (.isub, 1) := by decide +kernel
theorem dX12_readTerms_212 : decode cX12_readTerms 212 = .ok (.iaload, 1) := by decide +kernel
theorem dX12_readTerms_213 : decode cX12_readTerms 213 = .ok (.istore 6, 2) := by decide +kernel
theorem dX12_readTerms_215 : decode cX12_readTerms 215 = .ok (.aload_n 0, 1) := by decide +kernel
theorem dX12_readTerms_216 : decode cX12_readTerms 216 = .ok (.getfield 127, 3) := by decide +kernel
theorem dX12_readTerms_219 : decode cX12_readTerms 219 = .ok (.iload 6, 2) := by decide +kernel
theorem dX12_readTerms_221 : decode cX12_readTerms 221 = .ok (.dup2, 1) := by decide +kernel
theorem dX12_readTerms_222 : decode cX12_readTerms 222 = .ok (.iaload, 1) := by decide +kernel
theorem dX12_readTerms_223 : decode cX12_readTerms 223 = .ok (.iconst 1, 1) := by decide +kernel
theorem dX12_readTerms_224 : decode cX12_readTerms 224 = .ok (.isub, 1) := by decide +kernel
theorem dX12_readTerms_225 : decode cX12_readTerms 225 = .ok (.iastore, 1) := by decide +kernel
theorem dX12_readTerms_226 : decode cX12_readTerms 226 = .ok (.aload_n 0, 1) := by decide +kernel
theorem dX12_readTerms_227 : decode cX12_readTerms 227 = .ok (.getfield 82, 3) := by decide +kernel
theorem dX12_readTerms_230 : decode cX12_readTerms 230 = .ok (.iload 6, 2) := by decide +kernel
theorem dX12_readTerms_232 : decode cX12_readTerms 232 = .ok (.iaload, 1) := by decide +kernel
theorem dX12_readTerms_233 : decode cX12_readTerms 233 = .ok (.bipush 33, 2) := by decide +kernel
theorem dX12_readTerms_235 : decode cX12_readTerms 235 = .ok (.if_icmp .ne 7, 3) := by decide +kernel
theorem dX12_readTerms_238 : decode cX12_readTerms 238 = .ok (.iconst 1, 1) := by decide +kernel
theorem dX12_readTerms_239 : decode cX12_readTerms 239 = .ok (.goto 4, 3) := by decide +kernel
theorem dX12_readTerms_242 : decode cX12_readTerms 242 = .ok (.iconst 0, 1) := by decide +kernel
theorem dX12_readTerms_243 : decode cX12_readTerms 243 = .ok (.istore_n 2, 1) := by decide +kernel
theorem dX12_readTerms_244 : decode cX12_readTerms 244 = .ok (.aload_n 0, 1) := by decide +kernel
theorem dX12_readTerms_245 : decode cX12_readTerms 245 = .ok (.getfield 124, 3) := by decide +kernel
theorem dX12_readTerms_248 : decode cX12_readTerms 248 = .ok (.aload_n 0, 1) := by decide +kernel
theorem dX12_readTerms_249 : decode cX12_readTerms 249 = .ok (.getfield 308, 3) := by decide +kernel
theorem dX12_readTerms_252 : decode cX12_readTerms 252 = .ok (.iconst 1, 1) := by decide +kernel
theorem dX12_readTerms_253 : decode cX12_readTerms 253 = .ok (.isub, 1) := by decide +kernel
theorem dX12_readTerms_254 : decode cX12_readTerms 254 = .ok (.iaload, 1) := by decide +kernel
theorem dX12_readTerms_255 : decode cX12_readTerms 255 = .ok (.istore_n 1, 1) := by decide +kernel
theorem dX12_readTerms_256 : decode cX12_readTerms 256 = .ok (.aload_n 0, 1) := by decide +kernel
theorem dX12_readTerms_257 : decode cX12_readTerms 257 = .ok (.iload 6, 2) := by decide +kernel
theorem dX12_readTerms_259 : decode cX12_readTerms 259 = .ok (.invokevirtual 315, 3) := by decide +kernel
theorem dX12_readTerms_262 : decode cX12_readTerms 262 = .ok (.ifCond .eq 9, 3) := by decide +kernel
theorem dX12_readTerms_265 : decode cX12_readTerms 265 = .ok (.aload_n 0, 1) := by decide +kernel
theorem dX12_readTerms_266 : decode cX12_readTerms 266 = .ok (.iload 6, 2) := by decide +kernel
theorem dX12_readTerms_268 : decode cX12_readTerms 268 = .ok (.invokevirtual 318, 3) := by decide +kernel
theorem dX12_readTerms_271 : decode cX12_readTerms 271 = .ok (.aload_n 0, 1) := by decide +kernel
theorem dX12_readTerms_272 : decode cX12_readTerms 272 = .ok (.getfield 82, 3) := by decide +kernel
theorem dX12_readTerms_275 : decode cX12_readTerms 275 = .ok (.iload 6, 2) := by decide +kernel
theorem dX12_readTerms_277 : decode cX12_readTerms 277 = .ok (.iaload, 1) := by decide +kernel
theorem dX12_readTerms_278 : decode cX12_readTerms 278 = .ok (.bipush 21, 2) := by decide +kernel
theorem dX12_readTerms_280 : decode cX12_readTerms 280 = .ok (.if_icmp .eq 44, 3) := by decide +kernel
theorem dX12_readTerms_283 : decode cX12_readTerms 283 = .ok (.aload_n 0, 1) := by decide +kernel
theorem dX12_readTerms_284 : decode cX12_readTerms 284 = .ok (.getfield 82, 3) := by decide +kernel
theorem dX12_readTerms_287 : decode cX12_readTerms 287 = .ok (.iload 6, 2) := by decide +kernel
theorem dX12_readTerms_289 : decode cX12_readTerms 289 = .ok (.iaload, 1) := by decide +kernel
theorem dX12_readTerms_290 : decode cX12_readTerms 290 = .ok (.bipush 33, 2) := by decide +kernel
theorem dX12_readTerms_292 : decode cX12_readTerms 292 = .ok (.if_icmp .eq 32, 3) := by decide +kernel
theorem dX12_readTerms_295 : decode cX12_readTerms 295 = .ok (.aload_n 0, 1) := by decide +kernel
theorem dX12_readTerms_296 : decode cX12_readTerms 296 = .ok (.getfield 82, 3) := by decide +kernel
theorem dX12_readTerms_299 : decode cX12_readTerms 299 = .ok (.iload 6, 2) := by decide +kernel
theorem dX12_readTerms_301 : decode cX12_readTerms 301 = .ok (.iaload, 1) := by decide +kernel
theorem dX12_readTerms_302 : decode cX12_readTerms 302 = .ok (.bipush 32, 2) := by decide +kernel
theorem dX12_readTerms_304 : decode cX12_readTerms 304 = .ok (.if_icmp .ne 24, 3) := by decide +kernel
theorem dX12_readTerms_307 : decode cX12_readTerms 307 = .ok (.aload_n 0, 1) := by decide +kernel
theorem dX12_readTerms_308 : decode cX12_readTerms 308 = .ok (.getfield 100, 3) := by decide +kernel
theorem dX12_readTerms_311 : decode cX12_readTerms 311 = .ok (.iload 6, 2) := by decide +kernel
theorem dX12_readTerms_313 : decode cX12_readTerms 313 = .ok (.iaload, 1) := by decide +kernel
theorem dX12_readTerms_314 : decode cX12_readTerms 314 = .ok (.aload_n 0, 1) := by decide +kernel
theorem dX12_readTerms_315 : decode cX12_readTerms 315 = .ok (.getfield 88, 3) := by decide +kernel
theorem dX12_readTerms_318 : decode cX12_readTerms 318 = .ok (.iload 6, 2) := by decide +kernel
theorem dX12_readTerms_320 : decode cX12_readTerms 320 = .ok (.iaload, 1) := by decide +kernel
theorem dX12_readTerms_321 : decode cX12_readTerms 321 = .ok (.if_icmp .ge 7, 3) := by decide +kernel
theorem dX12_readTerms_324 : decode cX12_readTerms 324 = .ok (.iconst 1, 1) := by decide +kernel
theorem dX12_readTerms_325 : decode cX12_readTerms 325 = .ok (.goto 4, 3) := by decide +kernel
theorem dX12_readTerms_328 : decode cX12_readTerms 328 = .ok (.iconst 0, 1) := by decide +kernel
theorem dX12_readTerms_329 : decode cX12_readTerms 329 = .ok (.istore 7, 2) := by decide +kernel
theorem dX12_readTerms_331 : decode cX12_readTerms 331 = .ok (.iload 7, 2) := by decide +kernel
theorem dX12_readTerms_333 : decode cX12_readTerms 333 = .ok (.ifCond .eq 9, 3) := by decide +kernel
theorem dX12_readTerms_336 : decode cX12_readTerms 336 = .ok (.iload_n 1, 1) := by decide +kernel
theorem dX12_readTerms_337 : decode cX12_readTerms 337 = .ok (.iconst 1, 1) := by decide +kernel
theorem dX12_readTerms_338 : decode cX12_readTerms 338 = .ok (.iadd, 1) := by decide +kernel
theorem dX12_readTerms_339 : decode cX12_readTerms 339 = .ok (.goto 4, 3) := by decide +kernel
theorem dX12_readTerms_342 : decode cX12_readTerms 342 = .ok (.iload_n 1, 1) := by decide +kernel
theorem dX12_readTerms_343 : decode cX12_readTerms 343 = .ok (.istore_n 1, 1) := by decide +kernel
theorem dX12_readTerms_344 : decode cX12_readTerms 344 = .ok (.goto (-328), 3) := by decide +kernel
theorem dX12_readTerms_347 : decode cX12_readTerms 347 = .ok (.return_, 1) := by decide +kernel
theorem dX12_takeTermLabel_0 : decode cX12_takeTermLabel 0 = .ok (.aload_n 0, 1) := by decide +kernel
theorem dX12_takeTermLabel_1 : decode cX12_takeTermLabel 1 = .ok (.getfield 100, 3) := by decide +kernel
theorem dX12_takeTermLabel_4 : decode cX12_takeTermLabel 4 = .ok (.iload_n 1, 1) := by decide +kernel
theorem dX12_takeTermLabel_5 : decode cX12_takeTermLabel 5 = .ok (.iaload, 1) := by decide +kernel
theorem dX12_takeTermLabel_6 : decode cX12_takeTermLabel 6 = .ok (.istore_n 2, 1) := by decide +kernel
theorem dX12_takeTermLabel_7 : decode cX12_takeTermLabel 7 = .ok (.iload_n 2, 1) := by decide +kernel
theorem dX12_takeTermLabel_8 : decode cX12_takeTermLabel 8 = .ok (.ifCond .ne 7, 3) := by decide +kernel
theorem dX12_takeTermLabel_11 : decode cX12_takeTermLabel 11 = .ok (.iconst (-1), 1) := by decide +kernel
theorem dX12_takeTermLabel_12 : decode cX12_takeTermLabel 12 = .ok (.goto 16, 3) := by decide +kernel
theorem dX12_takeTermLabel_15 : decode cX12_takeTermLabel 15 = .ok (.aload_n 0, 1) := by decide +kernel
theorem dX12_takeTermLabel_16 : decode cX12_takeTermLabel 16 = .ok (.getfield 97, 3) := by decide +kernel
theorem dX12_takeTermLabel_19 : decode cX12_takeTermLabel 19 = .ok (.bipush 9, 2) := by decide +kernel
theorem dX12_takeTermLabel_21 : decode cX12_takeTermLabel 21 = .ok (.iload_n 1, 1) := by decide +kernel
theorem dX12_takeTermLabel_22 : decode cX12_takeTermLabel 22 = .ok (.imul, 1) := by decide +kernel
theorem dX12_takeTermLabel_23 : decode cX12_takeTermLabel 23 = .ok (.iload_n 2, 1) := by decide +kernel
theorem dX12_takeTermLabel_24 : decode cX12_takeTermLabel 24 = .ok (.iadd, 1) := by decide +kernel
theorem dX12_takeTermLabel_25 : decode cX12_takeTermLabel 25 = .ok (.iconst 1, 1) := by decide +kernel
theorem dX12_takeTermLabel_26 : decode cX12_takeTermLabel 26 = .ok (.isub, 1) := by decide +kernel
theorem dX12_takeTermLabel_27 : decode cX12_takeTermLabel 27 = .ok (.iaload, 1) := by decide +kernel
theorem dX12_takeTermLabel_28 : decode cX12_takeTermLabel 28 = .ok (.istore_n 3, 1) := by decide +kernel
theorem dX12_takeTermLabel_29 : decode cX12_takeTermLabel 29 = .ok (.aload_n 0, 1) := by decide +kernel
theorem dX12_takeTermLabel_30 : decode cX12_takeTermLabel 30 = .ok (.getfield 97, 3) := by decide +kernel
theorem dX12_takeTermLabel_33 : decode cX12_takeTermLabel 33 = .ok (.bipush 9, 2) := by decide +kernel
theorem dX12_takeTermLabel_35 : decode cX12_takeTermLabel 35 = .ok (.iload_n 1, 1) := by decide +kernel
theorem dX12_takeTermLabel_36 : decode cX12_takeTermLabel 36 = .ok (.imul, 1) := by decide +kernel
theorem dX12_takeTermLabel_37 : decode cX12_takeTermLabel 37 = .ok (.iload_n 2, 1) := by decide +kernel
theorem dX12_takeTermLabel_38 : decode cX12_takeTermLabel 38 = .ok (.iadd, 1) := by decide +kernel
theorem dX12_takeTermLabel_39 : decode cX12_takeTermLabel 39 = .ok (.aload_n 0, 1) := by decide +kernel
theorem dX12_takeTermLabel_40 : decode cX12_takeTermLabel 40 = .ok (.iload_n 3, 1) := by decide +kernel
theorem dX12_takeTermLabel_41 : decode cX12_takeTermLabel 41 = .ok (.iconst 1, 1) := by decide +kernel
theorem dX12_takeTermLabel_42 : decode cX12_takeTermLabel 42 = .ok (.iadd, 1) := by decide +kernel
theorem dX12_takeTermLabel_43 : decode cX12_takeTermLabel 43 = .ok (.bipush 7, 2) := by decide +kernel
theorem dX12_takeTermLabel_45 : decode cX12_takeTermLabel 45 = .ok (.invokevirtual 214, 3) := by decide +kernel
theorem dX12_takeTermLabel_48 : decode cX12_takeTermLabel 48 = .ok (.iastore, 1) := by decide +kernel
theorem dX12_takeTermLabel_49 : decode cX12_takeTermLabel 49 = .ok (.return_, 1) := by decide +kernel
theorem dX12_insideAt_0 : decode cX12_insideAt 0 = .ok (.aload_n 0, 1) := by decide +kernel
theorem dX12_insideAt_1 : decode cX12_insideAt 1 = .ok (.getfield 82, 3) := by decide +kernel
theorem dX12_insideAt_4 : decode cX12_insideAt 4 = .ok (.iload_n 1, 1) := by decide +kernel
theorem dX12_insideAt_5 : decode cX12_insideAt 5 = .ok (.iaload, 1) := by decide +kernel
theorem dX12_insideAt_6 : decode cX12_insideAt 6 = .ok (.bipush 32, 2) := by decide +kernel
theorem dX12_insideAt_8 : decode cX12_insideAt 8 = .ok (.if_icmp .ne 24, 3) := by decide +kernel
theorem dX12_insideAt_11 : decode cX12_insideAt 11 = .ok (.iload_n 2, 1) := by decide +kernel
theorem dX12_insideAt_12 : decode cX12_insideAt 12 = .ok (.ifCond .ne 14, 3) := by decide +kernel
theorem dX12_insideAt_15 : decode cX12_insideAt 15 = .ok (.aload_n 0, 1) := by decide +kernel
theorem dX12_insideAt_16 : decode cX12_insideAt 16 = .ok (.getfield 100, 3) := by decide +kernel
theorem dX12_insideAt_19 : decode cX12_insideAt 19 = .ok (.iload_n 1, 1) := by decide +kernel
theorem dX12_insideAt_20 : decode cX12_insideAt 20 = .ok (.iaload, 1) := by decide +kernel
theorem dX12_insideAt_21 : decode cX12_insideAt 21 = .ok (.iconst 1, 1) := by decide +kernel
theorem dX12_insideAt_22 : decode cX12_insideAt 22 = .ok (.isub, 1) := by decide +kernel
theorem dX12_insideAt_23 : decode cX12_insideAt 23 = .ok (.goto 10, 3) := by decide +kernel
theorem dX12_insideAt_26 : decode cX12_insideAt 26 = .ok (.iload_n 2, 1) := by decide +kernel
theorem dX12_insideAt_27 : decode cX12_insideAt 27 = .ok (.iconst 1, 1) := by decide +kernel
theorem dX12_insideAt_28 : decode cX12_insideAt 28 = .ok (.isub, 1) := by decide +kernel
theorem dX12_insideAt_29 : decode cX12_insideAt 29 = .ok (.goto 4, 3) := by decide +kernel
theorem dX12_insideAt_32 : decode cX12_insideAt 32 = .ok (.iload_n 2, 1) := by decide +kernel
theorem dX12_insideAt_33 : decode cX12_insideAt 33 = .ok (.istore_n 3, 1) := by decide +kernel
theorem dX12_insideAt_34 : decode cX12_insideAt 34 = .ok (.aload_n 0, 1) := by decide +kernel
theorem dX12_insideAt_35 : decode cX12_insideAt 35 = .ok (.getfield 94, 3) := by decide +kernel
theorem dX12_insideAt_38 : decode cX12_insideAt 38 = .ok (.bipush 9, 2) := by decide +kernel
theorem dX12_insideAt_40 : decode cX12_insideAt 40 = .ok (.iload_n 1, 1) := by decide +kernel
theorem dX12_insideAt_41 : decode cX12_insideAt 41 = .ok (.imul, 1) := by decide +kernel
theorem dX12_insideAt_42 : decode cX12_insideAt 42 = .ok (.iload_n 3, 1) := by decide +kernel
theorem dX12_insideAt_43 : decode cX12_insideAt 43 = .ok (.iadd, 1) := by decide +kernel
theorem dX12_insideAt_44 : decode cX12_insideAt 44 = .ok (.iaload, 1) := by decide +kernel
theorem dX12_insideAt_45 : decode cX12_insideAt 45 = .ok (.ireturn, 1) := by decide +kernel
theorem dX12_typeInside_0 : decode cX12_typeInside 0 = .ok (.aload_n 0, 1) := by decide +kernel
theorem dX12_typeInside_1 : decode cX12_typeInside 1 = .ok (.getfield 139, 3) := by decide +kernel
theorem dX12_typeInside_4 : decode cX12_typeInside 4 = .ok (.aload_n 0, 1) := by decide +kernel
theorem dX12_typeInside_5 : decode cX12_typeInside 5 = .ok (.getfield 94, 3) := by decide +kernel
theorem dX12_typeInside_8 : decode cX12_typeInside 8 = .ok (.bipush 9, 2) := by decide +kernel
theorem dX12_typeInside_10 : decode cX12_typeInside 10 = .ok (.iload_n 1, 1) := by decide +kernel
theorem dX12_typeInside_11 : decode cX12_typeInside 11 = .ok (.imul, 1) := by decide +kernel
theorem dX12_typeInside_12 : decode cX12_typeInside 12 = .ok (.iload_n 2, 1) := by decide +kernel
theorem dX12_typeInside_13 : decode cX12_typeInside 13 = .ok (.iadd, 1) := by decide +kernel
theorem dX12_typeInside_14 : decode cX12_typeInside 14 = .ok (.iaload, 1) := by decide +kernel
theorem dX12_typeInside_15 : decode cX12_typeInside 15 = .ok (.iaload, 1) := by decide +kernel
theorem dX12_typeInside_16 : decode cX12_typeInside 16 = .ok (.ireturn, 1) := by decide +kernel
theorem dX12_more_0 : decode cX12_more 0 = .ok (.aload_n 0, 1) := by decide +kernel
theorem dX12_more_1 : decode cX12_more 1 = .ok (.getfield 181, 3) := by decide +kernel
theorem dX12_more_4 : decode cX12_more 4 = .ok (.sipush 200, 3) := by decide +kernel
theorem dX12_more_7 : decode cX12_more 7 = .ok (.if_icmp .lt 25, 3) := by decide +kernel
theorem dX12_more_10 : decode cX12_more 10 = .ok (.aload_n 0, 1) := by decide +kernel
theorem dX12_more_11 : decode cX12_more 11 = .ok (.aload_n 0, 1) := by decide +kernel
theorem dX12_more_12 : decode cX12_more 12 = .ok (.getfield 201, 3) := by decide +kernel
theorem dX12_more_15 : decode cX12_more 15 = .ok (.ifCond .ne 8, 3) := by decide +kernel
theorem dX12_more_18 : decode cX12_more 18 = .ok (.bipush (-3), 2) := by decide +kernel
theorem dX12_more_20 : decode cX12_more 20 = .ok (.goto 7, 3) := by decide +kernel
theorem dX12_more_23 : decode cX12_more 23 = .ok (.aload_n 0, 1) := by decide +kernel
theorem dX12_more_24 : decode cX12_more 24 = .ok (.getfield 201, 3) := by decide +kernel
theorem dX12_more_27 : decode cX12_more 27 = .ok (.putfield 201, 3) := by decide +kernel
theorem dX12_more_30 : decode cX12_more 30 = .ok (.iconst 0, 1) := by decide +kernel
theorem dX12_more_31 : decode cX12_more 31 = .ok (.ireturn, 1) := by decide +kernel
theorem dX12_more_32 : decode cX12_more 32 = .ok (.aload_n 0, 1) := by decide +kernel
theorem dX12_more_33 : decode cX12_more 33 = .ok (.iload_n 1, 1) := by decide +kernel
theorem dX12_more_34 : decode cX12_more 34 = .ok (.iconst 0, 1) := by decide +kernel
theorem dX12_more_35 : decode cX12_more 35 = .ok (.invokevirtual 228, 3) := by decide +kernel
theorem dX12_more_38 : decode cX12_more 38 = .ok (.ireturn, 1) := by decide +kernel
theorem dX12_typeTerms_0 : decode cX12_typeTerms 0 = .ok (.aload_n 0, 1) := by decide +kernel
theorem dX12_typeTerms_1 : decode cX12_typeTerms 1 = .ok (.iconst 0, 1) := by decide +kernel
theorem dX12_typeTerms_2 : decode cX12_typeTerms 2 = .ok (.putfield 321, 3) := by decide +kernel
theorem dX12_typeTerms_5 : decode cX12_typeTerms 5 = .ok (.aload_n 0, 1) := by decide +kernel
theorem dX12_typeTerms_6 : decode cX12_typeTerms 6 = .ok (.iconst 0, 1) := by decide +kernel
theorem dX12_typeTerms_7 : decode cX12_typeTerms 7 = .ok (.iconst 0, 1) := by decide +kernel
theorem dX12_typeTerms_8 : decode cX12_typeTerms 8 = .ok (.invokevirtual 324, 3) := by decide +kernel
theorem dX12_typeTerms_11 : decode cX12_typeTerms 11 = .ok (.aload_n 0, 1) := by decide +kernel
theorem dX12_typeTerms_12 : decode cX12_typeTerms 12 = .ok (.getfield 321, 3) := by decide +kernel
theorem dX12_typeTerms_15 : decode cX12_typeTerms 15 = .ok (.ifCond .le 136, 3) := by decide +kernel
theorem dX12_typeTerms_18 : decode cX12_typeTerms 18 = .ok (.aload_n 0, 1) := by decide +kernel
theorem dX12_typeTerms_19 : decode cX12_typeTerms 19 = .ok (.getfield 201, 3) := by decide +kernel
theorem dX12_typeTerms_22 : decode cX12_typeTerms 22 = .ok (.ifCond .ne 129, 3) := by decide +kernel
theorem dX12_typeTerms_25 : decode cX12_typeTerms 25 = .ok (.aload_n 0, 1) := by decide +kernel
theorem dX12_typeTerms_26 : decode cX12_typeTerms 26 = .ok (.getfield 321, 3) := by decide +kernel
theorem dX12_typeTerms_29 : decode cX12_typeTerms 29 = .ok (.iconst 1, 1) := by decide +kernel
theorem dX12_typeTerms_30 : decode cX12_typeTerms 30 = .ok (.isub, 1) := by decide +kernel
theorem dX12_typeTerms_31 : decode cX12_typeTerms 31 = .ok (.istore_n 1, 1) := by decide +kernel
theorem dX12_typeTerms_32 : decode cX12_typeTerms 32 = .ok (.aload_n 0, 1) := by decide +kernel
theorem dX12_typeTerms_33 : decode cX12_typeTerms 33 = .ok (.getfield 130, 3) := by decide +kernel
theorem dX12_typeTerms_36 : decode cX12_typeTerms 36 = .ok (.iload_n 1, 1) := by decide +kernel
theorem dX12_typeTerms_37 : decode cX12_typeTerms 37 = .ok (.iaload, 1) := by decide +kernel
theorem dX12_typeTerms_38 : decode cX12_typeTerms 38 = .ok (.istore_n 2, 1) := by decide +kernel
theorem dX12_typeTerms_39 : decode cX12_typeTerms 39 = .ok (.aload_n 0, 1) := by decide +kernel
theorem dX12_typeTerms_40 : decode cX12_typeTerms 40 = .ok (.getfield 133, 3) := by decide +kernel
theorem dX12_typeTerms_43 : decode cX12_typeTerms 43 = .ok (.iload_n 1, 1) := by decide +kernel
theorem dX12_typeTerms_44 : decode cX12_typeTerms 44 = .ok (.iaload, 1) := by decide +kernel
theorem dX12_typeTerms_45 : decode cX12_typeTerms 45 = .ok (.istore_n 3, 1) := by decide +kernel
theorem dX12_typeTerms_46 : decode cX12_typeTerms 46 = .ok (.iload_n 3, 1) := by decide +kernel
theorem dX12_typeTerms_47 : decode cX12_typeTerms 47 = .ok (.aload_n 0, 1) := by decide +kernel
theorem dX12_typeTerms_48 : decode cX12_typeTerms 48 = .ok (.getfield 100, 3) := by decide +kernel
theorem dX12_typeTerms_51 : decode cX12_typeTerms 51 = .ok (.iload_n 2, 1) := by decide +kernel
theorem dX12_typeTerms_52 : decode cX12_typeTerms 52 = .ok (.iaload, 1) := by decide +kernel
theorem dX12_typeTerms_53 : decode cX12_typeTerms 53 = .ok (.if_icmp .ge 68, 3) := by decide +kernel
theorem dX12_typeTerms_56 : decode cX12_typeTerms 56 = .ok (.aload_n 0, 1) := by decide +kernel
theorem dX12_typeTerms_57 : decode cX12_typeTerms 57 = .ok (.getfield 133, 3) := by decide +kernel
theorem dX12_typeTerms_60 : decode cX12_typeTerms 60 = .ok (.iload_n 1, 1) := by decide +kernel
theorem dX12_typeTerms_61 : decode cX12_typeTerms 61 = .ok (.dup2, 1) := by decide +kernel
theorem dX12_typeTerms_62 : decode cX12_typeTerms 62 = .ok (.iaload, 1) := by decide +kernel
theorem dX12_typeTerms_63 : decode cX12_typeTerms 63 = .ok (.iconst 1, 1) := by decide +kernel
theorem dX12_typeTerms_64 : decode cX12_typeTerms 64 = .ok (.iadd, 1) := by decide +kernel
theorem dX12_typeTerms_65 : decode cX12_typeTerms 65 = .ok (.iastore, 1) := by decide +kernel
theorem dX12_typeTerms_66 : decode cX12_typeTerms 66 = .ok (.aload_n 0, 1) := by decide +kernel
theorem dX12_typeTerms_67 : decode cX12_typeTerms 67 = .ok (.getfield 136, 3) := by decide +kernel
theorem dX12_typeTerms_70 : decode cX12_typeTerms 70 = .ok (.iload_n 1, 1) := by decide +kernel
theorem dX12_typeTerms_71 : decode cX12_typeTerms 71 = .ok (.iaload, 1) := by decide +kernel
theorem dX12_typeTerms_72 : decode cX12_typeTerms 72 = .ok (.istore 4, 2) := by decide +kernel
theorem dX12_typeTerms_74 : decode cX12_typeTerms 74 = .ok (.aload_n 0, 1) := by decide +kernel
theorem dX12_typeTerms_75 : decode cX12_typeTerms 75 = .ok (.iload_n 2, 1) := by decide +kernel
theorem dX12_typeTerms_76 : decode cX12_typeTerms 76 = .ok (.iload_n 3, 1) := by decide +kernel
theorem dX12_typeTerms_77 : decode cX12_typeTerms 77 = .ok (.invokevirtual 328, 3) := by decide +kernel
theorem dX12_typeTerms_80 : decode cX12_typeTerms 80 = .ok (.istore 5, 2) := by decide +kernel
theorem dX12_typeTerms_82 : decode cX12_typeTerms 82 = .ok (.iload 5, 2) := by decide +kernel
theorem dX12_typeTerms_84 : decode cX12_typeTerms 84 = .ok (.ifCond .lt 15, 3) := by decide +kernel
theorem dX12_typeTerms_87 : decode cX12_typeTerms 87 = .ok (.aload_n 0, 1) := by decide +kernel
theorem dX12_typeTerms_88 : decode cX12_typeTerms 88 = .ok (.getfield 142, 3) := by decide +kernel
theorem dX12_typeTerms_91 : decode cX12_typeTerms 91 = .ok (.iload 4, 2) := by decide +kernel
theorem dX12_typeTerms_93 : decode cX12_typeTerms 93 = .ok (.iload 5, 2) := by decide +kernel
theorem dX12_typeTerms_95 : decode cX12_typeTerms 95 = .ok (.iastore, 1) := by decide +kernel
theorem dX12_typeTerms_96 : decode cX12_typeTerms 96 = .ok (.iinc 4 1, 3) := by decide +kernel
theorem dX12_typeTerms_99 : decode cX12_typeTerms 99 = .ok (.aload_n 0, 1) := by decide +kernel
theorem dX12_typeTerms_100 : decode cX12_typeTerms 100 = .ok (.getfield 201, 3) := by decide +kernel
theorem dX12_typeTerms_103 : decode cX12_typeTerms 103 = .ok (.ifCond .ne 15, 3) := by decide +kernel
theorem dX12_typeTerms_106 : decode cX12_typeTerms 106 = .ok (.aload_n 0, 1) := by decide +kernel
theorem dX12_typeTerms_107 : decode cX12_typeTerms 107 = .ok (.aload_n 0, 1) := by decide +kernel
theorem dX12_typeTerms_108 : decode cX12_typeTerms 108 = .ok (.iload_n 2, 1) := by decide +kernel
theorem dX12_typeTerms_109 : decode cX12_typeTerms 109 = .ok (.iload_n 3, 1) := by decide +kernel
theorem dX12_typeTerms_110 : decode cX12_typeTerms 110 = .ok (.invokevirtual 331, 3) := by decide +kernel
theorem dX12_typeTerms_113 : decode cX12_typeTerms 113 = .ok (.iload 4, 2) := by decide +kernel
theorem dX12_typeTerms_115 : decode cX12_typeTerms 115 = .ok (.invokevirtual 324, 3) := by decide +kernel
theorem dX12_typeTerms_118 : decode cX12_typeTerms 118 = .ok (.goto 30, 3) := by decide +kernel
theorem dX12_typeTerms_121 : decode cX12_typeTerms 121 = .ok (.aload_n 0, 1) := by decide +kernel
theorem dX12_typeTerms_122 : decode cX12_typeTerms 122 = .ok (.getfield 139, 3) := by decide +kernel
theorem dX12_typeTerms_125 : decode cX12_typeTerms 125 = .ok (.iload_n 2, 1) := by decide +kernel
theorem dX12_typeTerms_126 : decode cX12_typeTerms 126 = .ok (.aload_n 0, 1) := by decide +kernel
theorem dX12_typeTerms_127 : decode cX12_typeTerms 127 = .ok (.iload_n 2, 1) := by decide +kernel
theorem dX12_typeTerms_128 : decode cX12_typeTerms 128 = .ok (.aload_n 0, 1) := by decide +kernel
theorem dX12_typeTerms_129 : decode cX12_typeTerms 129 = .ok (.getfield 136, 3) := by decide +kernel
theorem dX12_typeTerms_132 : decode cX12_typeTerms 132 = .ok (.iload_n 1, 1) := by decide +kernel
theorem dX12_typeTerms_133 : decode cX12_typeTerms 133 = .ok (.iaload, 1) := by decide +kernel
theorem dX12_typeTerms_134 : decode cX12_typeTerms 134 = .ok (.invokevirtual 334, 3) := by decide +kernel
theorem dX12_typeTerms_137 : decode cX12_typeTerms 137 = .ok (.iastore, 1) := by decide +kernel
theorem dX12_typeTerms_138 : decode cX12_typeTerms 138 = .ok (.aload_n 0, 1) := by decide +kernel
theorem dX12_typeTerms_139 : decode cX12_typeTerms 139 = .ok (.dup, 1) := by decide +kernel
theorem dX12_typeTerms_140 : decode cX12_typeTerms 140 = .ok (.getfield 321, 3) := by decide +kernel
theorem dX12_typeTerms_143 : decode cX12_typeTerms 143 = .ok (.iconst 1, 1) := by decide +kernel
theorem dX12_typeTerms_144 : decode cX12_typeTerms 144 = .ok (.isub, 1) := by decide +kernel
theorem dX12_typeTerms_145 : decode cX12_typeTerms 145 = .ok (.putfield 321, 3) := by decide +kernel
theorem dX12_typeTerms_148 : decode cX12_typeTerms 148 = .ok (.goto (-137), 3) := by decide +kernel
theorem dX12_typeTerms_151 : decode cX12_typeTerms 151 = .ok (.return_, 1) := by decide +kernel
theorem dX12_beginTyping_0 : decode cX12_beginTyping 0 = .ok (.aload_n 0, 1) := by decide +kernel
theorem dX12_beginTyping_1 : decode cX12_beginTyping 1 = .ok (.getfield 130, 3) := by decide +kernel
theorem dX12_beginTyping_4 : decode cX12_beginTyping 4 = .ok (.aload_n 0, 1) := by decide +kernel
theorem dX12_beginTyping_5 : decode cX12_beginTyping 5 = .ok (.getfield 321, 3) := by decide +kernel
theorem dX12_beginTyping_8 : decode cX12_beginTyping 8 = .ok (.iload_n 1, 1) := by decide +kernel
theorem dX12_beginTyping_9 : decode cX12_beginTyping 9 = .ok (.iastore, 1) := by decide +kernel
theorem dX12_beginTyping_10 : decode cX12_beginTyping 10 = .ok (.aload_n 0, 1) := by decide +kernel
theorem dX12_beginTyping_11 : decode cX12_beginTyping 11 = .ok (.getfield 133, 3) := by decide +kernel
theorem dX12_beginTyping_14 : decode cX12_beginTyping 14 = .ok (.aload_n 0, 1) := by decide +kernel
theorem dX12_beginTyping_15 : decode cX12_beginTyping 15 = .ok (.getfield 321, 3) := by decide +kernel
theorem dX12_beginTyping_18 : decode cX12_beginTyping 18 = .ok (.iconst 0, 1) := by decide +kernel
theorem dX12_beginTyping_19 : decode cX12_beginTyping 19 = .ok (.iastore, 1) := by decide +kernel
theorem dX12_beginTyping_20 : decode cX12_beginTyping 20 = .ok (.aload_n 0, 1) := by decide +kernel
theorem dX12_beginTyping_21 : decode cX12_beginTyping 21 = .ok (.getfield 136, 3) := by decide +kernel
theorem dX12_beginTyping_24 : decode cX12_beginTyping 24 = .ok (.aload_n 0, 1) := by decide +kernel
theorem dX12_beginTyping_25 : decode cX12_beginTyping 25 = .ok (.getfield 321, 3) := by decide +kernel
theorem dX12_beginTyping_28 : decode cX12_beginTyping 28 = .ok (.iload_n 2, 1) := by decide +kernel
theorem dX12_beginTyping_29 : decode cX12_beginTyping 29 = .ok (.iastore, 1) := by decide +kernel
theorem dX12_beginTyping_30 : decode cX12_beginTyping 30 = .ok (.aload_n 0, 1) := by decide +kernel
theorem dX12_beginTyping_31 : decode cX12_beginTyping 31 = .ok (.dup, 1) := by decide +kernel
theorem dX12_beginTyping_32 : decode cX12_beginTyping 32 = .ok (.getfield 321, 3) := by decide +kernel
theorem dX12_beginTyping_35 : decode cX12_beginTyping 35 = .ok (.iconst 1, 1) := by decide +kernel
theorem dX12_beginTyping_36 : decode cX12_beginTyping 36 = .ok (.iadd, 1) := by decide +kernel
theorem dX12_beginTyping_37 : decode cX12_beginTyping 37 = .ok (.putfield 321, 3) := by decide +kernel
theorem dX12_beginTyping_40 : decode cX12_beginTyping 40 = .ok (.return_, 1) := by decide +kernel
theorem dX12_bindFor_0 : decode cX12_bindFor 0 = .ok (.aload_n 0, 1) := by decide +kernel
theorem dX12_bindFor_1 : decode cX12_bindFor 1 = .ok (.getfield 82, 3) := by decide +kernel
theorem dX12_bindFor_4 : decode cX12_bindFor 4 = .ok (.iload_n 1, 1) := by decide +kernel
theorem dX12_bindFor_5 : decode cX12_bindFor 5 = .ok (.iaload, 1) := by decide +kernel
theorem dX12_bindFor_6 : decode cX12_bindFor 6 = .ok (.bipush 21, 2) := by decide +kernel
theorem dX12_bindFor_8 : decode cX12_bindFor 8 = .ok (.if_icmp .eq 14, 3) := by decide +kernel
theorem dX12_bindFor_11 : decode cX12_bindFor 11 = .ok (.aload_n 0, 1) := by decide +kernel
theorem dX12_bindFor_12 : decode cX12_bindFor 12 = .ok (.getfield 82, 3) := by decide +kernel
theorem dX12_bindFor_15 : decode cX12_bindFor 15 = .ok (.iload_n 1, 1) := by decide +kernel
theorem dX12_bindFor_16 : decode cX12_bindFor 16 = .ok (.iaload, 1) := by decide +kernel
theorem dX12_bindFor_17 : decode cX12_bindFor 17 = .ok (.bipush 33, 2) := by decide +kernel
theorem dX12_bindFor_19 : decode cX12_bindFor 19 = .ok (.if_icmp .ne 10, 3) := by decide +kernel
theorem dX12_bindFor_22 : decode cX12_bindFor 22 = .ok (.aload_n 0, 1) := by decide +kernel
theorem dX12_bindFor_23 : decode cX12_bindFor 23 = .ok (.getfield 88, 3) := by decide +kernel
theorem dX12_bindFor_26 : decode cX12_bindFor 26 = .ok (.iload_n 1, 1) := by decide +kernel
theorem dX12_bindFor_27 : decode cX12_bindFor 27 = .ok (.iaload, 1) := by decide +kernel
theorem dX12_bindFor_28 : decode cX12_bindFor 28 = .ok (.ireturn, 1) := by decide +kernel
theorem dX12_bindFor_29 : decode cX12_bindFor 29 = .ok (.aload_n 0, 1) := by decide +kernel
theorem dX12_bindFor_30 : decode cX12_bindFor 30 = .ok (.getfield 82, 3) := by decide +kernel
theorem dX12_bindFor_33 : decode cX12_bindFor 33 = .ok (.iload_n 1, 1) := by decide +kernel
theorem dX12_bindFor_34 : decode cX12_bindFor 34 = .ok (.iaload, 1) := by decide +kernel
theorem dX12_bindFor_35 : decode cX12_bindFor 35 = .ok (.bipush 32, 2) := by decide +kernel
theorem dX12_bindFor_37 : decode cX12_bindFor 37 = .ok (.if_icmp .ne 7, 3) := by decide +kernel
theorem dX12_bindFor_40 : decode cX12_bindFor 40 = .ok (.iload_n 2, 1) := by decide +kernel
theorem dX12_bindFor_41 : decode cX12_bindFor 41 = .ok (.ifCond .ne 5, 3) := by decide +kernel
theorem dX12_bindFor_44 : decode cX12_bindFor 44 = .ok (.iconst (-1), 1) := by decide +kernel
theorem dX12_bindFor_45 : decode cX12_bindFor 45 = .ok (.ireturn, 1) := by decide +kernel
theorem dX12_bindFor_46 : decode cX12_bindFor 46 = .ok (.aload_n 0, 1) := by decide +kernel
theorem dX12_bindFor_47 : decode cX12_bindFor 47 = .ok (.iload_n 1, 1) := by decide +kernel
theorem dX12_bindFor_48 : decode cX12_bindFor 48 = .ok (.aload_n 0, 1) := by decide +kernel
theorem dX12_bindFor_49 : decode cX12_bindFor 49 = .ok (.getfield 100, 3) := by decide +kernel
theorem dX12_bindFor_52 : decode cX12_bindFor 52 = .ok (.iload_n 1, 1) := by decide +kernel
theorem dX12_bindFor_53 : decode cX12_bindFor 53 = .ok (.iaload, 1) := by decide +kernel
theorem dX12_bindFor_54 : decode cX12_bindFor 54 = .ok (.iconst 1, 1) := by decide +kernel
theorem dX12_bindFor_55 : decode cX12_bindFor 55 = .ok (.isub, 1) := by decide +kernel
theorem dX12_bindFor_56 : decode cX12_bindFor 56 = .ok (.invokevirtual 337, 3) := by decide +kernel
theorem dX12_bindFor_59 : decode cX12_bindFor 59 = .ok (.istore_n 3, 1) := by decide +kernel
theorem dX12_bindFor_60 : decode cX12_bindFor 60 = .ok (.aload_n 0, 1) := by decide +kernel
theorem dX12_bindFor_61 : decode cX12_bindFor 61 = .ok (.getfield 97, 3) := by decide +kernel
theorem dX12_bindFor_64 : decode cX12_bindFor 64 = .ok (.bipush 9, 2) := by decide +kernel
theorem dX12_bindFor_66 : decode cX12_bindFor 66 = .ok (.iload_n 1, 1) := by decide +kernel
theorem dX12_bindFor_67 : decode cX12_bindFor 67 = .ok (.imul, 1) := by decide +kernel
theorem dX12_bindFor_68 : decode cX12_bindFor 68 = .ok (.iload_n 2, 1) := by decide +kernel
theorem dX12_bindFor_69 : decode cX12_bindFor 69 = .ok (.iadd, 1) := by decide +kernel
theorem dX12_bindFor_70 : decode cX12_bindFor 70 = .ok (.iconst 1, 1) := by decide +kernel
theorem dX12_bindFor_71 : decode cX12_bindFor 71 = .ok (.isub, 1) := by decide +kernel
theorem dX12_bindFor_72 : decode cX12_bindFor 72 = .ok (.iaload, 1) := by decide +kernel
theorem dX12_bindFor_73 : decode cX12_bindFor 73 = .ok (.istore 4, 2) := by decide +kernel
theorem dX12_bindFor_75 : decode cX12_bindFor 75 = .ok (.aload_n 0, 1) := by decide +kernel
theorem dX12_bindFor_76 : decode cX12_bindFor 76 = .ok (.getfield 17, 3) := by decide +kernel
theorem dX12_bindFor_79 : decode cX12_bindFor 79 = .ok (.iload_n 3, 1) := by decide +kernel
theorem dX12_bindFor_80 : decode cX12_bindFor 80 = .ok (.iaload, 1) := by decide +kernel
theorem dX12_bindFor_81 : decode cX12_bindFor 81 = .ok (.bipush 6, 2) := by decide +kernel
theorem dX12_bindFor_83 : decode cX12_bindFor 83 = .ok (.if_icmp .ne 22, 3) := by decide +kernel
theorem dX12_bindFor_86 : decode cX12_bindFor 86 = .ok (.aload_n 0, 1) := by decide +kernel
theorem dX12_bindFor_87 : decode cX12_bindFor 87 = .ok (.getfield 20, 3) := by decide +kernel
theorem dX12_bindFor_90 : decode cX12_bindFor 90 = .ok (.iload_n 3, 1) := by decide +kernel
theorem dX12_bindFor_91 : decode cX12_bindFor 91 = .ok (.iaload, 1) := by decide +kernel
theorem dX12_bindFor_92 : decode cX12_bindFor 92 = .ok (.iload 4, 2) := by decide +kernel
theorem dX12_bindFor_94 : decode cX12_bindFor 94 = .ok (.ishr, 1) := by decide +kernel
theorem dX12_bindFor_95 : decode cX12_bindFor 95 = .ok (.iconst 1, 1) := by decide +kernel
theorem dX12_bindFor_96 : decode cX12_bindFor 96 = .ok (.iand, 1) := by decide +kernel
theorem dX12_bindFor_97 : decode cX12_bindFor 97 = .ok (.iconst 1, 1) := by decide +kernel
theorem dX12_bindFor_98 : decode cX12_bindFor 98 = .ok (.if_icmp .ne 7, 3) := by decide +kernel
theorem dX12_bindFor_101 : decode cX12_bindFor 101 = .ok (.iconst 1, 1) := by decide +kernel
theorem dX12_bindFor_102 : decode cX12_bindFor 102 = .ok (.goto 4, 3) := by decide +kernel
theorem dX12_bindFor_105 : decode cX12_bindFor 105 = .ok (.iconst 0, 1) := by decide +kernel
theorem dX12_bindFor_106 : decode cX12_bindFor 106 = .ok (.istore 5, 2) := by decide +kernel
theorem dX12_bindFor_108 : decode cX12_bindFor 108 = .ok (.iload 5, 2) := by decide +kernel
theorem dX12_bindFor_110 : decode cX12_bindFor 110 = .ok (.ifCond .eq 13, 3) := by decide +kernel
theorem dX12_bindFor_113 : decode cX12_bindFor 113 = .ok (.aload_n 0, 1) := by decide +kernel
theorem dX12_bindFor_114 : decode cX12_bindFor 114 = .ok (.iload_n 3, 1) := by decide +kernel
theorem dX12_bindFor_115 : decode cX12_bindFor 115 = .ok (.iload 4, 2) := by decide +kernel
theorem dX12_bindFor_117 : decode cX12_bindFor 117 = .ok (.invokevirtual 242, 3) := by decide +kernel
theorem dX12_bindFor_120 : decode cX12_bindFor 120 = .ok (.goto 8, 3) := by decide +kernel
theorem dX12_bindFor_123 : decode cX12_bindFor 123 = .ok (.aload_n 0, 1) := by decide +kernel
theorem dX12_bindFor_124 : decode cX12_bindFor 124 = .ok (.iconst 1, 1) := by decide +kernel
theorem dX12_bindFor_125 : decode cX12_bindFor 125 = .ok (.invokevirtual 340, 3) := by decide +kernel
theorem dX12_bindFor_128 : decode cX12_bindFor 128 = .ok (.ireturn, 1) := by decide +kernel
theorem dX12_misfit_0 : decode cX12_misfit 0 = .ok (.aload_n 0, 1) := by decide +kernel
theorem dX12_misfit_1 : decode cX12_misfit 1 = .ok (.bipush (-15), 2) := by decide +kernel
theorem dX12_misfit_3 : decode cX12_misfit 3 = .ok (.putfield 201, 3) := by decide +kernel
theorem dX12_misfit_6 : decode cX12_misfit 6 = .ok (.aload_n 0, 1) := by decide +kernel
theorem dX12_misfit_7 : decode cX12_misfit 7 = .ok (.aload_n 0, 1) := by decide +kernel
theorem dX12_misfit_8 : decode cX12_misfit 8 = .ok (.getfield 85, 3) := by decide +kernel
theorem dX12_misfit_11 : decode cX12_misfit 11 = .ok (.iload_n 1, 1) := by decide +kernel
theorem dX12_misfit_12 : decode cX12_misfit 12 = .ok (.iaload, 1) := by decide +kernel
theorem dX12_misfit_13 : decode cX12_misfit 13 = .ok (.putfield 13, 3) := by decide +kernel
theorem dX12_misfit_16 : decode cX12_misfit 16 = .ok (.iconst 0, 1) := by decide +kernel
theorem dX12_misfit_17 : decode cX12_misfit 17 = .ok (.ireturn, 1) := by decide +kernel
theorem dX12_isKind_0 : decode cX12_isKind 0 = .ok (.aload_n 0, 1) := by decide +kernel
theorem dX12_isKind_1 : decode cX12_isKind 1 = .ok (.getfield 17, 3) := by decide +kernel
theorem dX12_isKind_4 : decode cX12_isKind 4 = .ok (.iload_n 1, 1) := by decide +kernel
theorem dX12_isKind_5 : decode cX12_isKind 5 = .ok (.iaload, 1) := by decide +kernel
theorem dX12_isKind_6 : decode cX12_isKind 6 = .ok (.iconst 1, 1) := by decide +kernel
theorem dX12_isKind_7 : decode cX12_isKind 7 = .ok (.if_icmp .eq 13, 3) := by decide +kernel
theorem dX12_isKind_10 : decode cX12_isKind 10 = .ok (.aload_n 0, 1) := by decide +kernel
theorem dX12_isKind_11 : decode cX12_isKind 11 = .ok (.getfield 17, 3) := by decide +kernel
theorem dX12_isKind_14 : decode cX12_isKind 14 = .ok (.iload_n 1, 1) := by decide +kernel
theorem dX12_isKind_15 : decode cX12_isKind 15 = .ok (.iaload, 1) := by decide +kernel
theorem dX12_isKind_16 : decode cX12_isKind 16 = .ok (.iload_n 2, 1) := by decide +kernel
theorem dX12_isKind_17 : decode cX12_isKind 17 = .ok (.if_icmp .ne 7, 3) := by decide +kernel
theorem dX12_isKind_20 : decode cX12_isKind 20 = .ok (.iconst 1, 1) := by decide +kernel
theorem dX12_isKind_21 : decode cX12_isKind 21 = .ok (.goto 4, 3) := by decide +kernel
theorem dX12_isKind_24 : decode cX12_isKind 24 = .ok (.iconst 0, 1) := by decide +kernel
theorem dX12_isKind_25 : decode cX12_isKind 25 = .ok (.ireturn, 1) := by decide +kernel
theorem dX12_typeDone_0 : decode cX12_typeDone 0 = .ok (.aload_n 0, 1) := by decide +kernel
theorem dX12_typeDone_1 : decode cX12_typeDone 1 = .ok (.getfield 82, 3) := by decide +kernel
theorem dX12_typeDone_4 : decode cX12_typeDone 4 = .ok (.iload_n 1, 1) := by decide +kernel
theorem dX12_typeDone_5 : decode cX12_typeDone 5 = .ok (.iaload, 1) := by decide +kernel
theorem dX12_typeDone_6 : decode cX12_typeDone 6 = .ok (.tableswitch 424 20 32 #[66, 82, 162, 168, 174, 174, 241, 241, 247, 286, 292, 374, 418], 66) := by decide +kernel
theorem dX12_typeDone_72 : decode cX12_typeDone 72 = .ok (.aload_n 0, 1) := by decide +kernel
theorem dX12_typeDone_73 : decode cX12_typeDone 73 = .ok (.getfield 142, 3) := by decide +kernel
theorem dX12_typeDone_76 : decode cX12_typeDone 76 = .ok (.iload_n 2, 1) := by decide +kernel
theorem dX12_typeDone_77 : decode cX12_typeDone 77 = .ok (.iconst 1, 1) := by decide +kernel
theorem dX12_typeDone_78 : decode cX12_typeDone 78 = .ok (.isub, 1) := by decide +kernel
theorem dX12_typeDone_79 : decode cX12_typeDone 79 = .ok (.aload_n 0, 1) := by decide +kernel
theorem dX12_typeDone_80 : decode cX12_typeDone 80 = .ok (.getfield 88, 3) := by decide +kernel
theorem dX12_typeDone_83 : decode cX12_typeDone 83 = .ok (.iload_n 1, 1) := by decide +kernel
theorem dX12_typeDone_84 : decode cX12_typeDone 84 = .ok (.iaload, 1) := by decide +kernel
theorem dX12_typeDone_85 : decode cX12_typeDone 85 = .ok (.isub, 1) := by decide +kernel
theorem dX12_typeDone_86 : decode cX12_typeDone 86 = .ok (.iaload, 1) := by decide +kernel
theorem dX12_typeDone_87 : decode cX12_typeDone 87 = .ok (.ireturn, 1) := by decide +kernel
theorem dX12_typeDone_88 : decode cX12_typeDone 88 = .ok (.aload_n 0, 1) := by decide +kernel
theorem dX12_typeDone_89 : decode cX12_typeDone 89 = .ok (.iconst 4, 1) := by decide +kernel
theorem dX12_typeDone_90 : decode cX12_typeDone 90 = .ok (.invokevirtual 340, 3) := by decide +kernel
theorem dX12_typeDone_93 : decode cX12_typeDone 93 = .ok (.istore_n 3, 1) := by decide +kernel
theorem dX12_typeDone_94 : decode cX12_typeDone 94 = .ok (.aload_n 0, 1) := by decide +kernel
theorem dX12_typeDone_95 : decode cX12_typeDone 95 = .ok (.getfield 23, 3) := by decide +kernel
theorem dX12_typeDone_98 : decode cX12_typeDone 98 = .ok (.bipush 8, 2) := by decide +kernel
theorem dX12_typeDone_100 : decode cX12_typeDone 100 = .ok (.iload_n 3, 1) := by decide +kernel
theorem dX12_typeDone_101 : decode cX12_typeDone 101 = .ok (.imul, 1) := by decide +kernel
theorem dX12_typeDone_102 : decode cX12_typeDone 102 = .ok (.aload_n 0, 1) := by decide +kernel
theorem dX12_typeDone_103 : decode cX12_typeDone 103 = .ok (.getfield 201, 3) := by decide +kernel
theorem dX12_typeDone_106 : decode cX12_typeDone 106 = .ok (.ifCond .ne 12, 3) := by decide +kernel
theorem dX12_typeDone_109 : decode cX12_typeDone 109 = .ok (.aload_n 0, 1) := by decide +kernel
theorem dX12_typeDone_110 : decode cX12_typeDone 110 = .ok (.getfield 88, 3) := by decide +kernel
theorem dX12_typeDone_113 : decode cX12_typeDone 113 = .ok (.iload_n 1, 1) := by decide +kernel
theorem dX12_typeDone_114 : decode cX12_typeDone 114 = .ok (.iaload, 1) := by decide +kernel
theorem dX12_typeDone_115 : decode cX12_typeDone 115 = .ok (.goto 12, 3) := by decide +kernel
theorem dX12_typeDone_118 : decode cX12_typeDone 118 = .ok (.aload_n 0, 1) := by decide +kernel
theorem dX12_typeDone_119 : decode cX12_typeDone 119 = .ok (.getfield 23, 3) := by decide +kernel
theorem dX12_typeDone_122 : decode cX12_typeDone 122 = .ok (.bipush 8, 2) := by decide +kernel
theorem dX12_typeDone_124 : decode cX12_typeDone 124 = .ok (.iload_n 3, 1) := by decide +kernel
theorem dX12_typeDone_125 : decode cX12_typeDone 125 = .ok (.imul, 1) := by decide +kernel
theorem dX12_typeDone_126 : decode cX12_typeDone 126 = .ok (.iaload, 1) := by decide +kernel
theorem dX12_typeDone_127 : decode cX12_typeDone 127 = .ok (.iastore, 1) := by decide +kernel
theorem dX12_typeDone_128 : decode cX12_typeDone 128 = .ok (.aload_n 0, 1) := by decide +kernel
theorem dX12_typeDone_129 : decode cX12_typeDone 129 = .ok (.getfield 23, 3) := by decide +kernel
theorem dX12_typeDone_132 : decode cX12_typeDone 132 = .ok (.bipush 8, 2) := by decide +kernel
theorem dX12_typeDone_134 : decode cX12_typeDone 134 = .ok (.iload_n 3, 1) := by decide +kernel
theorem dX12_typeDone_135 : decode cX12_typeDone 135 = .ok (.imul, 1) := by decide +kernel
theorem dX12_typeDone_136 : decode cX12_typeDone 136 = .ok (.iconst 1, 1) := by decide +kernel
theorem dX12_typeDone_137 : decode cX12_typeDone 137 = .ok (.iadd, 1) := by decide +kernel
theorem dX12_typeDone_138 : decode cX12_typeDone 138 = .ok (.aload_n 0, 1) := by decide +kernel
theorem dX12_typeDone_139 : decode cX12_typeDone 139 = .ok (.getfield 201, 3) := by decide +kernel
theorem dX12_typeDone_142 : decode cX12_typeDone 142 = .ok (.ifCond .ne 12, 3) := by decide +kernel
theorem dX12_typeDone_145 : decode cX12_typeDone 145 = .ok (.aload_n 0, 1) := by decide +kernel
theorem dX12_typeDone_146 : decode cX12_typeDone 146 = .ok (.iload_n 1, 1) := by decide +kernel
theorem dX12_typeDone_147 : decode cX12_typeDone 147 = .ok (.iconst 0, 1) := by decide +kernel
theorem dX12_typeDone_148 : decode cX12_typeDone 148 = .ok (.invokevirtual 337, 3) := by decide +kernel
theorem dX12_typeDone_151 : decode cX12_typeDone 151 = .ok (.goto 14, 3) := by decide +kernel
theorem dX12_typeDone_154 : decode cX12_typeDone 154 = .ok (.aload_n 0, 1) := by decide +kernel
theorem dX12_typeDone_155 : decode cX12_typeDone 155 = .ok (.getfield 23, 3) := by decide +kernel
theorem dX12_typeDone_158 : decode cX12_typeDone 158 = .ok (.bipush 8, 2) := by decide +kernel
theorem dX12_typeDone_160 : decode cX12_typeDone 160 = .ok (.iload_n 3, 1) := by decide +kernel
theorem dX12_typeDone_161 : decode cX12_typeDone 161 = .ok (.imul, 1) := by decide +kernel
theorem dX12_typeDone_162 : decode cX12_typeDone 162 = .ok (.iconst 1, 1) := by decide +kernel
theorem dX12_typeDone_163 : decode cX12_typeDone 163 = .ok (.iadd, 1) := by decide +kernel
theorem dX12_typeDone_164 : decode cX12_typeDone 164 = .ok (.iaload, 1) := by decide +kernel
theorem dX12_typeDone_165 : decode cX12_typeDone 165 = .ok (.iastore, 1) := by decide +kernel
theorem dX12_typeDone_166 : decode cX12_typeDone 166 = .ok (.iload_n 3, 1) := by decide +kernel
theorem dX12_typeDone_167 : decode cX12_typeDone 167 = .ok (.ireturn, 1) := by decide +kernel
theorem dX12_typeDone_168 : decode cX12_typeDone 168 = .ok (.aload_n 0, 1) := by decide +kernel
theorem dX12_typeDone_169 : decode cX12_typeDone 169 = .ok (.iload_n 1, 1) := by decide +kernel
theorem dX12_typeDone_170 : decode cX12_typeDone 170 = .ok (.invokevirtual 343, 3) := by decide +kernel
theorem dX12_typeDone_173 : decode cX12_typeDone 173 = .ok (.ireturn, 1) := by decide +kernel
theorem dX12_typeDone_174 : decode cX12_typeDone 174 = .ok (.aload_n 0, 1) := by decide +kernel
theorem dX12_typeDone_175 : decode cX12_typeDone 175 = .ok (.iconst 2, 1) := by decide +kernel
theorem dX12_typeDone_176 : decode cX12_typeDone 176 = .ok (.invokevirtual 340, 3) := by decide +kernel
theorem dX12_typeDone_179 : decode cX12_typeDone 179 = .ok (.ireturn, 1) := by decide +kernel
theorem dX12_typeDone_180 : decode cX12_typeDone 180 = .ok (.aload_n 0, 1) := by decide +kernel
theorem dX12_typeDone_181 : decode cX12_typeDone 181 = .ok (.aload_n 0, 1) := by decide +kernel
theorem dX12_typeDone_182 : decode cX12_typeDone 182 = .ok (.iload_n 1, 1) := by decide +kernel
theorem dX12_typeDone_183 : decode cX12_typeDone 183 = .ok (.iconst 0, 1) := by decide +kernel
theorem dX12_typeDone_184 : decode cX12_typeDone 184 = .ok (.invokevirtual 337, 3) := by decide +kernel
theorem dX12_typeDone_187 : decode cX12_typeDone 187 = .ok (.iconst 2, 1) := by decide +kernel
theorem dX12_typeDone_188 : decode cX12_typeDone 188 = .ok (.invokevirtual 346, 3) := by decide +kernel
theorem dX12_typeDone_191 : decode cX12_typeDone 191 = .ok (.ifCond .eq 21, 3) := by decide +kernel
theorem dX12_typeDone_194 : decode cX12_typeDone 194 = .ok (.aload_n 0, 1) := by decide +kernel
theorem dX12_typeDone_195 : decode cX12_typeDone 195 = .ok (.aload_n 0, 1) := by decide +kernel
theorem dX12_typeDone_196 : decode cX12_typeDone 196 = .ok (.iload_n 1, 1) := by decide +kernel
theorem dX12_typeDone_197 : decode cX12_typeDone 197 = .ok (.iconst 1, 1) := by decide +kernel
theorem dX12_typeDone_198 : decode cX12_typeDone 198 = .ok (.invokevirtual 337, 3) := by decide +kernel
theorem dX12_typeDone_201 : decode cX12_typeDone 201 = .ok (.iconst 2, 1) := by decide +kernel
theorem dX12_typeDone_202 : decode cX12_typeDone 202 = .ok (.invokevirtual 346, 3) := by decide +kernel
theorem dX12_typeDone_205 : decode cX12_typeDone 205 = .ok (.ifCond .eq 7, 3) := by decide +kernel
theorem dX12_typeDone_208 : decode cX12_typeDone 208 = .ok (.iconst 1, 1) := by decide +kernel
theorem dX12_typeDone_209 : decode cX12_typeDone 209 = .ok (.goto 4, 3) := by decide +kernel
theorem dX12_typeDone_212 : decode cX12_typeDone 212 = .ok (.iconst 0, 1) := by decide +kernel
theorem dX12_typeDone_213 : decode cX12_typeDone 213 = .ok (.istore_n 3, 1) := by decide +kernel
theorem dX12_typeDone_214 : decode cX12_typeDone 214 = .ok (.iload_n 3, 1) := by decide +kernel
theorem dX12_typeDone_215 : decode cX12_typeDone 215 = .ok (.ifCond .eq 26, 3) := by decide +kernel
theorem dX12_typeDone_218 : decode cX12_typeDone 218 = .ok (.aload_n 0, 1) := by decide +kernel
theorem dX12_typeDone_219 : decode cX12_typeDone 219 = .ok (.aload_n 0, 1) := by decide +kernel
theorem dX12_typeDone_220 : decode cX12_typeDone 220 = .ok (.getfield 82, 3) := by decide +kernel
theorem dX12_typeDone_223 : decode cX12_typeDone 223 = .ok (.iload_n 1, 1) := by decide +kernel
theorem dX12_typeDone_224 : decode cX12_typeDone 224 = .ok (.iaload, 1) := by decide +kernel
theorem dX12_typeDone_225 : decode cX12_typeDone 225 = .ok (.bipush 24, 2) := by decide +kernel
theorem dX12_typeDone_227 : decode cX12_typeDone 227 = .ok (.if_icmp .ne 7, 3) := by decide +kernel
theorem dX12_typeDone_230 : decode cX12_typeDone 230 = .ok (.iconst 2, 1) := by decide +kernel
theorem dX12_typeDone_231 : decode cX12_typeDone 231 = .ok (.goto 4, 3) := by decide +kernel
theorem dX12_typeDone_234 : decode cX12_typeDone 234 = .ok (.iconst 3, 1) := by decide +kernel
theorem dX12_typeDone_235 : decode cX12_typeDone 235 = .ok (.invokevirtual 340, 3) := by decide +kernel
theorem dX12_typeDone_238 : decode cX12_typeDone 238 = .ok (.goto 8, 3) := by decide +kernel
theorem dX12_typeDone_241 : decode cX12_typeDone 241 = .ok (.aload_n 0, 1) := by decide +kernel
theorem dX12_typeDone_242 : decode cX12_typeDone 242 = .ok (.iload_n 1, 1) := by decide +kernel
theorem dX12_typeDone_243 : decode cX12_typeDone 243 = .ok (.invokevirtual 349, 3) := by decide +kernel
theorem dX12_typeDone_246 : decode cX12_typeDone 246 = .ok (.ireturn, 1) := by decide +kernel
theorem dX12_typeDone_247 : decode cX12_typeDone 247 = .ok (.aload_n 0, 1) := by decide +kernel
theorem dX12_typeDone_248 : decode cX12_typeDone 248 = .ok (.iconst 3, 1) := by decide +kernel
theorem dX12_typeDone_249 : decode cX12_typeDone 249 = .ok (.invokevirtual 340, 3) := by decide +kernel
theorem dX12_typeDone_252 : decode cX12_typeDone 252 = .ok (.ireturn, 1) := by decide +kernel
theorem dX12_typeDone_253 : decode cX12_typeDone 253 = .ok (.aload_n 0, 1) := by decide +kernel
theorem dX12_typeDone_254 : decode cX12_typeDone 254 = .ok (.aload_n 0, 1) := by decide +kernel
theorem dX12_typeDone_255 : decode cX12_typeDone 255 = .ok (.iload_n 1, 1) := by decide +kernel
theorem dX12_typeDone_256 : decode cX12_typeDone 256 = .ok (.iconst 0, 1) := by decide +kernel
theorem dX12_typeDone_257 : decode cX12_typeDone 257 = .ok (.invokevirtual 337, 3) := by decide +kernel
theorem dX12_typeDone_260 : decode cX12_typeDone 260 = .ok (.iconst 3, 1) := by decide +kernel
theorem dX12_typeDone_261 : decode cX12_typeDone 261 = .ok (.invokevirtual 346, 3) := by decide +kernel
theorem dX12_typeDone_264 : decode cX12_typeDone 264 = .ok (.ifCond .eq 22, 3) := by decide +kernel
theorem dX12_typeDone_267 : decode cX12_typeDone 267 = .ok (.aload_n 0, 1) := by decide +kernel
theorem dX12_typeDone_268 : decode cX12_typeDone 268 = .ok (.aload_n 0, 1) := by decide +kernel
theorem dX12_typeDone_269 : decode cX12_typeDone 269 = .ok (.iload_n 1, 1) := by decide +kernel
theorem dX12_typeDone_270 : decode cX12_typeDone 270 = .ok (.iconst 1, 1) := by decide +kernel
theorem dX12_typeDone_271 : decode cX12_typeDone 271 = .ok (.invokevirtual 337, 3) := by decide +kernel
theorem dX12_typeDone_274 : decode cX12_typeDone 274 = .ok (.aload_n 0, 1) := by decide +kernel
theorem dX12_typeDone_275 : decode cX12_typeDone 275 = .ok (.iload_n 1, 1) := by decide +kernel
theorem dX12_typeDone_276 : decode cX12_typeDone 276 = .ok (.iconst 2, 1) := by decide +kernel
theorem dX12_typeDone_277 : decode cX12_typeDone 277 = .ok (.invokevirtual 337, 3) := by decide +kernel
theorem dX12_typeDone_280 : decode cX12_typeDone 280 = .ok (.invokevirtual 352, 3) := by decide +kernel
theorem dX12_typeDone_283 : decode cX12_typeDone 283 = .ok (.goto 8, 3) := by decide +kernel
theorem dX12_typeDone_286 : decode cX12_typeDone 286 = .ok (.aload_n 0, 1) := by decide +kernel
theorem dX12_typeDone_287 : decode cX12_typeDone 287 = .ok (.iload_n 1, 1) := by decide +kernel
theorem dX12_typeDone_288 : decode cX12_typeDone 288 = .ok (.invokevirtual 349, 3) := by decide +kernel
theorem dX12_typeDone_291 : decode cX12_typeDone 291 = .ok (.ireturn, 1) := by decide +kernel
theorem dX12_typeDone_292 : decode cX12_typeDone 292 = .ok (.aload_n 0, 1) := by decide +kernel
theorem dX12_typeDone_293 : decode cX12_typeDone 293 = .ok (.iload_n 1, 1) := by decide +kernel
theorem dX12_typeDone_294 : decode cX12_typeDone 294 = .ok (.invokevirtual 355, 3) := by decide +kernel
theorem dX12_typeDone_297 : decode cX12_typeDone 297 = .ok (.ireturn, 1) := by decide +kernel
theorem dX12_typeDone_298 : decode cX12_typeDone 298 = .ok (.aload_n 0, 1) := by decide +kernel
theorem dX12_typeDone_299 : decode cX12_typeDone 299 = .ok (.iload_n 1, 1) := by decide +kernel
theorem dX12_typeDone_300 : decode cX12_typeDone 300 = .ok (.iconst 0, 1) := by decide +kernel
theorem dX12_typeDone_301 : decode cX12_typeDone 301 = .ok (.invokevirtual 337, 3) := by decide +kernel
theorem dX12_typeDone_304 : decode cX12_typeDone 304 = .ok (.istore_n 3, 1) := by decide +kernel
theorem dX12_typeDone_305 : decode cX12_typeDone 305 = .ok (.aload_n 0, 1) := by decide +kernel
theorem dX12_typeDone_306 : decode cX12_typeDone 306 = .ok (.getfield 17, 3) := by decide +kernel
theorem dX12_typeDone_309 : decode cX12_typeDone 309 = .ok (.iload_n 3, 1) := by decide +kernel
theorem dX12_typeDone_310 : decode cX12_typeDone 310 = .ok (.iaload, 1) := by decide +kernel
theorem dX12_typeDone_311 : decode cX12_typeDone 311 = .ok (.iconst 5, 1) := by decide +kernel
theorem dX12_typeDone_312 : decode cX12_typeDone 312 = .ok (.if_icmp .ne 26, 3) := by decide +kernel
theorem dX12_typeDone_315 : decode cX12_typeDone 315 = .ok (.aload_n 0, 1) := by decide +kernel
theorem dX12_typeDone_316 : decode cX12_typeDone 316 = .ok (.getfield 20, 3) := by decide +kernel
theorem dX12_typeDone_319 : decode cX12_typeDone 319 = .ok (.iload_n 3, 1) := by decide +kernel
theorem dX12_typeDone_320 : decode cX12_typeDone 320 = .ok (.iaload, 1) := by decide +kernel
theorem dX12_typeDone_321 : decode cX12_typeDone 321 = .ok (.aload_n 0, 1) := by decide +kernel
theorem dX12_typeDone_322 : decode cX12_typeDone 322 = .ok (.getfield 91, 3) := by decide +kernel
theorem dX12_typeDone_325 : decode cX12_typeDone 325 = .ok (.iload_n 1, 1) := by decide +kernel
theorem dX12_typeDone_326 : decode cX12_typeDone 326 = .ok (.iaload, 1) := by decide +kernel
theorem dX12_typeDone_327 : decode cX12_typeDone 327 = .ok (.ishr, 1) := by decide +kernel
theorem dX12_typeDone_328 : decode cX12_typeDone 328 = .ok (.iconst 1, 1) := by decide +kernel
theorem dX12_typeDone_329 : decode cX12_typeDone 329 = .ok (.iand, 1) := by decide +kernel
theorem dX12_typeDone_330 : decode cX12_typeDone 330 = .ok (.iconst 1, 1) := by decide +kernel
theorem dX12_typeDone_331 : decode cX12_typeDone 331 = .ok (.if_icmp .ne 7, 3) := by decide +kernel
theorem dX12_typeDone_334 : decode cX12_typeDone 334 = .ok (.iconst 1, 1) := by decide +kernel
theorem dX12_typeDone_335 : decode cX12_typeDone 335 = .ok (.goto 4, 3) := by decide +kernel
theorem dX12_typeDone_338 : decode cX12_typeDone 338 = .ok (.iconst 0, 1) := by decide +kernel
theorem dX12_typeDone_339 : decode cX12_typeDone 339 = .ok (.istore 4, 2) := by decide +kernel
theorem dX12_typeDone_341 : decode cX12_typeDone 341 = .ok (.aload_n 0, 1) := by decide +kernel
theorem dX12_typeDone_342 : decode cX12_typeDone 342 = .ok (.getfield 17, 3) := by decide +kernel
theorem dX12_typeDone_345 : decode cX12_typeDone 345 = .ok (.iload_n 3, 1) := by decide +kernel
theorem dX12_typeDone_346 : decode cX12_typeDone 346 = .ok (.iaload, 1) := by decide +kernel
theorem dX12_typeDone_347 : decode cX12_typeDone 347 = .ok (.iconst 1, 1) := by decide +kernel
theorem dX12_typeDone_348 : decode cX12_typeDone 348 = .ok (.if_icmp .ne 7, 3) := by decide +kernel
theorem dX12_typeDone_351 : decode cX12_typeDone 351 = .ok (.iload_n 3, 1) := by decide +kernel
theorem dX12_typeDone_352 : decode cX12_typeDone 352 = .ok (.goto 27, 3) := by decide +kernel
theorem dX12_typeDone_355 : decode cX12_typeDone 355 = .ok (.iload 4, 2) := by decide +kernel
theorem dX12_typeDone_357 : decode cX12_typeDone 357 = .ok (.ifCond .eq 17, 3) := by decide +kernel
theorem dX12_typeDone_360 : decode cX12_typeDone 360 = .ok (.aload_n 0, 1) := by decide +kernel
theorem dX12_typeDone_361 : decode cX12_typeDone 361 = .ok (.iload_n 3, 1) := by decide +kernel
theorem dX12_typeDone_362 : decode cX12_typeDone 362 = .ok (.aload_n 0, 1) := by decide +kernel
theorem dX12_typeDone_363 : decode cX12_typeDone 363 = .ok (.getfield 91, 3) := by decide +kernel
theorem dX12_typeDone_366 : decode cX12_typeDone 366 = .ok (.iload_n 1, 1) := by decide +kernel
theorem dX12_typeDone_367 : decode cX12_typeDone 367 = .ok (.iaload, 1) := by decide +kernel
theorem dX12_typeDone_368 : decode cX12_typeDone 368 = .ok (.invokevirtual 242, 3) := by decide +kernel
theorem dX12_typeDone_371 : decode cX12_typeDone 371 = .ok (.goto 8, 3) := by decide +kernel
theorem dX12_typeDone_374 : decode cX12_typeDone 374 = .ok (.aload_n 0, 1) := by decide +kernel
theorem dX12_typeDone_375 : decode cX12_typeDone 375 = .ok (.iload_n 1, 1) := by decide +kernel
theorem dX12_typeDone_376 : decode cX12_typeDone 376 = .ok (.invokevirtual 349, 3) := by decide +kernel
theorem dX12_typeDone_379 : decode cX12_typeDone 379 = .ok (.ireturn, 1) := by decide +kernel
theorem dX12_typeDone_380 : decode cX12_typeDone 380 = .ok (.aload_n 0, 1) := by decide +kernel
theorem dX12_typeDone_381 : decode cX12_typeDone 381 = .ok (.aload_n 0, 1) := by decide +kernel
theorem dX12_typeDone_382 : decode cX12_typeDone 382 = .ok (.iload_n 1, 1) := by decide +kernel
theorem dX12_typeDone_383 : decode cX12_typeDone 383 = .ok (.iconst 0, 1) := by decide +kernel
theorem dX12_typeDone_384 : decode cX12_typeDone 384 = .ok (.invokevirtual 337, 3) := by decide +kernel
theorem dX12_typeDone_387 : decode cX12_typeDone 387 = .ok (.aload_n 0, 1) := by decide +kernel
theorem dX12_typeDone_388 : decode cX12_typeDone 388 = .ok (.aload_n 0, 1) := by decide +kernel
theorem dX12_typeDone_389 : decode cX12_typeDone 389 = .ok (.getfield 88, 3) := by decide +kernel
theorem dX12_typeDone_392 : decode cX12_typeDone 392 = .ok (.iload_n 1, 1) := by decide +kernel
theorem dX12_typeDone_393 : decode cX12_typeDone 393 = .ok (.iaload, 1) := by decide +kernel
theorem dX12_typeDone_394 : decode cX12_typeDone 394 = .ok (.aload_n 0, 1) := by decide +kernel
theorem dX12_typeDone_395 : decode cX12_typeDone 395 = .ok (.getfield 91, 3) := by decide +kernel
theorem dX12_typeDone_398 : decode cX12_typeDone 398 = .ok (.iload_n 1, 1) := by decide +kernel
theorem dX12_typeDone_399 : decode cX12_typeDone 399 = .ok (.iaload, 1) := by decide +kernel
theorem dX12_typeDone_400 : decode cX12_typeDone 400 = .ok (.invokevirtual 242, 3) := by decide +kernel
theorem dX12_typeDone_403 : decode cX12_typeDone 403 = .ok (.invokevirtual 269, 3) := by decide +kernel
theorem dX12_typeDone_406 : decode cX12_typeDone 406 = .ok (.ifCond .eq 12, 3) := by decide +kernel
theorem dX12_typeDone_409 : decode cX12_typeDone 409 = .ok (.aload_n 0, 1) := by decide +kernel
theorem dX12_typeDone_410 : decode cX12_typeDone 410 = .ok (.getfield 88, 3) := by decide +kernel
theorem dX12_typeDone_413 : decode cX12_typeDone 413 = .ok (.iload_n 1, 1) := by decide +kernel
theorem dX12_typeDone_414 : decode cX12_typeDone 414 = .ok (.iaload, 1) := by decide +kernel
theorem dX12_typeDone_415 : decode cX12_typeDone 415 = .ok (.goto 8, 3) := by decide +kernel
theorem dX12_typeDone_418 : decode cX12_typeDone 418 = .ok (.aload_n 0, 1) := by decide +kernel
theorem dX12_typeDone_419 : decode cX12_typeDone 419 = .ok (.iload_n 1, 1) := by decide +kernel
theorem dX12_typeDone_420 : decode cX12_typeDone 420 = .ok (.invokevirtual 349, 3) := by decide +kernel
theorem dX12_typeDone_423 : decode cX12_typeDone 423 = .ok (.ireturn, 1) := by decide +kernel
theorem dX12_typeDone_424 : decode cX12_typeDone 424 = .ok (.aload_n 0, 1) := by decide +kernel
theorem dX12_typeDone_425 : decode cX12_typeDone 425 = .ok (.iload_n 1, 1) := by decide +kernel
theorem dX12_typeDone_426 : decode cX12_typeDone 426 = .ok (.invokevirtual 358, 3) := by decide +kernel
theorem dX12_typeDone_429 : decode cX12_typeDone 429 = .ok (.ireturn, 1) := by decide +kernel
theorem dX12_typeDone_430 : decode cX12_typeDone 430 = .ok (.aload_n 0, 1) := by decide +kernel
theorem dX12_typeDone_431 : decode cX12_typeDone 431 = .ok (.aload_n 0, 1) := by decide +kernel
theorem dX12_typeDone_432 : decode cX12_typeDone 432 = .ok (.iload_n 1, 1) := by decide +kernel
theorem dX12_typeDone_433 : decode cX12_typeDone 433 = .ok (.iconst 0, 1) := by decide +kernel
theorem dX12_typeDone_434 : decode cX12_typeDone 434 = .ok (.invokevirtual 337, 3) := by decide +kernel
theorem dX12_typeDone_437 : decode cX12_typeDone 437 = .ok (.aload_n 0, 1) := by decide +kernel
theorem dX12_typeDone_438 : decode cX12_typeDone 438 = .ok (.getfield 88, 3) := by decide +kernel
theorem dX12_typeDone_441 : decode cX12_typeDone 441 = .ok (.iload_n 1, 1) := by decide +kernel
theorem dX12_typeDone_442 : decode cX12_typeDone 442 = .ok (.iaload, 1) := by decide +kernel
theorem dX12_typeDone_443 : decode cX12_typeDone 443 = .ok (.invokevirtual 269, 3) := by decide +kernel
theorem dX12_typeDone_446 : decode cX12_typeDone 446 = .ok (.ifCond .eq 12, 3) := by decide +kernel
theorem dX12_typeDone_449 : decode cX12_typeDone 449 = .ok (.aload_n 0, 1) := by decide +kernel
theorem dX12_typeDone_450 : decode cX12_typeDone 450 = .ok (.getfield 88, 3) := by decide +kernel
theorem dX12_typeDone_453 : decode cX12_typeDone 453 = .ok (.iload_n 1, 1) := by decide +kernel
theorem dX12_typeDone_454 : decode cX12_typeDone 454 = .ok (.iaload, 1) := by decide +kernel
theorem dX12_typeDone_455 : decode cX12_typeDone 455 = .ok (.goto 8, 3) := by decide +kernel
theorem dX12_typeDone_458 : decode cX12_typeDone 458 = .ok (.aload_n 0, 1) := by decide +kernel
theorem dX12_typeDone_459 : decode cX12_typeDone 459 = .ok (.iload_n 1, 1) := by decide +kernel
theorem dX12_typeDone_460 : decode cX12_typeDone 460 = .ok (.invokevirtual 349, 3) := by decide +kernel
theorem dX12_typeDone_463 : decode cX12_typeDone 463 = .ok (.ireturn, 1) := by decide +kernel
theorem dX12_united_0 : decode cX12_united 0 = .ok (.aload_n 0, 1) := by decide +kernel
theorem dX12_united_1 : decode cX12_united 1 = .ok (.iconst 0, 1) := by decide +kernel
theorem dX12_united_2 : decode cX12_united 2 = .ok (.iload_n 1, 1) := by decide +kernel
theorem dX12_united_3 : decode cX12_united 3 = .ok (.iload_n 2, 1) := by decide +kernel
theorem dX12_united_4 : decode cX12_united 4 = .ok (.invokevirtual 291, 3) := by decide +kernel
theorem dX12_united_7 : decode cX12_united 7 = .ok (.istore_n 3, 1) := by decide +kernel
theorem dX12_united_8 : decode cX12_united 8 = .ok (.iload_n 3, 1) := by decide +kernel
theorem dX12_united_9 : decode cX12_united 9 = .ok (.ifCond .ge 11, 3) := by decide +kernel
theorem dX12_united_12 : decode cX12_united 12 = .ok (.aload_n 0, 1) := by decide +kernel
theorem dX12_united_13 : decode cX12_united 13 = .ok (.bipush (-3), 2) := by decide +kernel
theorem dX12_united_15 : decode cX12_united 15 = .ok (.putfield 201, 3) := by decide +kernel
theorem dX12_united_18 : decode cX12_united 18 = .ok (.iconst 0, 1) := by decide +kernel
theorem dX12_united_19 : decode cX12_united 19 = .ok (.ireturn, 1) := by decide +kernel
theorem dX12_united_20 : decode cX12_united 20 = .ok (.iload_n 3, 1) := by decide +kernel
theorem dX12_united_21 : decode cX12_united 21 = .ok (.ireturn, 1) := by decide +kernel
theorem dX12_typeApplied_0 : decode cX12_typeApplied 0 = .ok (.aload_n 0, 1) := by decide +kernel
theorem dX12_typeApplied_1 : decode cX12_typeApplied 1 = .ok (.iload_n 1, 1) := by decide +kernel
theorem dX12_typeApplied_2 : decode cX12_typeApplied 2 = .ok (.iconst 0, 1) := by decide +kernel
theorem dX12_typeApplied_3 : decode cX12_typeApplied 3 = .ok (.invokevirtual 337, 3) := by decide +kernel
theorem dX12_typeApplied_6 : decode cX12_typeApplied 6 = .ok (.istore_n 2, 1) := by decide +kernel
theorem dX12_typeApplied_7 : decode cX12_typeApplied 7 = .ok (.aload_n 0, 1) := by decide +kernel
theorem dX12_typeApplied_8 : decode cX12_typeApplied 8 = .ok (.getfield 17, 3) := by decide +kernel
theorem dX12_typeApplied_11 : decode cX12_typeApplied 11 = .ok (.iload_n 2, 1) := by decide +kernel
theorem dX12_typeApplied_12 : decode cX12_typeApplied 12 = .ok (.iaload, 1) := by decide +kernel
theorem dX12_typeApplied_13 : decode cX12_typeApplied 13 = .ok (.iconst 1, 1) := by decide +kernel
theorem dX12_typeApplied_14 : decode cX12_typeApplied 14 = .ok (.if_icmp .ne 5, 3) := by decide +kernel
theorem dX12_typeApplied_17 : decode cX12_typeApplied 17 = .ok (.iload_n 2, 1) := by decide +kernel
theorem dX12_typeApplied_18 : decode cX12_typeApplied 18 = .ok (.ireturn, 1) := by decide +kernel
theorem dX12_typeApplied_19 : decode cX12_typeApplied 19 = .ok (.aload_n 0, 1) := by decide +kernel
theorem dX12_typeApplied_20 : decode cX12_typeApplied 20 = .ok (.getfield 17, 3) := by decide +kernel
theorem dX12_typeApplied_23 : decode cX12_typeApplied 23 = .ok (.iload_n 2, 1) := by decide +kernel
theorem dX12_typeApplied_24 : decode cX12_typeApplied 24 = .ok (.iaload, 1) := by decide +kernel
theorem dX12_typeApplied_25 : decode cX12_typeApplied 25 = .ok (.iconst 4, 1) := by decide +kernel
theorem dX12_typeApplied_26 : decode cX12_typeApplied 26 = .ok (.if_icmp .ne 31, 3) := by decide +kernel
theorem dX12_typeApplied_29 : decode cX12_typeApplied 29 = .ok (.aload_n 0, 1) := by decide +kernel
theorem dX12_typeApplied_30 : decode cX12_typeApplied 30 = .ok (.aload_n 0, 1) := by decide +kernel
theorem dX12_typeApplied_31 : decode cX12_typeApplied 31 = .ok (.iload_n 1, 1) := by decide +kernel
theorem dX12_typeApplied_32 : decode cX12_typeApplied 32 = .ok (.iconst 1, 1) := by decide +kernel
theorem dX12_typeApplied_33 : decode cX12_typeApplied 33 = .ok (.invokevirtual 337, 3) := by decide +kernel
theorem dX12_typeApplied_36 : decode cX12_typeApplied 36 = .ok (.aload_n 0, 1) := by decide +kernel
theorem dX12_typeApplied_37 : decode cX12_typeApplied 37 = .ok (.iload_n 2, 1) := by decide +kernel
theorem dX12_typeApplied_38 : decode cX12_typeApplied 38 = .ok (.iconst 0, 1) := by decide +kernel
theorem dX12_typeApplied_39 : decode cX12_typeApplied 39 = .ok (.invokevirtual 242, 3) := by decide +kernel
theorem dX12_typeApplied_42 : decode cX12_typeApplied 42 = .ok (.invokevirtual 269, 3) := by decide +kernel
theorem dX12_typeApplied_45 : decode cX12_typeApplied 45 = .ok (.ifCond .eq 12, 3) := by decide +kernel
theorem dX12_typeApplied_48 : decode cX12_typeApplied 48 = .ok (.aload_n 0, 1) := by decide +kernel
theorem dX12_typeApplied_49 : decode cX12_typeApplied 49 = .ok (.iload_n 2, 1) := by decide +kernel
theorem dX12_typeApplied_50 : decode cX12_typeApplied 50 = .ok (.iconst 1, 1) := by decide +kernel
theorem dX12_typeApplied_51 : decode cX12_typeApplied 51 = .ok (.invokevirtual 242, 3) := by decide +kernel
theorem dX12_typeApplied_54 : decode cX12_typeApplied 54 = .ok (.goto 8, 3) := by decide +kernel
theorem dX12_typeApplied_57 : decode cX12_typeApplied 57 = .ok (.aload_n 0, 1) := by decide +kernel
theorem dX12_typeApplied_58 : decode cX12_typeApplied 58 = .ok (.iload_n 1, 1) := by decide +kernel
theorem dX12_typeApplied_59 : decode cX12_typeApplied 59 = .ok (.invokevirtual 349, 3) := by decide +kernel
theorem dX12_typeApplied_62 : decode cX12_typeApplied 62 = .ok (.ireturn, 1) := by decide +kernel
theorem dX12_typeRecord_0 : decode cX12_typeRecord 0 = .ok (.aload_n 0, 1) := by decide +kernel
theorem dX12_typeRecord_1 : decode cX12_typeRecord 1 = .ok (.iconst 5, 1) := by decide +kernel
theorem dX12_typeRecord_2 : decode cX12_typeRecord 2 = .ok (.invokevirtual 340, 3) := by decide +kernel
theorem dX12_typeRecord_5 : decode cX12_typeRecord 5 = .ok (.istore_n 2, 1) := by decide +kernel
theorem dX12_typeRecord_6 : decode cX12_typeRecord 6 = .ok (.iconst 0, 1) := by decide +kernel
theorem dX12_typeRecord_7 : decode cX12_typeRecord 7 = .ok (.istore_n 3, 1) := by decide +kernel
theorem dX12_typeRecord_8 : decode cX12_typeRecord 8 = .ok (.iload_n 3, 1) := by decide +kernel
theorem dX12_typeRecord_9 : decode cX12_typeRecord 9 = .ok (.aload_n 0, 1) := by decide +kernel
theorem dX12_typeRecord_10 : decode cX12_typeRecord 10 = .ok (.getfield 100, 3) := by decide +kernel
theorem dX12_typeRecord_13 : decode cX12_typeRecord 13 = .ok (.iload_n 1, 1) := by decide +kernel
theorem dX12_typeRecord_14 : decode cX12_typeRecord 14 = .ok (.iaload, 1) := by decide +kernel
theorem dX12_typeRecord_15 : decode cX12_typeRecord 15 = .ok (.if_icmp .ge 60, 3) := by decide +kernel
theorem dX12_typeRecord_18 : decode cX12_typeRecord 18 = .ok (.aload_n 0, 1) := by decide +kernel
theorem dX12_typeRecord_19 : decode cX12_typeRecord 19 = .ok (.getfield 201, 3) := by decide +kernel
theorem dX12_typeRecord_22 : decode cX12_typeRecord 22 = .ok (.ifCond .ne 53, 3) := by decide +kernel
theorem dX12_typeRecord_25 : decode cX12_typeRecord 25 = .ok (.aload_n 0, 1) := by decide +kernel
theorem dX12_typeRecord_26 : decode cX12_typeRecord 26 = .ok (.getfield 97, 3) := by decide +kernel
theorem dX12_typeRecord_29 : decode cX12_typeRecord 29 = .ok (.bipush 9, 2) := by decide +kernel
theorem dX12_typeRecord_31 : decode cX12_typeRecord 31 = .ok (.iload_n 1, 1) := by decide +kernel
theorem dX12_typeRecord_32 : decode cX12_typeRecord 32 = .ok (.imul, 1) := by decide +kernel
theorem dX12_typeRecord_33 : decode cX12_typeRecord 33 = .ok (.iload_n 3, 1) := by decide +kernel
theorem dX12_typeRecord_34 : decode cX12_typeRecord 34 = .ok (.iadd, 1) := by decide +kernel
theorem dX12_typeRecord_35 : decode cX12_typeRecord 35 = .ok (.iaload, 1) := by decide +kernel
theorem dX12_typeRecord_36 : decode cX12_typeRecord 36 = .ok (.istore 4, 2) := by decide +kernel
theorem dX12_typeRecord_38 : decode cX12_typeRecord 38 = .ok (.aload_n 0, 1) := by decide +kernel
theorem dX12_typeRecord_39 : decode cX12_typeRecord 39 = .ok (.getfield 20, 3) := by decide +kernel
theorem dX12_typeRecord_42 : decode cX12_typeRecord 42 = .ok (.iload_n 2, 1) := by decide +kernel
theorem dX12_typeRecord_43 : decode cX12_typeRecord 43 = .ok (.dup2, 1) := by decide +kernel
theorem dX12_typeRecord_44 : decode cX12_typeRecord 44 = .ok (.iaload, 1) := by decide +kernel
theorem dX12_typeRecord_45 : decode cX12_typeRecord 45 = .ok (.iconst 1, 1) := by decide +kernel
theorem dX12_typeRecord_46 : decode cX12_typeRecord 46 = .ok (.iload 4, 2) := by decide +kernel
theorem dX12_typeRecord_48 : decode cX12_typeRecord 48 = .ok (.ishl, 1) := by decide +kernel
theorem dX12_typeRecord_49 : decode cX12_typeRecord 49 = .ok (.ior, 1) := by decide +kernel
theorem dX12_typeRecord_50 : decode cX12_typeRecord 50 = .ok (.iastore, 1) := by decide +kernel
theorem dX12_typeRecord_51 : decode cX12_typeRecord 51 = .ok (.aload_n 0, 1) := by decide +kernel
theorem dX12_typeRecord_52 : decode cX12_typeRecord 52 = .ok (.getfield 23, 3) := by decide +kernel
theorem dX12_typeRecord_55 : decode cX12_typeRecord 55 = .ok (.bipush 8, 2) := by decide +kernel
theorem dX12_typeRecord_57 : decode cX12_typeRecord 57 = .ok (.iload_n 2, 1) := by decide +kernel
theorem dX12_typeRecord_58 : decode cX12_typeRecord 58 = .ok (.imul, 1) := by decide +kernel
theorem dX12_typeRecord_59 : decode cX12_typeRecord 59 = .ok (.iload 4, 2) := by decide +kernel
theorem dX12_typeRecord_61 : decode cX12_typeRecord 61 = .ok (.iadd, 1) := by decide +kernel
theorem dX12_typeRecord_62 : decode cX12_typeRecord 62 = .ok (.aload_n 0, 1) := by decide +kernel
theorem dX12_typeRecord_63 : decode cX12_typeRecord 63 = .ok (.iload_n 1, 1) := by decide +kernel
theorem dX12_typeRecord_64 : decode cX12_typeRecord 64 = .ok (.iload_n 3, 1) := by decide +kernel
theorem dX12_typeRecord_65 : decode cX12_typeRecord 65 = .ok (.invokevirtual 337, 3) := by decide +kernel
theorem dX12_typeRecord_68 : decode cX12_typeRecord 68 = .ok (.iastore, 1) := by decide +kernel
theorem dX12_typeRecord_69 : decode cX12_typeRecord 69 = .ok (.iinc 3 1, 3) := by decide +kernel
theorem dX12_typeRecord_72 : decode cX12_typeRecord 72 = .ok (.goto (-64), 3) := by decide +kernel
theorem dX12_typeRecord_75 : decode cX12_typeRecord 75 = .ok (.iload_n 2, 1) := by decide +kernel
theorem dX12_typeRecord_76 : decode cX12_typeRecord 76 = .ok (.ireturn, 1) := by decide +kernel
theorem dX12_typeTaken_0 : decode cX12_typeTaken 0 = .ok (.aload_n 0, 1) := by decide +kernel
theorem dX12_typeTaken_1 : decode cX12_typeTaken 1 = .ok (.iload_n 1, 1) := by decide +kernel
theorem dX12_typeTaken_2 : decode cX12_typeTaken 2 = .ok (.aload_n 0, 1) := by decide +kernel
theorem dX12_typeTaken_3 : decode cX12_typeTaken 3 = .ok (.getfield 100, 3) := by decide +kernel
theorem dX12_typeTaken_6 : decode cX12_typeTaken 6 = .ok (.iload_n 1, 1) := by decide +kernel
theorem dX12_typeTaken_7 : decode cX12_typeTaken 7 = .ok (.iaload, 1) := by decide +kernel
theorem dX12_typeTaken_8 : decode cX12_typeTaken 8 = .ok (.iconst 1, 1) := by decide +kernel
theorem dX12_typeTaken_9 : decode cX12_typeTaken 9 = .ok (.isub, 1) := by decide +kernel
theorem dX12_typeTaken_10 : decode cX12_typeTaken 10 = .ok (.invokevirtual 337, 3) := by decide +kernel
theorem dX12_typeTaken_13 : decode cX12_typeTaken 13 = .ok (.istore_n 2, 1) := by decide +kernel
theorem dX12_typeTaken_14 : decode cX12_typeTaken 14 = .ok (.iconst 0, 1) := by decide +kernel
theorem dX12_typeTaken_15 : decode cX12_typeTaken 15 = .ok (.istore_n 3, 1) := by decide +kernel
theorem dX12_typeTaken_16 : decode cX12_typeTaken 16 = .ok (.iconst 0, 1) := by decide +kernel
theorem dX12_typeTaken_17 : decode cX12_typeTaken 17 = .ok (.istore 4, 2) := by decide +kernel
theorem dX12_typeTaken_19 : decode cX12_typeTaken 19 = .ok (.iload 4, 2) := by decide +kernel
theorem dX12_typeTaken_21 : decode cX12_typeTaken 21 = .ok (.aload_n 0, 1) := by decide +kernel
theorem dX12_typeTaken_22 : decode cX12_typeTaken 22 = .ok (.getfield 88, 3) := by decide +kernel
theorem dX12_typeTaken_25 : decode cX12_typeTaken 25 = .ok (.iload_n 1, 1) := by decide +kernel
theorem dX12_typeTaken_26 : decode cX12_typeTaken 26 = .ok (.iaload, 1) := by decide +kernel
theorem dX12_typeTaken_27 : decode cX12_typeTaken 27 = .ok (.if_icmp .ge 26, 3) := by decide +kernel
theorem dX12_typeTaken_30 : decode cX12_typeTaken 30 = .ok (.iload_n 3, 1) := by decide +kernel
theorem dX12_typeTaken_31 : decode cX12_typeTaken 31 = .ok (.iconst 1, 1) := by decide +kernel
theorem dX12_typeTaken_32 : decode cX12_typeTaken 32 = .ok (.aload_n 0, 1) := by decide +kernel
theorem dX12_typeTaken_33 : decode cX12_typeTaken 33 = .ok (.getfield 97, 3) := by decide +kernel
theorem dX12_typeTaken_36 : decode cX12_typeTaken 36 = .ok (.bipush 9, 2) := by decide +kernel
theorem dX12_typeTaken_38 : decode cX12_typeTaken 38 = .ok (.iload_n 1, 1) := by decide +kernel
theorem dX12_typeTaken_39 : decode cX12_typeTaken 39 = .ok (.imul, 1) := by decide +kernel
theorem dX12_typeTaken_40 : decode cX12_typeTaken 40 = .ok (.iload 4, 2) := by decide +kernel
theorem dX12_typeTaken_42 : decode cX12_typeTaken 42 = .ok (.iadd, 1) := by decide +kernel
theorem dX12_typeTaken_43 : decode cX12_typeTaken 43 = .ok (.iaload, 1) := by decide +kernel
theorem dX12_typeTaken_44 : decode cX12_typeTaken 44 = .ok (.ishl, 1) := by decide +kernel
theorem dX12_typeTaken_45 : decode cX12_typeTaken 45 = .ok (.ior, 1) := by decide +kernel
theorem dX12_typeTaken_46 : decode cX12_typeTaken 46 = .ok (.istore_n 3, 1) := by decide +kernel
theorem dX12_typeTaken_47 : decode cX12_typeTaken 47 = .ok (.iinc 4 1, 3) := by decide +kernel
theorem dX12_typeTaken_50 : decode cX12_typeTaken 50 = .ok (.goto (-31), 3) := by decide +kernel
theorem dX12_typeTaken_53 : decode cX12_typeTaken 53 = .ok (.aload_n 0, 1) := by decide +kernel
theorem dX12_typeTaken_54 : decode cX12_typeTaken 54 = .ok (.getfield 17, 3) := by decide +kernel
theorem dX12_typeTaken_57 : decode cX12_typeTaken 57 = .ok (.iload_n 2, 1) := by decide +kernel
theorem dX12_typeTaken_58 : decode cX12_typeTaken 58 = .ok (.iaload, 1) := by decide +kernel
theorem dX12_typeTaken_59 : decode cX12_typeTaken 59 = .ok (.iconst 1, 1) := by decide +kernel
theorem dX12_typeTaken_60 : decode cX12_typeTaken 60 = .ok (.if_icmp .eq 33, 3) := by decide +kernel
theorem dX12_typeTaken_63 : decode cX12_typeTaken 63 = .ok (.aload_n 0, 1) := by decide +kernel
theorem dX12_typeTaken_64 : decode cX12_typeTaken 64 = .ok (.getfield 17, 3) := by decide +kernel
theorem dX12_typeTaken_67 : decode cX12_typeTaken 67 = .ok (.iload_n 2, 1) := by decide +kernel
theorem dX12_typeTaken_68 : decode cX12_typeTaken 68 = .ok (.iaload, 1) := by decide +kernel
theorem dX12_typeTaken_69 : decode cX12_typeTaken 69 = .ok (.bipush 6, 2) := by decide +kernel
theorem dX12_typeTaken_71 : decode cX12_typeTaken 71 = .ok (.if_icmp .ne 16, 3) := by decide +kernel
theorem dX12_typeTaken_74 : decode cX12_typeTaken 74 = .ok (.aload_n 0, 1) := by decide +kernel
theorem dX12_typeTaken_75 : decode cX12_typeTaken 75 = .ok (.getfield 20, 3) := by decide +kernel
theorem dX12_typeTaken_78 : decode cX12_typeTaken 78 = .ok (.iload_n 2, 1) := by decide +kernel
theorem dX12_typeTaken_79 : decode cX12_typeTaken 79 = .ok (.iaload, 1) := by decide +kernel
theorem dX12_typeTaken_80 : decode cX12_typeTaken 80 = .ok (.iload_n 3, 1) := by decide +kernel
theorem dX12_typeTaken_81 : decode cX12_typeTaken 81 = .ok (.iconst (-1), 1) := by decide +kernel
theorem dX12_typeTaken_82 : decode cX12_typeTaken 82 = .ok (.ixor, 1) := by decide +kernel
theorem dX12_typeTaken_83 : decode cX12_typeTaken 83 = .ok (.iand, 1) := by decide +kernel
theorem dX12_typeTaken_84 : decode cX12_typeTaken 84 = .ok (.ifCond .eq 9, 3) := by decide +kernel
theorem dX12_typeTaken_87 : decode cX12_typeTaken 87 = .ok (.aload_n 0, 1) := by decide +kernel
theorem dX12_typeTaken_88 : decode cX12_typeTaken 88 = .ok (.iload_n 1, 1) := by decide +kernel
theorem dX12_typeTaken_89 : decode cX12_typeTaken 89 = .ok (.invokevirtual 349, 3) := by decide +kernel
theorem dX12_typeTaken_92 : decode cX12_typeTaken 92 = .ok (.ireturn, 1) := by decide +kernel
theorem dX12_typeTaken_93 : decode cX12_typeTaken 93 = .ok (.aload_n 0, 1) := by decide +kernel
theorem dX12_typeTaken_94 : decode cX12_typeTaken 94 = .ok (.getfield 88, 3) := by decide +kernel
theorem dX12_typeTaken_97 : decode cX12_typeTaken 97 = .ok (.iload_n 1, 1) := by decide +kernel
theorem dX12_typeTaken_98 : decode cX12_typeTaken 98 = .ok (.iaload, 1) := by decide +kernel
theorem dX12_typeTaken_99 : decode cX12_typeTaken 99 = .ok (.ifCond .ne 9, 3) := by decide +kernel
theorem dX12_typeTaken_102 : decode cX12_typeTaken 102 = .ok (.aload_n 0, 1) := by decide +kernel
theorem dX12_typeTaken_103 : decode cX12_typeTaken 103 = .ok (.iconst 1, 1) := by decide +kernel
theorem dX12_typeTaken_104 : decode cX12_typeTaken 104 = .ok (.invokevirtual 340, 3) := by decide +kernel
theorem dX12_typeTaken_107 : decode cX12_typeTaken 107 = .ok (.ireturn, 1) := by decide +kernel
theorem dX12_typeTaken_108 : decode cX12_typeTaken 108 = .ok (.aload_n 0, 1) := by decide +kernel
theorem dX12_typeTaken_109 : decode cX12_typeTaken 109 = .ok (.iload_n 1, 1) := by decide +kernel
theorem dX12_typeTaken_110 : decode cX12_typeTaken 110 = .ok (.iconst 0, 1) := by decide +kernel
theorem dX12_typeTaken_111 : decode cX12_typeTaken 111 = .ok (.invokevirtual 337, 3) := by decide +kernel
theorem dX12_typeTaken_114 : decode cX12_typeTaken 114 = .ok (.istore 4, 2) := by decide +kernel
theorem dX12_typeTaken_116 : decode cX12_typeTaken 116 = .ok (.iconst 1, 1) := by decide +kernel
theorem dX12_typeTaken_117 : decode cX12_typeTaken 117 = .ok (.istore 5, 2) := by decide +kernel
theorem dX12_typeTaken_119 : decode cX12_typeTaken 119 = .ok (.iload 5, 2) := by decide +kernel
theorem dX12_typeTaken_121 : decode cX12_typeTaken 121 = .ok (.aload_n 0, 1) := by decide +kernel
theorem dX12_typeTaken_122 : decode cX12_typeTaken 122 = .ok (.getfield 88, 3) := by decide +kernel
theorem dX12_typeTaken_125 : decode cX12_typeTaken 125 = .ok (.iload_n 1, 1) := by decide +kernel
theorem dX12_typeTaken_126 : decode cX12_typeTaken 126 = .ok (.iaload, 1) := by decide +kernel
theorem dX12_typeTaken_127 : decode cX12_typeTaken 127 = .ok (.if_icmp .ge 31, 3) := by decide +kernel
theorem dX12_typeTaken_130 : decode cX12_typeTaken 130 = .ok (.aload_n 0, 1) := by decide +kernel
theorem dX12_typeTaken_131 : decode cX12_typeTaken 131 = .ok (.getfield 201, 3) := by decide +kernel
theorem dX12_typeTaken_134 : decode cX12_typeTaken 134 = .ok (.ifCond .ne 24, 3) := by decide +kernel
theorem dX12_typeTaken_137 : decode cX12_typeTaken 137 = .ok (.aload_n 0, 1) := by decide +kernel
theorem dX12_typeTaken_138 : decode cX12_typeTaken 138 = .ok (.iload 4, 2) := by decide +kernel
theorem dX12_typeTaken_140 : decode cX12_typeTaken 140 = .ok (.aload_n 0, 1) := by decide +kernel
theorem dX12_typeTaken_141 : decode cX12_typeTaken 141 = .ok (.iload_n 1, 1) := by decide +kernel
theorem dX12_typeTaken_142 : decode cX12_typeTaken 142 = .ok (.iload 5, 2) := by decide +kernel
theorem dX12_typeTaken_144 : decode cX12_typeTaken 144 = .ok (.invokevirtual 337, 3) := by decide +kernel
theorem dX12_typeTaken_147 : decode cX12_typeTaken 147 = .ok (.invokevirtual 352, 3) := by decide +kernel
theorem dX12_typeTaken_150 : decode cX12_typeTaken 150 = .ok (.istore 4, 2) := by decide +kernel
theorem dX12_typeTaken_152 : decode cX12_typeTaken 152 = .ok (.iinc 5 1, 3) := by decide +kernel
theorem dX12_typeTaken_155 : decode cX12_typeTaken 155 = .ok (.goto (-36), 3) := by decide +kernel
theorem dX12_typeTaken_158 : decode cX12_typeTaken 158 = .ok (.iload 4, 2) := by decide +kernel
theorem dX12_typeTaken_160 : decode cX12_typeTaken 160 = .ok (.ireturn, 1) := by decide +kernel
theorem dX12_term_0 : decode cX12_term 0 = .ok (.aload_n 0, 1) := by decide +kernel
theorem dX12_term_1 : decode cX12_term 1 = .ok (.getfield 181, 3) := by decide +kernel
theorem dX12_term_4 : decode cX12_term 4 = .ok (.istore_n 1, 1) := by decide +kernel
theorem dX12_term_5 : decode cX12_term 5 = .ok (.aload_n 0, 1) := by decide +kernel
theorem dX12_term_6 : decode cX12_term 6 = .ok (.iconst 0, 1) := by decide +kernel
theorem dX12_term_7 : decode cX12_term 7 = .ok (.putfield 204, 3) := by decide +kernel
theorem dX12_term_10 : decode cX12_term 10 = .ok (.aload_n 0, 1) := by decide +kernel
theorem dX12_term_11 : decode cX12_term 11 = .ok (.iconst 0, 1) := by decide +kernel
theorem dX12_term_12 : decode cX12_term 12 = .ok (.putfield 201, 3) := by decide +kernel
theorem dX12_term_15 : decode cX12_term 15 = .ok (.aload_n 0, 1) := by decide +kernel
theorem dX12_term_16 : decode cX12_term 16 = .ok (.iconst (-1), 1) := by decide +kernel
theorem dX12_term_17 : decode cX12_term 17 = .ok (.putfield 13, 3) := by decide +kernel
theorem dX12_term_20 : decode cX12_term 20 = .ok (.aload_n 0, 1) := by decide +kernel
theorem dX12_term_21 : decode cX12_term 21 = .ok (.invokevirtual 361, 3) := by decide +kernel
theorem dX12_term_24 : decode cX12_term 24 = .ok (.aload_n 0, 1) := by decide +kernel
theorem dX12_term_25 : decode cX12_term 25 = .ok (.getfield 201, 3) := by decide +kernel
theorem dX12_term_28 : decode cX12_term 28 = .ok (.ifCond .ne 30, 3) := by decide +kernel
theorem dX12_term_31 : decode cX12_term 31 = .ok (.aload_n 0, 1) := by decide +kernel
theorem dX12_term_32 : decode cX12_term 32 = .ok (.getfield 204, 3) := by decide +kernel
theorem dX12_term_35 : decode cX12_term 35 = .ok (.aload_n 0, 1) := by decide +kernel
theorem dX12_term_36 : decode cX12_term 36 = .ok (.getfield 198, 3) := by decide +kernel
theorem dX12_term_39 : decode cX12_term 39 = .ok (.if_icmp .ge 19, 3) := by decide +kernel
theorem dX12_term_42 : decode cX12_term 42 = .ok (.aload_n 0, 1) := by decide +kernel
theorem dX12_term_43 : decode cX12_term 43 = .ok (.bipush (-14), 2) := by decide +kernel
theorem dX12_term_45 : decode cX12_term 45 = .ok (.aload_n 0, 1) := by decide +kernel
theorem dX12_term_46 : decode cX12_term 46 = .ok (.getfield 204, 3) := by decide +kernel
theorem dX12_term_49 : decode cX12_term 49 = .ok (.invokevirtual 207, 3) := by decide +kernel
theorem dX12_term_52 : decode cX12_term 52 = .ok (.istore_n 2, 1) := by decide +kernel
theorem dX12_term_53 : decode cX12_term 53 = .ok (.aload_n 0, 1) := by decide +kernel
theorem dX12_term_54 : decode cX12_term 54 = .ok (.iload_n 2, 1) := by decide +kernel
theorem dX12_term_55 : decode cX12_term 55 = .ok (.putfield 201, 3) := by decide +kernel
theorem dX12_term_58 : decode cX12_term 58 = .ok (.aload_n 0, 1) := by decide +kernel
theorem dX12_term_59 : decode cX12_term 59 = .ok (.iconst 0, 1) := by decide +kernel
theorem dX12_term_60 : decode cX12_term 60 = .ok (.putfield 198, 3) := by decide +kernel
theorem dX12_term_63 : decode cX12_term 63 = .ok (.aload_n 0, 1) := by decide +kernel
theorem dX12_term_64 : decode cX12_term 64 = .ok (.getfield 201, 3) := by decide +kernel
theorem dX12_term_67 : decode cX12_term 67 = .ok (.ifCond .ne 7, 3) := by decide +kernel
theorem dX12_term_70 : decode cX12_term 70 = .ok (.aload_n 0, 1) := by decide +kernel
theorem dX12_term_71 : decode cX12_term 71 = .ok (.invokevirtual 364, 3) := by decide +kernel
theorem dX12_term_74 : decode cX12_term 74 = .ok (.aload_n 0, 1) := by decide +kernel
theorem dX12_term_75 : decode cX12_term 75 = .ok (.getfield 201, 3) := by decide +kernel
theorem dX12_term_78 : decode cX12_term 78 = .ok (.ifCond .eq 13, 3) := by decide +kernel
theorem dX12_term_81 : decode cX12_term 81 = .ok (.aload_n 0, 1) := by decide +kernel
theorem dX12_term_82 : decode cX12_term 82 = .ok (.iload_n 1, 1) := by decide +kernel
theorem dX12_term_83 : decode cX12_term 83 = .ok (.putfield 181, 3) := by decide +kernel
theorem dX12_term_86 : decode cX12_term 86 = .ok (.aload_n 0, 1) := by decide +kernel
theorem dX12_term_87 : decode cX12_term 87 = .ok (.getfield 201, 3) := by decide +kernel
theorem dX12_term_90 : decode cX12_term 90 = .ok (.ireturn, 1) := by decide +kernel
theorem dX12_term_91 : decode cX12_term 91 = .ok (.aload_n 0, 1) := by decide +kernel
theorem dX12_term_92 : decode cX12_term 92 = .ok (.iconst 1, 1) := by decide +kernel
theorem dX12_term_93 : decode cX12_term 93 = .ok (.putfield 188, 3) := by decide +kernel
theorem dX12_term_96 : decode cX12_term 96 = .ok (.aload_n 0, 1) := by decide +kernel
theorem dX12_term_97 : decode cX12_term 97 = .ok (.aload_n 0, 1) := by decide +kernel
theorem dX12_term_98 : decode cX12_term 98 = .ok (.getfield 294, 3) := by decide +kernel
theorem dX12_term_101 : decode cX12_term 101 = .ok (.putfield 367, 3) := by decide +kernel
theorem dX12_term_104 : decode cX12_term 104 = .ok (.iconst 0, 1) := by decide +kernel
theorem dX12_term_105 : decode cX12_term 105 = .ok (.istore_n 2, 1) := by decide +kernel
theorem dX12_term_106 : decode cX12_term 106 = .ok (.iload_n 2, 1) := by decide +kernel
theorem dX12_term_107 : decode cX12_term 107 = .ok (.aload_n 0, 1) := by decide +kernel
theorem dX12_term_108 : decode cX12_term 108 = .ok (.getfield 294, 3) := by decide +kernel
theorem dX12_term_111 : decode cX12_term 111 = .ok (.if_icmp .ge 103, 3) := by decide +kernel
theorem dX12_term_114 : decode cX12_term 114 = .ok (.aload_n 0, 1) := by decide +kernel
theorem dX12_term_115 : decode cX12_term 115 = .ok (.getfield 103, 3) := by decide +kernel
theorem dX12_term_118 : decode cX12_term 118 = .ok (.iload_n 2, 1) := by decide +kernel
theorem dX12_term_119 : decode cX12_term 119 = .ok (.aload_n 0, 1) := by decide +kernel
theorem dX12_term_120 : decode cX12_term 120 = .ok (.getfield 82, 3) := by decide +kernel
theorem dX12_term_123 : decode cX12_term 123 = .ok (.iload_n 2, 1) := by decide +kernel
theorem dX12_term_124 : decode cX12_term 124 = .ok (.iaload, 1) := by decide +kernel
theorem dX12_term_125 : decode cX12_term 125 = .ok (.iastore, 1) := by decide +kernel
theorem dX12_term_126 : decode cX12_term 126 = .ok (.aload_n 0, 1) := by decide +kernel
theorem dX12_term_127 : decode cX12_term 127 = .ok (.getfield 106, 3) := by decide +kernel
theorem dX12_term_130 : decode cX12_term 130 = .ok (.iload_n 2, 1) := by decide +kernel
theorem dX12_term_131 : decode cX12_term 131 = .ok (.aload_n 0, 1) := by decide +kernel
theorem dX12_term_132 : decode cX12_term 132 = .ok (.getfield 88, 3) := by decide +kernel
theorem dX12_term_135 : decode cX12_term 135 = .ok (.iload_n 2, 1) := by decide +kernel
theorem dX12_term_136 : decode cX12_term 136 = .ok (.iaload, 1) := by decide +kernel
theorem dX12_term_137 : decode cX12_term 137 = .ok (.iastore, 1) := by decide +kernel
theorem dX12_term_138 : decode cX12_term 138 = .ok (.aload_n 0, 1) := by decide +kernel
theorem dX12_term_139 : decode cX12_term 139 = .ok (.getfield 109, 3) := by decide +kernel
theorem dX12_term_142 : decode cX12_term 142 = .ok (.iload_n 2, 1) := by decide +kernel
theorem dX12_term_143 : decode cX12_term 143 = .ok (.aload_n 0, 1) := by decide +kernel
theorem dX12_term_144 : decode cX12_term 144 = .ok (.getfield 91, 3) := by decide +kernel
theorem dX12_term_147 : decode cX12_term 147 = .ok (.iload_n 2, 1) := by decide +kernel
theorem dX12_term_148 : decode cX12_term 148 = .ok (.iaload, 1) := by decide +kernel
theorem dX12_term_149 : decode cX12_term 149 = .ok (.iastore, 1) := by decide +kernel
theorem dX12_term_150 : decode cX12_term 150 = .ok (.aload_n 0, 1) := by decide +kernel
theorem dX12_term_151 : decode cX12_term 151 = .ok (.getfield 118, 3) := by decide +kernel
theorem dX12_term_154 : decode cX12_term 154 = .ok (.iload_n 2, 1) := by decide +kernel
theorem dX12_term_155 : decode cX12_term 155 = .ok (.aload_n 0, 1) := by decide +kernel
theorem dX12_term_156 : decode cX12_term 156 = .ok (.getfield 100, 3) := by decide +kernel
theorem dX12_term_159 : decode cX12_term 159 = .ok (.iload_n 2, 1) := by decide +kernel
theorem dX12_term_160 : decode cX12_term 160 = .ok (.iaload, 1) := by decide +kernel
theorem dX12_term_161 : decode cX12_term 161 = .ok (.iastore, 1) := by decide +kernel
theorem dX12_term_162 : decode cX12_term 162 = .ok (.bipush 9, 2) := by decide +kernel
theorem dX12_term_164 : decode cX12_term 164 = .ok (.iload_n 2, 1) := by decide +kernel
theorem dX12_term_165 : decode cX12_term 165 = .ok (.imul, 1) := by decide +kernel
theorem dX12_term_166 : decode cX12_term 166 = .ok (.istore_n 3, 1) := by decide +kernel
theorem dX12_term_167 : decode cX12_term 167 = .ok (.iload_n 3, 1) := by decide +kernel
theorem dX12_term_168 : decode cX12_term 168 = .ok (.bipush 9, 2) := by decide +kernel
theorem dX12_term_170 : decode cX12_term 170 = .ok (.iload_n 2, 1) := by decide +kernel
theorem dX12_term_171 : decode cX12_term 171 = .ok (.imul, 1) := by decide +kernel
theorem dX12_term_172 : decode cX12_term 172 = .ok (.bipush 9, 2) := by decide +kernel
theorem dX12_term_174 : decode cX12_term 174 = .ok (.iadd, 1) := by decide +kernel
theorem dX12_term_175 : decode cX12_term 175 = .ok (.if_icmp .ge 33, 3) := by decide +kernel
theorem dX12_term_178 : decode cX12_term 178 = .ok (.aload_n 0, 1) := by decide +kernel
theorem dX12_term_179 : decode cX12_term 179 = .ok (.getfield 112, 3) := by decide +kernel
theorem dX12_term_182 : decode cX12_term 182 = .ok (.iload_n 3, 1) := by decide +kernel
theorem dX12_term_183 : decode cX12_term 183 = .ok (.aload_n 0, 1) := by decide +kernel
theorem dX12_term_184 : decode cX12_term 184 = .ok (.getfield 94, 3) := by decide +kernel
theorem dX12_term_187 : decode cX12_term 187 = .ok (.iload_n 3, 1) := by decide +kernel
theorem dX12_term_188 : decode cX12_term 188 = .ok (.iaload, 1) := by decide +kernel
theorem dX12_term_189 : decode cX12_term 189 = .ok (.iastore, 1) := by decide +kernel
theorem dX12_term_190 : decode cX12_term 190 = .ok (.aload_n 0, 1) := by decide +kernel
theorem dX12_term_191 : decode cX12_term 191 = .ok (.getfield 115, 3) := by decide +kernel
theorem dX12_term_194 : decode cX12_term 194 = .ok (.iload_n 3, 1) := by decide +kernel
theorem dX12_term_195 : decode cX12_term 195 = .ok (.aload_n 0, 1) := by decide +kernel
theorem dX12_term_196 : decode cX12_term 196 = .ok (.getfield 97, 3) := by decide +kernel
theorem dX12_term_199 : decode cX12_term 199 = .ok (.iload_n 3, 1) := by decide +kernel
theorem dX12_term_200 : decode cX12_term 200 = .ok (.iaload, 1) := by decide +kernel
theorem dX12_term_201 : decode cX12_term 201 = .ok (.iastore, 1) := by decide +kernel
theorem dX12_term_202 : decode cX12_term 202 = .ok (.iinc 3 1, 3) := by decide +kernel
theorem dX12_term_205 : decode cX12_term 205 = .ok (.goto (-38), 3) := by decide +kernel
theorem dX12_term_208 : decode cX12_term 208 = .ok (.iinc 2 1, 3) := by decide +kernel
theorem dX12_term_211 : decode cX12_term 211 = .ok (.goto (-105), 3) := by decide +kernel
theorem dX12_term_214 : decode cX12_term 214 = .ok (.aload_n 0, 1) := by decide +kernel
theorem dX12_term_215 : decode cX12_term 215 = .ok (.getfield 139, 3) := by decide +kernel
theorem dX12_term_218 : decode cX12_term 218 = .ok (.iconst 0, 1) := by decide +kernel
theorem dX12_term_219 : decode cX12_term 219 = .ok (.iaload, 1) := by decide +kernel
theorem dX12_term_220 : decode cX12_term 220 = .ok (.ireturn, 1) := by decide +kernel
theorem dX12_newValue_0 : decode cX12_newValue 0 = .ok (.aload_n 0, 1) := by decide +kernel
theorem dX12_newValue_1 : decode cX12_newValue 1 = .ok (.getfield 192, 3) := by decide +kernel
theorem dX12_newValue_4 : decode cX12_newValue 4 = .ok (.sipush 2000, 3) := by decide +kernel
theorem dX12_newValue_7 : decode cX12_newValue 7 = .ok (.if_icmp .ne 11, 3) := by decide +kernel
theorem dX12_newValue_10 : decode cX12_newValue 10 = .ok (.aload_n 0, 1) := by decide +kernel
theorem dX12_newValue_11 : decode cX12_newValue 11 = .ok (.bipush (-16), 2) := by decide +kernel
theorem dX12_newValue_13 : decode cX12_newValue 13 = .ok (.putfield 370, 3) := by decide +kernel
theorem dX12_newValue_16 : decode cX12_newValue 16 = .ok (.iconst (-1), 1) := by decide +kernel
theorem dX12_newValue_17 : decode cX12_newValue 17 = .ok (.ireturn, 1) := by decide +kernel
theorem dX12_newValue_18 : decode cX12_newValue 18 = .ok (.aload_n 0, 1) := by decide +kernel
theorem dX12_newValue_19 : decode cX12_newValue 19 = .ok (.getfield 145, 3) := by decide +kernel
theorem dX12_newValue_22 : decode cX12_newValue 22 = .ok (.aload_n 0, 1) := by decide +kernel
theorem dX12_newValue_23 : decode cX12_newValue 23 = .ok (.getfield 192, 3) := by decide +kernel
theorem dX12_newValue_26 : decode cX12_newValue 26 = .ok (.iload_n 1, 1) := by decide +kernel
theorem dX12_newValue_27 : decode cX12_newValue 27 = .ok (.iastore, 1) := by decide +kernel
theorem dX12_newValue_28 : decode cX12_newValue 28 = .ok (.aload_n 0, 1) := by decide +kernel
theorem dX12_newValue_29 : decode cX12_newValue 29 = .ok (.getfield 148, 3) := by decide +kernel
theorem dX12_newValue_32 : decode cX12_newValue 32 = .ok (.aload_n 0, 1) := by decide +kernel
theorem dX12_newValue_33 : decode cX12_newValue 33 = .ok (.getfield 192, 3) := by decide +kernel
theorem dX12_newValue_36 : decode cX12_newValue 36 = .ok (.iload_n 2, 1) := by decide +kernel
theorem dX12_newValue_37 : decode cX12_newValue 37 = .ok (.iastore, 1) := by decide +kernel
theorem dX12_newValue_38 : decode cX12_newValue 38 = .ok (.iconst 0, 1) := by decide +kernel
theorem dX12_newValue_39 : decode cX12_newValue 39 = .ok (.istore_n 3, 1) := by decide +kernel
theorem dX12_newValue_40 : decode cX12_newValue 40 = .ok (.iload_n 3, 1) := by decide +kernel
theorem dX12_newValue_41 : decode cX12_newValue 41 = .ok (.bipush 8, 2) := by decide +kernel
theorem dX12_newValue_43 : decode cX12_newValue 43 = .ok (.if_icmp .ge 24, 3) := by decide +kernel
theorem dX12_newValue_46 : decode cX12_newValue 46 = .ok (.aload_n 0, 1) := by decide +kernel
theorem dX12_newValue_47 : decode cX12_newValue 47 = .ok (.getfield 151, 3) := by decide +kernel
theorem dX12_newValue_50 : decode cX12_newValue 50 = .ok (.bipush 8, 2) := by decide +kernel
theorem dX12_newValue_52 : decode cX12_newValue 52 = .ok (.aload_n 0, 1) := by decide +kernel
theorem dX12_newValue_53 : decode cX12_newValue 53 = .ok (.getfield 192, 3) := by decide +kernel
theorem dX12_newValue_56 : decode cX12_newValue 56 = .ok (.imul, 1) := by decide +kernel
theorem dX12_newValue_57 : decode cX12_newValue 57 = .ok (.iload_n 3, 1) := by decide +kernel
theorem dX12_newValue_58 : decode cX12_newValue 58 = .ok (.iadd, 1) := by decide +kernel
theorem dX12_newValue_59 : decode cX12_newValue 59 = .ok (.iconst (-1), 1) := by decide +kernel
theorem dX12_newValue_60 : decode cX12_newValue 60 = .ok (.iastore, 1) := by decide +kernel
theorem dX12_newValue_61 : decode cX12_newValue 61 = .ok (.iinc 3 1, 3) := by decide +kernel
theorem dX12_newValue_64 : decode cX12_newValue 64 = .ok (.goto (-24), 3) := by decide +kernel
theorem dX12_newValue_67 : decode cX12_newValue 67 = .ok (.aload_n 0, 1) := by decide +kernel
theorem dX12_newValue_68 : decode cX12_newValue 68 = .ok (.dup, 1) := by decide +kernel
theorem dX12_newValue_69 : decode cX12_newValue 69 = .ok (.getfield 192, 3) := by decide +kernel
theorem dX12_newValue_72 : decode cX12_newValue 72 = .ok (.iconst 1, 1) := by decide +kernel
theorem dX12_newValue_73 : decode cX12_newValue 73 = .ok (.iadd, 1) := by decide +kernel
theorem dX12_newValue_74 : decode cX12_newValue 74 = .ok (.putfield 192, 3) := by decide +kernel
theorem dX12_newValue_77 : decode cX12_newValue 77 = .ok (.aload_n 0, 1) := by decide +kernel
theorem dX12_newValue_78 : decode cX12_newValue 78 = .ok (.getfield 192, 3) := by decide +kernel
theorem dX12_newValue_81 : decode cX12_newValue 81 = .ok (.iconst 1, 1) := by decide +kernel
theorem dX12_newValue_82 : decode cX12_newValue 82 = .ok (.isub, 1) := by decide +kernel
theorem dX12_newValue_83 : decode cX12_newValue 83 = .ok (.ireturn, 1) := by decide +kernel
theorem dX12_bind_0 : decode cX12_bind 0 = .ok (.aload_n 0, 1) := by decide +kernel
theorem dX12_bind_1 : decode cX12_bind 1 = .ok (.getfield 160, 3) := by decide +kernel
theorem dX12_bind_4 : decode cX12_bind 4 = .ok (.aload_n 0, 1) := by decide +kernel
theorem dX12_bind_5 : decode cX12_bind 5 = .ok (.getfield 373, 3) := by decide +kernel
theorem dX12_bind_8 : decode cX12_bind 8 = .ok (.iload_n 1, 1) := by decide +kernel
theorem dX12_bind_9 : decode cX12_bind 9 = .ok (.iastore, 1) := by decide +kernel
theorem dX12_bind_10 : decode cX12_bind 10 = .ok (.aload_n 0, 1) := by decide +kernel
theorem dX12_bind_11 : decode cX12_bind 11 = .ok (.getfield 163, 3) := by decide +kernel
theorem dX12_bind_14 : decode cX12_bind 14 = .ok (.aload_n 0, 1) := by decide +kernel
theorem dX12_bind_15 : decode cX12_bind 15 = .ok (.getfield 373, 3) := by decide +kernel
theorem dX12_bind_18 : decode cX12_bind 18 = .ok (.iload_n 2, 1) := by decide +kernel
theorem dX12_bind_19 : decode cX12_bind 19 = .ok (.iastore, 1) := by decide +kernel
theorem dX12_bind_20 : decode cX12_bind 20 = .ok (.aload_n 0, 1) := by decide +kernel
theorem dX12_bind_21 : decode cX12_bind 21 = .ok (.dup, 1) := by decide +kernel
theorem dX12_bind_22 : decode cX12_bind 22 = .ok (.getfield 373, 3) := by decide +kernel
theorem dX12_bind_25 : decode cX12_bind 25 = .ok (.iconst 1, 1) := by decide +kernel
theorem dX12_bind_26 : decode cX12_bind 26 = .ok (.iadd, 1) := by decide +kernel
theorem dX12_bind_27 : decode cX12_bind 27 = .ok (.putfield 373, 3) := by decide +kernel
theorem dX12_bind_30 : decode cX12_bind 30 = .ok (.aload_n 0, 1) := by decide +kernel
theorem dX12_bind_31 : decode cX12_bind 31 = .ok (.getfield 373, 3) := by decide +kernel
theorem dX12_bind_34 : decode cX12_bind 34 = .ok (.iconst 1, 1) := by decide +kernel
theorem dX12_bind_35 : decode cX12_bind 35 = .ok (.isub, 1) := by decide +kernel
theorem dX12_bind_36 : decode cX12_bind 36 = .ok (.ireturn, 1) := by decide +kernel
theorem dX12_begin_0 : decode cX12_begin 0 = .ok (.aload_n 0, 1) := by decide +kernel
theorem dX12_begin_1 : decode cX12_begin 1 = .ok (.getfield 166, 3) := by decide +kernel
theorem dX12_begin_4 : decode cX12_begin 4 = .ok (.aload_n 0, 1) := by decide +kernel
theorem dX12_begin_5 : decode cX12_begin 5 = .ok (.getfield 376, 3) := by decide +kernel
theorem dX12_begin_8 : decode cX12_begin 8 = .ok (.iload_n 1, 1) := by decide +kernel
theorem dX12_begin_9 : decode cX12_begin 9 = .ok (.iastore, 1) := by decide +kernel
theorem dX12_begin_10 : decode cX12_begin 10 = .ok (.aload_n 0, 1) := by decide +kernel
theorem dX12_begin_11 : decode cX12_begin 11 = .ok (.getfield 169, 3) := by decide +kernel
theorem dX12_begin_14 : decode cX12_begin 14 = .ok (.aload_n 0, 1) := by decide +kernel
theorem dX12_begin_15 : decode cX12_begin 15 = .ok (.getfield 376, 3) := by decide +kernel
theorem dX12_begin_18 : decode cX12_begin 18 = .ok (.iload_n 2, 1) := by decide +kernel
theorem dX12_begin_19 : decode cX12_begin 19 = .ok (.iastore, 1) := by decide +kernel
theorem dX12_begin_20 : decode cX12_begin 20 = .ok (.aload_n 0, 1) := by decide +kernel
theorem dX12_begin_21 : decode cX12_begin 21 = .ok (.getfield 172, 3) := by decide +kernel
theorem dX12_begin_24 : decode cX12_begin 24 = .ok (.aload_n 0, 1) := by decide +kernel
theorem dX12_begin_25 : decode cX12_begin 25 = .ok (.getfield 376, 3) := by decide +kernel
theorem dX12_begin_28 : decode cX12_begin 28 = .ok (.iconst 0, 1) := by decide +kernel
theorem dX12_begin_29 : decode cX12_begin 29 = .ok (.iastore, 1) := by decide +kernel
theorem dX12_begin_30 : decode cX12_begin 30 = .ok (.aload_n 0, 1) := by decide +kernel
theorem dX12_begin_31 : decode cX12_begin 31 = .ok (.getfield 175, 3) := by decide +kernel
theorem dX12_begin_34 : decode cX12_begin 34 = .ok (.aload_n 0, 1) := by decide +kernel
theorem dX12_begin_35 : decode cX12_begin 35 = .ok (.getfield 376, 3) := by decide +kernel
theorem dX12_begin_38 : decode cX12_begin 38 = .ok (.iload_n 3, 1) := by decide +kernel
theorem dX12_begin_39 : decode cX12_begin 39 = .ok (.iastore, 1) := by decide +kernel
theorem dX12_begin_40 : decode cX12_begin 40 = .ok (.aload_n 0, 1) := by decide +kernel
theorem dX12_begin_41 : decode cX12_begin 41 = .ok (.dup, 1) := by decide +kernel
theorem dX12_begin_42 : decode cX12_begin 42 = .ok (.getfield 376, 3) := by decide +kernel
theorem dX12_begin_45 : decode cX12_begin 45 = .ok (.iconst 1, 1) := by decide +kernel
theorem dX12_begin_46 : decode cX12_begin 46 = .ok (.iadd, 1) := by decide +kernel
theorem dX12_begin_47 : decode cX12_begin 47 = .ok (.putfield 376, 3) := by decide +kernel
theorem dX12_begin_50 : decode cX12_begin 50 = .ok (.return_, 1) := by decide +kernel
theorem dX12_run_0 : decode cX12_run 0 = .ok (.aload_n 0, 1) := by decide +kernel
theorem dX12_run_1 : decode cX12_run 1 = .ok (.getfield 188, 3) := by decide +kernel
theorem dX12_run_4 : decode cX12_run 4 = .ok (.ifCond .eq 14, 3) := by decide +kernel
theorem dX12_run_7 : decode cX12_run 7 = .ok (.iload_n 1, 1) := by decide +kernel
theorem dX12_run_8 : decode cX12_run 8 = .ok (.iconst 0, 1) := by decide +kernel
theorem dX12_run_9 : decode cX12_run 9 = .ok (.sipush 20000, 3) := by decide +kernel
theorem dX12_run_12 : decode cX12_run 12 = .ok (.invokestatic 184, 3) := by decide +kernel
theorem dX12_run_15 : decode cX12_run 15 = .ok (.ifCond .ne 6, 3) := by decide +kernel
theorem dX12_run_18 : decode cX12_run 18 = .ok (.bipush (-2), 2) := by decide +kernel
theorem dX12_run_20 : decode cX12_run 20 = .ok (.ireturn, 1) := by decide +kernel
theorem dX12_run_21 : decode cX12_run 21 = .ok (.aload_n 0, 1) := by decide +kernel
theorem dX12_run_22 : decode cX12_run 22 = .ok (.iconst 0, 1) := by decide +kernel
theorem dX12_run_23 : decode cX12_run 23 = .ok (.putfield 192, 3) := by decide +kernel
theorem dX12_run_26 : decode cX12_run 26 = .ok (.aload_n 0, 1) := by decide +kernel
theorem dX12_run_27 : decode cX12_run 27 = .ok (.iconst 0, 1) := by decide +kernel
theorem dX12_run_28 : decode cX12_run 28 = .ok (.putfield 195, 3) := by decide +kernel
theorem dX12_run_31 : decode cX12_run 31 = .ok (.aload_n 0, 1) := by decide +kernel
theorem dX12_run_32 : decode cX12_run 32 = .ok (.iconst 0, 1) := by decide +kernel
theorem dX12_run_33 : decode cX12_run 33 = .ok (.putfield 373, 3) := by decide +kernel
theorem dX12_run_36 : decode cX12_run 36 = .ok (.aload_n 0, 1) := by decide +kernel
theorem dX12_run_37 : decode cX12_run 37 = .ok (.iconst 0, 1) := by decide +kernel
theorem dX12_run_38 : decode cX12_run 38 = .ok (.putfield 376, 3) := by decide +kernel
theorem dX12_run_41 : decode cX12_run 41 = .ok (.aload_n 0, 1) := by decide +kernel
theorem dX12_run_42 : decode cX12_run 42 = .ok (.iconst 0, 1) := by decide +kernel
theorem dX12_run_43 : decode cX12_run 43 = .ok (.putfield 370, 3) := by decide +kernel
theorem dX12_run_46 : decode cX12_run 46 = .ok (.aload_n 0, 1) := by decide +kernel
theorem dX12_run_47 : decode cX12_run 47 = .ok (.iconst 0, 1) := by decide +kernel
theorem dX12_run_48 : decode cX12_run 48 = .ok (.putfield 379, 3) := by decide +kernel
theorem dX12_run_51 : decode cX12_run 51 = .ok (.aload_n 0, 1) := by decide +kernel
theorem dX12_run_52 : decode cX12_run 52 = .ok (.iconst (-1), 1) := by decide +kernel
theorem dX12_run_53 : decode cX12_run 53 = .ok (.putfield 382, 3) := by decide +kernel
theorem dX12_run_56 : decode cX12_run 56 = .ok (.aload_n 0, 1) := by decide +kernel
theorem dX12_run_57 : decode cX12_run 57 = .ok (.iconst (-1), 1) := by decide +kernel
theorem dX12_run_58 : decode cX12_run 58 = .ok (.putfield 385, 3) := by decide +kernel
theorem dX12_run_61 : decode cX12_run 61 = .ok (.iconst (-1), 1) := by decide +kernel
theorem dX12_run_62 : decode cX12_run 62 = .ok (.istore_n 2, 1) := by decide +kernel
theorem dX12_run_63 : decode cX12_run 63 = .ok (.iload_n 2, 1) := by decide +kernel
theorem dX12_run_64 : decode cX12_run 64 = .ok (.ifCond .ge 72, 3) := by decide +kernel
theorem dX12_run_67 : decode cX12_run 67 = .ok (.aload_n 0, 1) := by decide +kernel
theorem dX12_run_68 : decode cX12_run 68 = .ok (.getfield 370, 3) := by decide +kernel
theorem dX12_run_71 : decode cX12_run 71 = .ok (.ifCond .ne 65, 3) := by decide +kernel
theorem dX12_run_74 : decode cX12_run 74 = .ok (.aload_n 0, 1) := by decide +kernel
theorem dX12_run_75 : decode cX12_run 75 = .ok (.getfield 195, 3) := by decide +kernel
theorem dX12_run_78 : decode cX12_run 78 = .ok (.iload_n 1, 1) := by decide +kernel
theorem dX12_run_79 : decode cX12_run 79 = .ok (.if_icmp .ne 5, 3) := by decide +kernel
theorem dX12_run_82 : decode cX12_run 82 = .ok (.iconst (-1), 1) := by decide +kernel
theorem dX12_run_83 : decode cX12_run 83 = .ok (.ireturn, 1) := by decide +kernel
theorem dX12_run_84 : decode cX12_run 84 = .ok (.aload_n 0, 1) := by decide +kernel
theorem dX12_run_85 : decode cX12_run 85 = .ok (.getfield 376, 3) := by decide +kernel
theorem dX12_run_88 : decode cX12_run 88 = .ok (.sipush 300, 3) := by decide +kernel
theorem dX12_run_91 : decode cX12_run 91 = .ok (.if_icmp .ne 6, 3) := by decide +kernel
theorem dX12_run_94 : decode cX12_run 94 = .ok (.bipush (-16), 2) := by decide +kernel
theorem dX12_run_96 : decode cX12_run 96 = .ok (.ireturn, 1) := by decide +kernel
theorem dX12_run_97 : decode cX12_run 97 = .ok (.aload_n 0, 1) := by decide +kernel
theorem dX12_run_98 : decode cX12_run 98 = .ok (.dup, 1) := by decide +kernel
theorem dX12_run_99 : decode cX12_run 99 = .ok (.getfield 195, 3) := by decide +kernel
theorem dX12_run_102 : decode cX12_run 102 = .ok (.iconst 1, 1) := by decide +kernel
theorem dX12_run_103 : decode cX12_run 103 = .ok (.iadd, 1) := by decide +kernel
theorem dX12_run_104 : decode cX12_run 104 = .ok (.putfield 195, 3) := by decide +kernel
theorem dX12_run_107 : decode cX12_run 107 = .ok (.aload_n 0, 1) := by decide +kernel
theorem dX12_run_108 : decode cX12_run 108 = .ok (.aload_n 0, 1) := by decide +kernel
theorem dX12_run_109 : decode cX12_run 109 = .ok (.getfield 379, 3) := by decide +kernel
theorem dX12_run_112 : decode cX12_run 112 = .ok (.aload_n 0, 1) := by decide +kernel
theorem dX12_run_113 : decode cX12_run 113 = .ok (.getfield 382, 3) := by decide +kernel
theorem dX12_run_116 : decode cX12_run 116 = .ok (.aload_n 0, 1) := by decide +kernel
theorem dX12_run_117 : decode cX12_run 117 = .ok (.getfield 385, 3) := by decide +kernel
theorem dX12_run_120 : decode cX12_run 120 = .ok (.invokevirtual 388, 3) := by decide +kernel
theorem dX12_run_123 : decode cX12_run 123 = .ok (.aload_n 0, 1) := by decide +kernel
theorem dX12_run_124 : decode cX12_run 124 = .ok (.iconst (-1), 1) := by decide +kernel
theorem dX12_run_125 : decode cX12_run 125 = .ok (.putfield 379, 3) := by decide +kernel
theorem dX12_run_128 : decode cX12_run 128 = .ok (.aload_n 0, 1) := by decide +kernel
theorem dX12_run_129 : decode cX12_run 129 = .ok (.invokevirtual 391, 3) := by decide +kernel
theorem dX12_run_132 : decode cX12_run 132 = .ok (.istore_n 2, 1) := by decide +kernel
theorem dX12_run_133 : decode cX12_run 133 = .ok (.goto (-70), 3) := by decide +kernel
theorem dX12_run_136 : decode cX12_run 136 = .ok (.aload_n 0, 1) := by decide +kernel
theorem dX12_run_137 : decode cX12_run 137 = .ok (.getfield 370, 3) := by decide +kernel
theorem dX12_run_140 : decode cX12_run 140 = .ok (.ifCond .eq 10, 3) := by decide +kernel
theorem dX12_run_143 : decode cX12_run 143 = .ok (.aload_n 0, 1) := by decide +kernel
theorem dX12_run_144 : decode cX12_run 144 = .ok (.getfield 370, 3) := by decide +kernel
theorem dX12_run_147 : decode cX12_run 147 = .ok (.goto 4, 3) := by decide +kernel
theorem dX12_run_150 : decode cX12_run 150 = .ok (.iload_n 2, 1) := by decide +kernel
theorem dX12_run_151 : decode cX12_run 151 = .ok (.ireturn, 1) := by decide +kernel
theorem dX12_goOn_0 : decode cX12_goOn 0 = .ok (.iconst (-1), 1) := by decide +kernel
theorem dX12_goOn_1 : decode cX12_goOn 1 = .ok (.istore_n 1, 1) := by decide +kernel
theorem dX12_goOn_2 : decode cX12_goOn 2 = .ok (.aload_n 0, 1) := by decide +kernel
theorem dX12_goOn_3 : decode cX12_goOn 3 = .ok (.getfield 379, 3) := by decide +kernel
theorem dX12_goOn_6 : decode cX12_goOn 6 = .ok (.ifCond .ge 99, 3) := by decide +kernel
theorem dX12_goOn_9 : decode cX12_goOn 9 = .ok (.aload_n 0, 1) := by decide +kernel
theorem dX12_goOn_10 : decode cX12_goOn 10 = .ok (.getfield 370, 3) := by decide +kernel
theorem dX12_goOn_13 : decode cX12_goOn 13 = .ok (.ifCond .ne 92, 3) := by decide +kernel
theorem dX12_goOn_16 : decode cX12_goOn 16 = .ok (.aload_n 0, 1) := by decide +kernel
theorem dX12_goOn_17 : decode cX12_goOn 17 = .ok (.getfield 376, 3) := by decide +kernel
theorem dX12_goOn_20 : decode cX12_goOn 20 = .ok (.iconst 1, 1) := by decide +kernel
theorem dX12_goOn_21 : decode cX12_goOn 21 = .ok (.isub, 1) := by decide +kernel
theorem dX12_goOn_22 : decode cX12_goOn 22 = .ok (.istore_n 2, 1) := by decide +kernel
theorem dX12_goOn_23 : decode cX12_goOn 23 = .ok (.aload_n 0, 1) := by decide +kernel
theorem dX12_goOn_24 : decode cX12_goOn 24 = .ok (.getfield 166, 3) := by decide +kernel
theorem dX12_goOn_27 : decode cX12_goOn 27 = .ok (.iload_n 2, 1) := by decide +kernel
theorem dX12_goOn_28 : decode cX12_goOn 28 = .ok (.iaload, 1) := by decide +kernel
theorem dX12_goOn_29 : decode cX12_goOn 29 = .ok (.istore_n 3, 1) := by decide +kernel
theorem dX12_goOn_30 : decode cX12_goOn 30 = .ok (.iload_n 1, 1) := by decide +kernel
theorem dX12_goOn_31 : decode cX12_goOn 31 = .ok (.ifCond .lt 30, 3) := by decide +kernel
theorem dX12_goOn_34 : decode cX12_goOn 34 = .ok (.aload_n 0, 1) := by decide +kernel
theorem dX12_goOn_35 : decode cX12_goOn 35 = .ok (.getfield 178, 3) := by decide +kernel
theorem dX12_goOn_38 : decode cX12_goOn 38 = .ok (.bipush 9, 2) := by decide +kernel
theorem dX12_goOn_40 : decode cX12_goOn 40 = .ok (.iload_n 2, 1) := by decide +kernel
theorem dX12_goOn_41 : decode cX12_goOn 41 = .ok (.imul, 1) := by decide +kernel
theorem dX12_goOn_42 : decode cX12_goOn 42 = .ok (.aload_n 0, 1) := by decide +kernel
theorem dX12_goOn_43 : decode cX12_goOn 43 = .ok (.getfield 172, 3) := by decide +kernel
theorem dX12_goOn_46 : decode cX12_goOn 46 = .ok (.iload_n 2, 1) := by decide +kernel
theorem dX12_goOn_47 : decode cX12_goOn 47 = .ok (.iaload, 1) := by decide +kernel
theorem dX12_goOn_48 : decode cX12_goOn 48 = .ok (.iadd, 1) := by decide +kernel
theorem dX12_goOn_49 : decode cX12_goOn 49 = .ok (.iload_n 1, 1) := by decide +kernel
theorem dX12_goOn_50 : decode cX12_goOn 50 = .ok (.iastore, 1) := by decide +kernel
theorem dX12_goOn_51 : decode cX12_goOn 51 = .ok (.aload_n 0, 1) := by decide +kernel
theorem dX12_goOn_52 : decode cX12_goOn 52 = .ok (.getfield 172, 3) := by decide +kernel
theorem dX12_goOn_55 : decode cX12_goOn 55 = .ok (.iload_n 2, 1) := by decide +kernel
theorem dX12_goOn_56 : decode cX12_goOn 56 = .ok (.dup2, 1) := by decide +kernel
theorem dX12_goOn_57 : decode cX12_goOn 57 = .ok (.iaload, 1) := by decide +kernel
theorem dX12_goOn_58 : decode cX12_goOn 58 = .ok (.iconst 1, 1) := by decide +kernel
theorem dX12_goOn_59 : decode cX12_goOn 59 = .ok (.iadd, 1) := by decide +kernel
theorem dX12_goOn_60 : decode cX12_goOn 60 = .ok (.iastore, 1) := by decide +kernel
theorem dX12_goOn_61 : decode cX12_goOn 61 = .ok (.iconst (-1), 1) := by decide +kernel
theorem dX12_goOn_62 : decode cX12_goOn 62 = .ok (.istore_n 1, 1) := by decide +kernel
theorem dX12_goOn_63 : decode cX12_goOn 63 = .ok (.aload_n 0, 1) := by decide +kernel
theorem dX12_goOn_64 : decode cX12_goOn 64 = .ok (.iload_n 2, 1) := by decide +kernel
theorem dX12_goOn_65 : decode cX12_goOn 65 = .ok (.iload_n 3, 1) := by decide +kernel
theorem dX12_goOn_66 : decode cX12_goOn 66 = .ok (.invokevirtual 394, 3) := by decide +kernel
theorem dX12_goOn_69 : decode cX12_goOn 69 = .ok (.ifCond .ne 33, 3) := by decide +kernel
theorem dX12_goOn_72 : decode cX12_goOn 72 = .ok (.aload_n 0, 1) := by decide +kernel
theorem dX12_goOn_73 : decode cX12_goOn 73 = .ok (.iload_n 2, 1) := by decide +kernel
theorem dX12_goOn_74 : decode cX12_goOn 74 = .ok (.iload_n 3, 1) := by decide +kernel
theorem dX12_goOn_75 : decode cX12_goOn 75 = .ok (.invokevirtual 397, 3) := by decide +kernel
theorem dX12_goOn_78 : decode cX12_goOn 78 = .ok (.istore_n 1, 1) := by decide +kernel
theorem dX12_goOn_79 : decode cX12_goOn 79 = .ok (.aload_n 0, 1) := by decide +kernel
theorem dX12_goOn_80 : decode cX12_goOn 80 = .ok (.getfield 379, 3) := by decide +kernel
theorem dX12_goOn_83 : decode cX12_goOn 83 = .ok (.ifCond .ge 19, 3) := by decide +kernel
theorem dX12_goOn_86 : decode cX12_goOn 86 = .ok (.aload_n 0, 1) := by decide +kernel
theorem dX12_goOn_87 : decode cX12_goOn 87 = .ok (.getfield 370, 3) := by decide +kernel
theorem dX12_goOn_90 : decode cX12_goOn 90 = .ok (.ifCond .ne 12, 3) := by decide +kernel
theorem dX12_goOn_93 : decode cX12_goOn 93 = .ok (.aload_n 0, 1) := by decide +kernel
theorem dX12_goOn_94 : decode cX12_goOn 94 = .ok (.getfield 376, 3) := by decide +kernel
theorem dX12_goOn_97 : decode cX12_goOn 97 = .ok (.ifCond .ne 5, 3) := by decide +kernel
theorem dX12_goOn_100 : decode cX12_goOn 100 = .ok (.iload_n 1, 1) := by decide +kernel
theorem dX12_goOn_101 : decode cX12_goOn 101 = .ok (.ireturn, 1) := by decide +kernel
theorem dX12_goOn_102 : decode cX12_goOn 102 = .ok (.goto (-100), 3) := by decide +kernel
theorem dX12_goOn_105 : decode cX12_goOn 105 = .ok (.iconst (-1), 1) := by decide +kernel
theorem dX12_goOn_106 : decode cX12_goOn 106 = .ok (.ireturn, 1) := by decide +kernel
theorem dX12_next_0 : decode cX12_next 0 = .ok (.aload_n 0, 1) := by decide +kernel
theorem dX12_next_1 : decode cX12_next 1 = .ok (.iload_n 1, 1) := by decide +kernel
theorem dX12_next_2 : decode cX12_next 2 = .ok (.putfield 379, 3) := by decide +kernel
theorem dX12_next_5 : decode cX12_next 5 = .ok (.aload_n 0, 1) := by decide +kernel
theorem dX12_next_6 : decode cX12_next 6 = .ok (.iload_n 2, 1) := by decide +kernel
theorem dX12_next_7 : decode cX12_next 7 = .ok (.putfield 382, 3) := by decide +kernel
theorem dX12_next_10 : decode cX12_next 10 = .ok (.aload_n 0, 1) := by decide +kernel
theorem dX12_next_11 : decode cX12_next 11 = .ok (.iload_n 3, 1) := by decide +kernel
theorem dX12_next_12 : decode cX12_next 12 = .ok (.putfield 385, 3) := by decide +kernel
theorem dX12_next_15 : decode cX12_next 15 = .ok (.return_, 1) := by decide +kernel
theorem dX12_wantsMore_0 : decode cX12_wantsMore 0 = .ok (.aload_n 0, 1) := by decide +kernel
theorem dX12_wantsMore_1 : decode cX12_wantsMore 1 = .ok (.getfield 172, 3) := by decide +kernel
theorem dX12_wantsMore_4 : decode cX12_wantsMore 4 = .ok (.iload_n 1, 1) := by decide +kernel
theorem dX12_wantsMore_5 : decode cX12_wantsMore 5 = .ok (.iaload, 1) := by decide +kernel
theorem dX12_wantsMore_6 : decode cX12_wantsMore 6 = .ok (.istore_n 3, 1) := by decide +kernel
theorem dX12_wantsMore_7 : decode cX12_wantsMore 7 = .ok (.aload_n 0, 1) := by decide +kernel
theorem dX12_wantsMore_8 : decode cX12_wantsMore 8 = .ok (.getfield 103, 3) := by decide +kernel
theorem dX12_wantsMore_11 : decode cX12_wantsMore 11 = .ok (.iload_n 2, 1) := by decide +kernel
theorem dX12_wantsMore_12 : decode cX12_wantsMore 12 = .ok (.iaload, 1) := by decide +kernel
theorem dX12_wantsMore_13 : decode cX12_wantsMore 13 = .ok (.bipush 28, 2) := by decide +kernel
theorem dX12_wantsMore_15 : decode cX12_wantsMore 15 = .ok (.if_icmp .eq 14, 3) := by decide +kernel
theorem dX12_wantsMore_18 : decode cX12_wantsMore 18 = .ok (.aload_n 0, 1) := by decide +kernel
theorem dX12_wantsMore_19 : decode cX12_wantsMore 19 = .ok (.getfield 103, 3) := by decide +kernel
theorem dX12_wantsMore_22 : decode cX12_wantsMore 22 = .ok (.iload_n 2, 1) := by decide +kernel
theorem dX12_wantsMore_23 : decode cX12_wantsMore 23 = .ok (.iaload, 1) := by decide +kernel
theorem dX12_wantsMore_24 : decode cX12_wantsMore 24 = .ok (.bipush 32, 2) := by decide +kernel
theorem dX12_wantsMore_26 : decode cX12_wantsMore 26 = .ok (.if_icmp .ne 7, 3) := by decide +kernel
theorem dX12_wantsMore_29 : decode cX12_wantsMore 29 = .ok (.iconst 1, 1) := by decide +kernel
theorem dX12_wantsMore_30 : decode cX12_wantsMore 30 = .ok (.goto 35, 3) := by decide +kernel
theorem dX12_wantsMore_33 : decode cX12_wantsMore 33 = .ok (.aload_n 0, 1) := by decide +kernel
theorem dX12_wantsMore_34 : decode cX12_wantsMore 34 = .ok (.getfield 103, 3) := by decide +kernel
theorem dX12_wantsMore_37 : decode cX12_wantsMore 37 = .ok (.iload_n 2, 1) := by decide +kernel
theorem dX12_wantsMore_38 : decode cX12_wantsMore 38 = .ok (.iaload, 1) := by decide +kernel
theorem dX12_wantsMore_39 : decode cX12_wantsMore 39 = .ok (.bipush 21, 2) := by decide +kernel
theorem dX12_wantsMore_41 : decode cX12_wantsMore 41 = .ok (.if_icmp .eq 14, 3) := by decide +kernel
theorem dX12_wantsMore_44 : decode cX12_wantsMore 44 = .ok (.aload_n 0, 1) := by decide +kernel
theorem dX12_wantsMore_45 : decode cX12_wantsMore 45 = .ok (.getfield 103, 3) := by decide +kernel
theorem dX12_wantsMore_48 : decode cX12_wantsMore 48 = .ok (.iload_n 2, 1) := by decide +kernel
theorem dX12_wantsMore_49 : decode cX12_wantsMore 49 = .ok (.iaload, 1) := by decide +kernel
theorem dX12_wantsMore_50 : decode cX12_wantsMore 50 = .ok (.bipush 33, 2) := by decide +kernel
theorem dX12_wantsMore_52 : decode cX12_wantsMore 52 = .ok (.if_icmp .ne 7, 3) := by decide +kernel
theorem dX12_wantsMore_55 : decode cX12_wantsMore 55 = .ok (.iconst 0, 1) := by decide +kernel
theorem dX12_wantsMore_56 : decode cX12_wantsMore 56 = .ok (.goto 9, 3) := by decide +kernel
theorem dX12_wantsMore_59 : decode cX12_wantsMore 59 = .ok (.aload_n 0, 1) := by decide +kernel
theorem dX12_wantsMore_60 : decode cX12_wantsMore 60 = .ok (.getfield 118, 3) := by decide +kernel
theorem dX12_wantsMore_63 : decode cX12_wantsMore 63 = .ok (.iload_n 2, 1) := by decide +kernel
theorem dX12_wantsMore_64 : decode cX12_wantsMore 64 = .ok (.iaload, 1) := by decide +kernel
theorem dX12_wantsMore_65 : decode cX12_wantsMore 65 = .ok (.istore 4, 2) := by decide +kernel
theorem dX12_wantsMore_67 : decode cX12_wantsMore 67 = .ok (.iload_n 3, 1) := by decide +kernel
theorem dX12_wantsMore_68 : decode cX12_wantsMore 68 = .ok (.iload 4, 2) := by decide +kernel
theorem dX12_wantsMore_70 : decode cX12_wantsMore 70 = .ok (.if_icmp .lt 5, 3) := by decide +kernel
theorem dX12_wantsMore_73 : decode cX12_wantsMore 73 = .ok (.iconst 0, 1) := by decide +kernel
theorem dX12_wantsMore_74 : decode cX12_wantsMore 74 = .ok (.ireturn, 1) := by decide +kernel
theorem dX12_wantsMore_75 : decode cX12_wantsMore 75 = .ok (.aload_n 0, 1) := by decide +kernel
theorem dX12_wantsMore_76 : decode cX12_wantsMore 76 = .ok (.getfield 103, 3) := by decide +kernel
theorem dX12_wantsMore_79 : decode cX12_wantsMore 79 = .ok (.iload_n 2, 1) := by decide +kernel
theorem dX12_wantsMore_80 : decode cX12_wantsMore 80 = .ok (.iaload, 1) := by decide +kernel
theorem dX12_wantsMore_81 : decode cX12_wantsMore 81 = .ok (.bipush 32, 2) := by decide +kernel
theorem dX12_wantsMore_83 : decode cX12_wantsMore 83 = .ok (.if_icmp .ne 14, 3) := by decide +kernel
theorem dX12_wantsMore_86 : decode cX12_wantsMore 86 = .ok (.aload_n 0, 1) := by decide +kernel
theorem dX12_wantsMore_87 : decode cX12_wantsMore 87 = .ok (.getfield 118, 3) := by decide +kernel
theorem dX12_wantsMore_90 : decode cX12_wantsMore 90 = .ok (.iload_n 2, 1) := by decide +kernel
theorem dX12_wantsMore_91 : decode cX12_wantsMore 91 = .ok (.iaload, 1) := by decide +kernel
theorem dX12_wantsMore_92 : decode cX12_wantsMore 92 = .ok (.iconst 1, 1) := by decide +kernel
theorem dX12_wantsMore_93 : decode cX12_wantsMore 93 = .ok (.isub, 1) := by decide +kernel
theorem dX12_wantsMore_94 : decode cX12_wantsMore 94 = .ok (.goto 4, 3) := by decide +kernel
theorem dX12_wantsMore_97 : decode cX12_wantsMore 97 = .ok (.iload_n 3, 1) := by decide +kernel
theorem dX12_wantsMore_98 : decode cX12_wantsMore 98 = .ok (.istore 5, 2) := by decide +kernel
theorem dX12_wantsMore_100 : decode cX12_wantsMore 100 = .ok (.aload_n 0, 1) := by decide +kernel
theorem dX12_wantsMore_101 : decode cX12_wantsMore 101 = .ok (.aload_n 0, 1) := by decide +kernel
theorem dX12_wantsMore_102 : decode cX12_wantsMore 102 = .ok (.getfield 112, 3) := by decide +kernel
theorem dX12_wantsMore_105 : decode cX12_wantsMore 105 = .ok (.bipush 9, 2) := by decide +kernel
theorem dX12_wantsMore_107 : decode cX12_wantsMore 107 = .ok (.iload_n 2, 1) := by decide +kernel
theorem dX12_wantsMore_108 : decode cX12_wantsMore 108 = .ok (.imul, 1) := by decide +kernel
theorem dX12_wantsMore_109 : decode cX12_wantsMore 109 = .ok (.iload 5, 2) := by decide +kernel
theorem dX12_wantsMore_111 : decode cX12_wantsMore 111 = .ok (.iadd, 1) := by decide +kernel
theorem dX12_wantsMore_112 : decode cX12_wantsMore 112 = .ok (.iaload, 1) := by decide +kernel
theorem dX12_wantsMore_113 : decode cX12_wantsMore 113 = .ok (.aload_n 0, 1) := by decide +kernel
theorem dX12_wantsMore_114 : decode cX12_wantsMore 114 = .ok (.getfield 169, 3) := by decide +kernel
theorem dX12_wantsMore_117 : decode cX12_wantsMore 117 = .ok (.iload_n 1, 1) := by decide +kernel
theorem dX12_wantsMore_118 : decode cX12_wantsMore 118 = .ok (.iaload, 1) := by decide +kernel
theorem dX12_wantsMore_119 : decode cX12_wantsMore 119 = .ok (.iconst (-1), 1) := by decide +kernel
theorem dX12_wantsMore_120 : decode cX12_wantsMore 120 = .ok (.invokevirtual 400, 3) := by decide +kernel
theorem dX12_wantsMore_123 : decode cX12_wantsMore 123 = .ok (.iconst 1, 1) := by decide +kernel
theorem dX12_wantsMore_124 : decode cX12_wantsMore 124 = .ok (.ireturn, 1) := by decide +kernel
theorem dX12_finish_0 : decode cX12_finish 0 = .ok (.aload_n 0, 1) := by decide +kernel
theorem dX12_finish_1 : decode cX12_finish 1 = .ok (.getfield 169, 3) := by decide +kernel
theorem dX12_finish_4 : decode cX12_finish 4 = .ok (.iload_n 1, 1) := by decide +kernel
theorem dX12_finish_5 : decode cX12_finish 5 = .ok (.iaload, 1) := by decide +kernel
theorem dX12_finish_6 : decode cX12_finish 6 = .ok (.istore_n 3, 1) := by decide +kernel
theorem dX12_finish_7 : decode cX12_finish 7 = .ok (.aload_n 0, 1) := by decide +kernel
theorem dX12_finish_8 : decode cX12_finish 8 = .ok (.getfield 178, 3) := by decide +kernel
theorem dX12_finish_11 : decode cX12_finish 11 = .ok (.bipush 9, 2) := by decide +kernel
theorem dX12_finish_13 : decode cX12_finish 13 = .ok (.iload_n 1, 1) := by decide +kernel
theorem dX12_finish_14 : decode cX12_finish 14 = .ok (.imul, 1) := by decide +kernel
theorem dX12_finish_15 : decode cX12_finish 15 = .ok (.iaload, 1) := by decide +kernel
theorem dX12_finish_16 : decode cX12_finish 16 = .ok (.istore 4, 2) := by decide +kernel
theorem dX12_finish_18 : decode cX12_finish 18 = .ok (.aload_n 0, 1) := by decide +kernel
theorem dX12_finish_19 : decode cX12_finish 19 = .ok (.getfield 178, 3) := by decide +kernel
theorem dX12_finish_22 : decode cX12_finish 22 = .ok (.bipush 9, 2) := by decide +kernel
theorem dX12_finish_24 : decode cX12_finish 24 = .ok (.iload_n 1, 1) := by decide +kernel
theorem dX12_finish_25 : decode cX12_finish 25 = .ok (.imul, 1) := by decide +kernel
theorem dX12_finish_26 : decode cX12_finish 26 = .ok (.iconst 1, 1) := by decide +kernel
theorem dX12_finish_27 : decode cX12_finish 27 = .ok (.iadd, 1) := by decide +kernel
theorem dX12_finish_28 : decode cX12_finish 28 = .ok (.iaload, 1) := by decide +kernel
theorem dX12_finish_29 : decode cX12_finish 29 = .ok (.istore 5, 2) := by decide +kernel
theorem dX12_finish_31 : decode cX12_finish 31 = .ok (.aload_n 0, 1) := by decide +kernel
theorem dX12_finish_32 : decode cX12_finish 32 = .ok (.getfield 175, 3) := by decide +kernel
theorem dX12_finish_35 : decode cX12_finish 35 = .ok (.iload_n 1, 1) := by decide +kernel
theorem dX12_finish_36 : decode cX12_finish 36 = .ok (.iaload, 1) := by decide +kernel
theorem dX12_finish_37 : decode cX12_finish 37 = .ok (.istore 6, 2) := by decide +kernel
theorem dX12_finish_39 : decode cX12_finish 39 = .ok (.aload_n 0, 1) := by decide +kernel
theorem dX12_finish_40 : decode cX12_finish 40 = .ok (.dup, 1) := by decide +kernel
theorem dX12_finish_41 : decode cX12_finish 41 = .ok (.getfield 376, 3) := by decide +kernel
theorem dX12_finish_44 : decode cX12_finish 44 = .ok (.iconst 1, 1) := by decide +kernel
theorem dX12_finish_45 : decode cX12_finish 45 = .ok (.isub, 1) := by decide +kernel
theorem dX12_finish_46 : decode cX12_finish 46 = .ok (.putfield 376, 3) := by decide +kernel
theorem dX12_finish_49 : decode cX12_finish 49 = .ok (.aload_n 0, 1) := by decide +kernel
theorem dX12_finish_50 : decode cX12_finish 50 = .ok (.getfield 103, 3) := by decide +kernel
theorem dX12_finish_53 : decode cX12_finish 53 = .ok (.iload_n 2, 1) := by decide +kernel
theorem dX12_finish_54 : decode cX12_finish 54 = .ok (.iaload, 1) := by decide +kernel
theorem dX12_finish_55 : decode cX12_finish 55 = .ok (.tableswitch 283 20 28 #[49, 89, 139, 166, 178, 199, 227, 227, 249], 49) := by decide +kernel
theorem dX12_finish_104 : decode cX12_finish 104 = .ok (.iload_n 3, 1) := by decide +kernel
theorem dX12_finish_105 : decode cX12_finish 105 = .ok (.istore 7, 2) := by decide +kernel
theorem dX12_finish_107 : decode cX12_finish 107 = .ok (.iconst 0, 1) := by decide +kernel
theorem dX12_finish_108 : decode cX12_finish 108 = .ok (.istore 8, 2) := by decide +kernel
theorem dX12_finish_110 : decode cX12_finish 110 = .ok (.iload 8, 2) := by decide +kernel
theorem dX12_finish_112 : decode cX12_finish 112 = .ok (.aload_n 0, 1) := by decide +kernel
theorem dX12_finish_113 : decode cX12_finish 113 = .ok (.getfield 106, 3) := by decide +kernel
theorem dX12_finish_116 : decode cX12_finish 116 = .ok (.iload_n 2, 1) := by decide +kernel
theorem dX12_finish_117 : decode cX12_finish 117 = .ok (.iaload, 1) := by decide +kernel
theorem dX12_finish_118 : decode cX12_finish 118 = .ok (.if_icmp .ge 18, 3) := by decide +kernel
theorem dX12_finish_121 : decode cX12_finish 121 = .ok (.aload_n 0, 1) := by decide +kernel
theorem dX12_finish_122 : decode cX12_finish 122 = .ok (.getfield 163, 3) := by decide +kernel
theorem dX12_finish_125 : decode cX12_finish 125 = .ok (.iload 7, 2) := by decide +kernel
theorem dX12_finish_127 : decode cX12_finish 127 = .ok (.iaload, 1) := by decide +kernel
theorem dX12_finish_128 : decode cX12_finish 128 = .ok (.istore 7, 2) := by decide +kernel
theorem dX12_finish_130 : decode cX12_finish 130 = .ok (.iinc 8 1, 3) := by decide +kernel
theorem dX12_finish_133 : decode cX12_finish 133 = .ok (.goto (-23), 3) := by decide +kernel
theorem dX12_finish_136 : decode cX12_finish 136 = .ok (.aload_n 0, 1) := by decide +kernel
theorem dX12_finish_137 : decode cX12_finish 137 = .ok (.getfield 160, 3) := by decide +kernel
theorem dX12_finish_140 : decode cX12_finish 140 = .ok (.iload 7, 2) := by decide +kernel
theorem dX12_finish_142 : decode cX12_finish 142 = .ok (.iaload, 1) := by decide +kernel
theorem dX12_finish_143 : decode cX12_finish 143 = .ok (.ireturn, 1) := by decide +kernel
theorem dX12_finish_144 : decode cX12_finish 144 = .ok (.iload 6, 2) := by decide +kernel
theorem dX12_finish_146 : decode cX12_finish 146 = .ok (.ifCond .lt 8, 3) := by decide +kernel
theorem dX12_finish_149 : decode cX12_finish 149 = .ok (.iload 6, 2) := by decide +kernel
theorem dX12_finish_151 : decode cX12_finish 151 = .ok (.goto 9, 3) := by decide +kernel
theorem dX12_finish_154 : decode cX12_finish 154 = .ok (.aload_n 0, 1) := by decide +kernel
theorem dX12_finish_155 : decode cX12_finish 155 = .ok (.iconst 4, 1) := by decide +kernel
theorem dX12_finish_156 : decode cX12_finish 156 = .ok (.iconst 0, 1) := by decide +kernel
theorem dX12_finish_157 : decode cX12_finish 157 = .ok (.invokevirtual 403, 3) := by decide +kernel
theorem dX12_finish_160 : decode cX12_finish 160 = .ok (.istore 7, 2) := by decide +kernel
theorem dX12_finish_162 : decode cX12_finish 162 = .ok (.iload 7, 2) := by decide +kernel
theorem dX12_finish_164 : decode cX12_finish 164 = .ok (.ifCond .lt 27, 3) := by decide +kernel
theorem dX12_finish_167 : decode cX12_finish 167 = .ok (.aload_n 0, 1) := by decide +kernel
theorem dX12_finish_168 : decode cX12_finish 168 = .ok (.getfield 154, 3) := by decide +kernel
theorem dX12_finish_171 : decode cX12_finish 171 = .ok (.iload 7, 2) := by decide +kernel
theorem dX12_finish_173 : decode cX12_finish 173 = .ok (.aload_n 0, 1) := by decide +kernel
theorem dX12_finish_174 : decode cX12_finish 174 = .ok (.getfield 112, 3) := by decide +kernel
theorem dX12_finish_177 : decode cX12_finish 177 = .ok (.bipush 9, 2) := by decide +kernel
theorem dX12_finish_179 : decode cX12_finish 179 = .ok (.iload_n 2, 1) := by decide +kernel
theorem dX12_finish_180 : decode cX12_finish 180 = .ok (.imul, 1) := by decide +kernel
theorem dX12_finish_181 : decode cX12_finish 181 = .ok (.iaload, 1) := by decide +kernel
theorem dX12_finish_182 : decode cX12_finish 182 = .ok (.iastore, 1) := by decide +kernel
theorem dX12_finish_183 : decode cX12_finish 183 = .ok (.aload_n 0, 1) := by decide +kernel
theorem dX12_finish_184 : decode cX12_finish 184 = .ok (.getfield 157, 3) := by decide +kernel
theorem dX12_finish_187 : decode cX12_finish 187 = .ok (.iload 7, 2) := by decide +kernel
theorem dX12_finish_189 : decode cX12_finish 189 = .ok (.iload_n 3, 1) := by decide +kernel
theorem dX12_finish_190 : decode cX12_finish 190 = .ok (.iastore, 1) := by decide +kernel
theorem dX12_finish_191 : decode cX12_finish 191 = .ok (.iload 7, 2) := by decide +kernel
theorem dX12_finish_193 : decode cX12_finish 193 = .ok (.ireturn, 1) := by decide +kernel
theorem dX12_finish_194 : decode cX12_finish 194 = .ok (.aload_n 0, 1) := by decide +kernel
theorem dX12_finish_195 : decode cX12_finish 195 = .ok (.aload_n 0, 1) := by decide +kernel
theorem dX12_finish_196 : decode cX12_finish 196 = .ok (.getfield 154, 3) := by decide +kernel
theorem dX12_finish_199 : decode cX12_finish 199 = .ok (.iload 4, 2) := by decide +kernel
theorem dX12_finish_201 : decode cX12_finish 201 = .ok (.iaload, 1) := by decide +kernel
theorem dX12_finish_202 : decode cX12_finish 202 = .ok (.aload_n 0, 1) := by decide +kernel
theorem dX12_finish_203 : decode cX12_finish 203 = .ok (.iload 5, 2) := by decide +kernel
theorem dX12_finish_205 : decode cX12_finish 205 = .ok (.aload_n 0, 1) := by decide +kernel
theorem dX12_finish_206 : decode cX12_finish 206 = .ok (.getfield 157, 3) := by decide +kernel
theorem dX12_finish_209 : decode cX12_finish 209 = .ok (.iload 4, 2) := by decide +kernel
theorem dX12_finish_211 : decode cX12_finish 211 = .ok (.iaload, 1) := by decide +kernel
theorem dX12_finish_212 : decode cX12_finish 212 = .ok (.invokevirtual 406, 3) := by decide +kernel
theorem dX12_finish_215 : decode cX12_finish 215 = .ok (.iconst (-1), 1) := by decide +kernel
theorem dX12_finish_216 : decode cX12_finish 216 = .ok (.invokevirtual 400, 3) := by decide +kernel
theorem dX12_finish_219 : decode cX12_finish 219 = .ok (.iconst (-1), 1) := by decide +kernel
theorem dX12_finish_220 : decode cX12_finish 220 = .ok (.ireturn, 1) := by decide +kernel
theorem dX12_finish_221 : decode cX12_finish 221 = .ok (.aload_n 0, 1) := by decide +kernel
theorem dX12_finish_222 : decode cX12_finish 222 = .ok (.iconst 2, 1) := by decide +kernel
theorem dX12_finish_223 : decode cX12_finish 223 = .ok (.aload_n 0, 1) := by decide +kernel
theorem dX12_finish_224 : decode cX12_finish 224 = .ok (.getfield 106, 3) := by decide +kernel
theorem dX12_finish_227 : decode cX12_finish 227 = .ok (.iload_n 2, 1) := by decide +kernel
theorem dX12_finish_228 : decode cX12_finish 228 = .ok (.iaload, 1) := by decide +kernel
theorem dX12_finish_229 : decode cX12_finish 229 = .ok (.invokevirtual 403, 3) := by decide +kernel
theorem dX12_finish_232 : decode cX12_finish 232 = .ok (.ireturn, 1) := by decide +kernel
theorem dX12_finish_233 : decode cX12_finish 233 = .ok (.aload_n 0, 1) := by decide +kernel
theorem dX12_finish_234 : decode cX12_finish 234 = .ok (.iconst 2, 1) := by decide +kernel
theorem dX12_finish_235 : decode cX12_finish 235 = .ok (.aload_n 0, 1) := by decide +kernel
theorem dX12_finish_236 : decode cX12_finish 236 = .ok (.getfield 148, 3) := by decide +kernel
theorem dX12_finish_239 : decode cX12_finish 239 = .ok (.iload 4, 2) := by decide +kernel
theorem dX12_finish_241 : decode cX12_finish 241 = .ok (.iaload, 1) := by decide +kernel
theorem dX12_finish_242 : decode cX12_finish 242 = .ok (.aload_n 0, 1) := by decide +kernel
theorem dX12_finish_243 : decode cX12_finish 243 = .ok (.getfield 148, 3) := by decide +kernel
theorem dX12_finish_246 : decode cX12_finish 246 = .ok (.iload 5, 2) := by decide +kernel
theorem dX12_finish_248 : decode cX12_finish 248 = .ok (.iaload, 1) := by decide +kernel
theorem dX12_finish_249 : decode cX12_finish 249 = .ok (.iadd, 1) := by decide +kernel
theorem dX12_finish_250 : decode cX12_finish 250 = .ok (.invokevirtual 403, 3) := by decide +kernel
theorem dX12_finish_253 : decode cX12_finish 253 = .ok (.ireturn, 1) := by decide +kernel
theorem dX12_finish_254 : decode cX12_finish 254 = .ok (.aload_n 0, 1) := by decide +kernel
theorem dX12_finish_255 : decode cX12_finish 255 = .ok (.iconst 3, 1) := by decide +kernel
theorem dX12_finish_256 : decode cX12_finish 256 = .ok (.aload_n 0, 1) := by decide +kernel
theorem dX12_finish_257 : decode cX12_finish 257 = .ok (.getfield 148, 3) := by decide +kernel
theorem dX12_finish_260 : decode cX12_finish 260 = .ok (.iload 4, 2) := by decide +kernel
theorem dX12_finish_262 : decode cX12_finish 262 = .ok (.iaload, 1) := by decide +kernel
theorem dX12_finish_263 : decode cX12_finish 263 = .ok (.aload_n 0, 1) := by decide +kernel
theorem dX12_finish_264 : decode cX12_finish 264 = .ok (.getfield 148, 3) := by decide +kernel
theorem dX12_finish_267 : decode cX12_finish 267 = .ok (.iload 5, 2) := by decide +kernel
theorem dX12_finish_269 : decode cX12_finish 269 = .ok (.iaload, 1) := by decide +kernel
theorem dX12_finish_270 : decode cX12_finish 270 = .ok (.if_icmp .ge 7, 3) := by decide +kernel
theorem dX12_finish_273 : decode cX12_finish 273 = .ok (.iconst 1, 1) := by decide +kernel
theorem dX12_finish_274 : decode cX12_finish 274 = .ok (.goto 4, 3) := by decide +kernel
theorem dX12_finish_277 : decode cX12_finish 277 = .ok (.iconst 0, 1) := by decide +kernel
theorem dX12_finish_278 : decode cX12_finish 278 = .ok (.invokevirtual 403, 3) := by decide +kernel
theorem dX12_finish_281 : decode cX12_finish 281 = .ok (.ireturn, 1) := by decide +kernel
theorem dX12_finish_282 : decode cX12_finish 282 = .ok (.aload_n 0, 1) := by decide +kernel
theorem dX12_finish_283 : decode cX12_finish 283 = .ok (.iconst 3, 1) := by decide +kernel
theorem dX12_finish_284 : decode cX12_finish 284 = .ok (.aload_n 0, 1) := by decide +kernel
theorem dX12_finish_285 : decode cX12_finish 285 = .ok (.getfield 103, 3) := by decide +kernel
theorem dX12_finish_288 : decode cX12_finish 288 = .ok (.iload_n 2, 1) := by decide +kernel
theorem dX12_finish_289 : decode cX12_finish 289 = .ok (.iaload, 1) := by decide +kernel
theorem dX12_finish_290 : decode cX12_finish 290 = .ok (.bipush 26, 2) := by decide +kernel
theorem dX12_finish_292 : decode cX12_finish 292 = .ok (.if_icmp .ne 7, 3) := by decide +kernel
theorem dX12_finish_295 : decode cX12_finish 295 = .ok (.iconst 1, 1) := by decide +kernel
theorem dX12_finish_296 : decode cX12_finish 296 = .ok (.goto 4, 3) := by decide +kernel
theorem dX12_finish_299 : decode cX12_finish 299 = .ok (.iconst 0, 1) := by decide +kernel
theorem dX12_finish_300 : decode cX12_finish 300 = .ok (.invokevirtual 403, 3) := by decide +kernel
theorem dX12_finish_303 : decode cX12_finish 303 = .ok (.ireturn, 1) := by decide +kernel
theorem dX12_finish_304 : decode cX12_finish 304 = .ok (.aload_n 0, 1) := by decide +kernel
theorem dX12_finish_305 : decode cX12_finish 305 = .ok (.aload_n 0, 1) := by decide +kernel
theorem dX12_finish_306 : decode cX12_finish 306 = .ok (.getfield 112, 3) := by decide +kernel
theorem dX12_finish_309 : decode cX12_finish 309 = .ok (.bipush 9, 2) := by decide +kernel
theorem dX12_finish_311 : decode cX12_finish 311 = .ok (.iload_n 2, 1) := by decide +kernel
theorem dX12_finish_312 : decode cX12_finish 312 = .ok (.imul, 1) := by decide +kernel
theorem dX12_finish_313 : decode cX12_finish 313 = .ok (.aload_n 0, 1) := by decide +kernel
theorem dX12_finish_314 : decode cX12_finish 314 = .ok (.getfield 148, 3) := by decide +kernel
theorem dX12_finish_317 : decode cX12_finish 317 = .ok (.iload 4, 2) := by decide +kernel
theorem dX12_finish_319 : decode cX12_finish 319 = .ok (.iaload, 1) := by decide +kernel
theorem dX12_finish_320 : decode cX12_finish 320 = .ok (.iconst 1, 1) := by decide +kernel
theorem dX12_finish_321 : decode cX12_finish 321 = .ok (.if_icmp .ne 7, 3) := by decide +kernel
theorem dX12_finish_324 : decode cX12_finish 324 = .ok (.iconst 1, 1) := by decide +kernel
theorem dX12_finish_325 : decode cX12_finish 325 = .ok (.goto 4, 3) := by decide +kernel
theorem dX12_finish_328 : decode cX12_finish 328 = .ok (.iconst 2, 1) := by decide +kernel
theorem dX12_finish_329 : decode cX12_finish 329 = .ok (.iadd, 1) := by decide +kernel
theorem dX12_finish_330 : decode cX12_finish 330 = .ok (.iaload, 1) := by decide +kernel
theorem dX12_finish_331 : decode cX12_finish 331 = .ok (.iload_n 3, 1) := by decide +kernel
theorem dX12_finish_332 : decode cX12_finish 332 = .ok (.iconst (-1), 1) := by decide +kernel
theorem dX12_finish_333 : decode cX12_finish 333 = .ok (.invokevirtual 400, 3) := by decide +kernel
theorem dX12_finish_336 : decode cX12_finish 336 = .ok (.iconst (-1), 1) := by decide +kernel
theorem dX12_finish_337 : decode cX12_finish 337 = .ok (.ireturn, 1) := by decide +kernel
theorem dX12_finish_338 : decode cX12_finish 338 = .ok (.aload_n 0, 1) := by decide +kernel
theorem dX12_finish_339 : decode cX12_finish 339 = .ok (.iload_n 1, 1) := by decide +kernel
theorem dX12_finish_340 : decode cX12_finish 340 = .ok (.iload_n 2, 1) := by decide +kernel
theorem dX12_finish_341 : decode cX12_finish 341 = .ok (.iload_n 3, 1) := by decide +kernel
theorem dX12_finish_342 : decode cX12_finish 342 = .ok (.iload 4, 2) := by decide +kernel
theorem dX12_finish_344 : decode cX12_finish 344 = .ok (.invokevirtual 409, 3) := by decide +kernel
theorem dX12_finish_347 : decode cX12_finish 347 = .ok (.ireturn, 1) := by decide +kernel
theorem dX12_finishMore_0 : decode cX12_finishMore 0 = .ok (.aload_n 0, 1) := by decide +kernel
theorem dX12_finishMore_1 : decode cX12_finishMore 1 = .ok (.getfield 103, 3) := by decide +kernel
theorem dX12_finishMore_4 : decode cX12_finishMore 4 = .ok (.iload_n 2, 1) := by decide +kernel
theorem dX12_finishMore_5 : decode cX12_finishMore 5 = .ok (.iaload, 1) := by decide +kernel
theorem dX12_finishMore_6 : decode cX12_finishMore 6 = .ok (.tableswitch 251 29 32 #[30, 119, 137, 178], 30) := by decide +kernel
theorem dX12_finishMore_36 : decode cX12_finishMore 36 = .ok (.aload_n 0, 1) := by decide +kernel
theorem dX12_finishMore_37 : decode cX12_finishMore 37 = .ok (.iconst 5, 1) := by decide +kernel
theorem dX12_finishMore_38 : decode cX12_finishMore 38 = .ok (.iconst 0, 1) := by decide +kernel
theorem dX12_finishMore_39 : decode cX12_finishMore 39 = .ok (.invokevirtual 403, 3) := by decide +kernel
theorem dX12_finishMore_42 : decode cX12_finishMore 42 = .ok (.istore 5, 2) := by decide +kernel
theorem dX12_finishMore_44 : decode cX12_finishMore 44 = .ok (.iconst 0, 1) := by decide +kernel
theorem dX12_finishMore_45 : decode cX12_finishMore 45 = .ok (.istore 6, 2) := by decide +kernel
theorem dX12_finishMore_47 : decode cX12_finishMore 47 = .ok (.iload 6, 2) := by decide +kernel
theorem dX12_finishMore_49 : decode cX12_finishMore 49 = .ok (.aload_n 0, 1) := by decide +kernel
theorem dX12_finishMore_50 : decode cX12_finishMore 50 = .ok (.getfield 118, 3) := by decide +kernel
theorem dX12_finishMore_53 : decode cX12_finishMore 53 = .ok (.iload_n 2, 1) := by decide +kernel
theorem dX12_finishMore_54 : decode cX12_finishMore 54 = .ok (.iaload, 1) := by decide +kernel
theorem dX12_finishMore_55 : decode cX12_finishMore 55 = .ok (.if_icmp .ge 67, 3) := by decide +kernel
theorem dX12_finishMore_58 : decode cX12_finishMore 58 = .ok (.iload 5, 2) := by decide +kernel
theorem dX12_finishMore_60 : decode cX12_finishMore 60 = .ok (.ifCond .lt 62, 3) := by decide +kernel
theorem dX12_finishMore_63 : decode cX12_finishMore 63 = .ok (.aload_n 0, 1) := by decide +kernel
theorem dX12_finishMore_64 : decode cX12_finishMore 64 = .ok (.getfield 115, 3) := by decide +kernel
theorem dX12_finishMore_67 : decode cX12_finishMore 67 = .ok (.bipush 9, 2) := by decide +kernel
theorem dX12_finishMore_69 : decode cX12_finishMore 69 = .ok (.iload_n 2, 1) := by decide +kernel
theorem dX12_finishMore_70 : decode cX12_finishMore 70 = .ok (.imul, 1) := by decide +kernel
theorem dX12_finishMore_71 : decode cX12_finishMore 71 = .ok (.iload 6, 2) := by decide +kernel
theorem dX12_finishMore_73 : decode cX12_finishMore 73 = .ok (.iadd, 1) := by decide +kernel
theorem dX12_finishMore_74 : decode cX12_finishMore 74 = .ok (.iaload, 1) := by decide +kernel
theorem dX12_finishMore_75 : decode cX12_finishMore 75 = .ok (.istore 7, 2) := by decide +kernel
theorem dX12_finishMore_77 : decode cX12_finishMore 77 = .ok (.aload_n 0, 1) := by decide +kernel
theorem dX12_finishMore_78 : decode cX12_finishMore 78 = .ok (.getfield 148, 3) := by decide +kernel
theorem dX12_finishMore_81 : decode cX12_finishMore 81 = .ok (.iload 5, 2) := by decide +kernel
theorem dX12_finishMore_83 : decode cX12_finishMore 83 = .ok (.dup2, 1) := by decide +kernel
theorem dX12_finishMore_84 : decode cX12_finishMore 84 = .ok (.iaload, 1) := by decide +kernel
theorem dX12_finishMore_85 : decode cX12_finishMore 85 = .ok (.iconst 1, 1) := by decide +kernel
theorem dX12_finishMore_86 : decode cX12_finishMore 86 = .ok (.iload 7, 2) := by decide +kernel
theorem dX12_finishMore_88 : decode cX12_finishMore 88 = .ok (.ishl, 1) := by decide +kernel
theorem dX12_finishMore_89 : decode cX12_finishMore 89 = .ok (.ior, 1) := by decide +kernel
theorem dX12_finishMore_90 : decode cX12_finishMore 90 = .ok (.iastore, 1) := by decide +kernel
theorem dX12_finishMore_91 : decode cX12_finishMore 91 = .ok (.aload_n 0, 1) := by decide +kernel
theorem dX12_finishMore_92 : decode cX12_finishMore 92 = .ok (.getfield 151, 3) := by decide +kernel
theorem dX12_finishMore_95 : decode cX12_finishMore 95 = .ok (.bipush 8, 2) := by decide +kernel
theorem dX12_finishMore_97 : decode cX12_finishMore 97 = .ok (.iload 5, 2) := by decide +kernel
theorem dX12_finishMore_99 : decode cX12_finishMore 99 = .ok (.imul, 1) := by decide +kernel
theorem dX12_finishMore_100 : decode cX12_finishMore 100 = .ok (.iload 7, 2) := by decide +kernel
theorem dX12_finishMore_102 : decode cX12_finishMore 102 = .ok (.iadd, 1) := by decide +kernel
theorem dX12_finishMore_103 : decode cX12_finishMore 103 = .ok (.aload_n 0, 1) := by decide +kernel
theorem dX12_finishMore_104 : decode cX12_finishMore 104 = .ok (.getfield 178, 3) := by decide +kernel
theorem dX12_finishMore_107 : decode cX12_finishMore 107 = .ok (.bipush 9, 2) := by decide +kernel
theorem dX12_finishMore_109 : decode cX12_finishMore 109 = .ok (.iload_n 1, 1) := by decide +kernel
theorem dX12_finishMore_110 : decode cX12_finishMore 110 = .ok (.imul, 1) := by decide +kernel
theorem dX12_finishMore_111 : decode cX12_finishMore 111 = .ok (.iload 6, 2) := by decide +kernel
theorem dX12_finishMore_113 : decode cX12_finishMore 113 = .ok (.iadd, 1) := by decide +kernel
theorem dX12_finishMore_114 : decode cX12_finishMore 114 = .ok (.iaload, 1) := by decide +kernel
theorem dX12_finishMore_115 : decode cX12_finishMore 115 = .ok (.iastore, 1) := by decide +kernel
theorem dX12_finishMore_116 : decode cX12_finishMore 116 = .ok (.iinc 6 1, 3) := by decide +kernel
theorem dX12_finishMore_119 : decode cX12_finishMore 119 = .ok (.goto (-72), 3) := by decide +kernel
theorem dX12_finishMore_122 : decode cX12_finishMore 122 = .ok (.iload 5, 2) := by decide +kernel
theorem dX12_finishMore_124 : decode cX12_finishMore 124 = .ok (.ireturn, 1) := by decide +kernel
theorem dX12_finishMore_125 : decode cX12_finishMore 125 = .ok (.aload_n 0, 1) := by decide +kernel
theorem dX12_finishMore_126 : decode cX12_finishMore 126 = .ok (.getfield 151, 3) := by decide +kernel
theorem dX12_finishMore_129 : decode cX12_finishMore 129 = .ok (.bipush 8, 2) := by decide +kernel
theorem dX12_finishMore_131 : decode cX12_finishMore 131 = .ok (.iload 4, 2) := by decide +kernel
theorem dX12_finishMore_133 : decode cX12_finishMore 133 = .ok (.imul, 1) := by decide +kernel
theorem dX12_finishMore_134 : decode cX12_finishMore 134 = .ok (.aload_n 0, 1) := by decide +kernel
theorem dX12_finishMore_135 : decode cX12_finishMore 135 = .ok (.getfield 109, 3) := by decide +kernel
theorem dX12_finishMore_138 : decode cX12_finishMore 138 = .ok (.iload_n 2, 1) := by decide +kernel
theorem dX12_finishMore_139 : decode cX12_finishMore 139 = .ok (.iaload, 1) := by decide +kernel
theorem dX12_finishMore_140 : decode cX12_finishMore 140 = .ok (.iadd, 1) := by decide +kernel
theorem dX12_finishMore_141 : decode cX12_finishMore 141 = .ok (.iaload, 1) := by decide +kernel
theorem dX12_finishMore_142 : decode cX12_finishMore 142 = .ok (.ireturn, 1) := by decide +kernel
theorem dX12_finishMore_143 : decode cX12_finishMore 143 = .ok (.aload_n 0, 1) := by decide +kernel
theorem dX12_finishMore_144 : decode cX12_finishMore 144 = .ok (.bipush 6, 2) := by decide +kernel
theorem dX12_finishMore_146 : decode cX12_finishMore 146 = .ok (.aload_n 0, 1) := by decide +kernel
theorem dX12_finishMore_147 : decode cX12_finishMore 147 = .ok (.getfield 109, 3) := by decide +kernel
theorem dX12_finishMore_150 : decode cX12_finishMore 150 = .ok (.iload_n 2, 1) := by decide +kernel
theorem dX12_finishMore_151 : decode cX12_finishMore 151 = .ok (.iaload, 1) := by decide +kernel
theorem dX12_finishMore_152 : decode cX12_finishMore 152 = .ok (.invokevirtual 403, 3) := by decide +kernel
theorem dX12_finishMore_155 : decode cX12_finishMore 155 = .ok (.istore 5, 2) := by decide +kernel
theorem dX12_finishMore_157 : decode cX12_finishMore 157 = .ok (.iload 5, 2) := by decide +kernel
theorem dX12_finishMore_159 : decode cX12_finishMore 159 = .ok (.ifCond .lt 22, 3) := by decide +kernel
theorem dX12_finishMore_162 : decode cX12_finishMore 162 = .ok (.aload_n 0, 1) := by decide +kernel
theorem dX12_finishMore_163 : decode cX12_finishMore 163 = .ok (.getfield 151, 3) := by decide +kernel
theorem dX12_finishMore_166 : decode cX12_finishMore 166 = .ok (.bipush 8, 2) := by decide +kernel
theorem dX12_finishMore_168 : decode cX12_finishMore 168 = .ok (.iload 5, 2) := by decide +kernel
theorem dX12_finishMore_170 : decode cX12_finishMore 170 = .ok (.imul, 1) := by decide +kernel
theorem dX12_finishMore_171 : decode cX12_finishMore 171 = .ok (.aload_n 0, 1) := by decide +kernel
theorem dX12_finishMore_172 : decode cX12_finishMore 172 = .ok (.getfield 109, 3) := by decide +kernel
theorem dX12_finishMore_175 : decode cX12_finishMore 175 = .ok (.iload_n 2, 1) := by decide +kernel
theorem dX12_finishMore_176 : decode cX12_finishMore 176 = .ok (.iaload, 1) := by decide +kernel
theorem dX12_finishMore_177 : decode cX12_finishMore 177 = .ok (.iadd, 1) := by decide +kernel
theorem dX12_finishMore_178 : decode cX12_finishMore 178 = .ok (.iload 4, 2) := by decide +kernel
theorem dX12_finishMore_180 : decode cX12_finishMore 180 = .ok (.iastore, 1) := by decide +kernel
theorem dX12_finishMore_181 : decode cX12_finishMore 181 = .ok (.iload 5, 2) := by decide +kernel
theorem dX12_finishMore_183 : decode cX12_finishMore 183 = .ok (.ireturn, 1) := by decide +kernel
theorem dX12_finishMore_184 : decode cX12_finishMore 184 = .ok (.iconst 0, 1) := by decide +kernel
theorem dX12_finishMore_185 : decode cX12_finishMore 185 = .ok (.istore 5, 2) := by decide +kernel
theorem dX12_finishMore_187 : decode cX12_finishMore 187 = .ok (.aload_n 0, 1) := by decide +kernel
theorem dX12_finishMore_188 : decode cX12_finishMore 188 = .ok (.getfield 115, 3) := by decide +kernel
theorem dX12_finishMore_191 : decode cX12_finishMore 191 = .ok (.bipush 9, 2) := by decide +kernel
theorem dX12_finishMore_193 : decode cX12_finishMore 193 = .ok (.iload_n 2, 1) := by decide +kernel
theorem dX12_finishMore_194 : decode cX12_finishMore 194 = .ok (.imul, 1) := by decide +kernel
theorem dX12_finishMore_195 : decode cX12_finishMore 195 = .ok (.iload 5, 2) := by decide +kernel
theorem dX12_finishMore_197 : decode cX12_finishMore 197 = .ok (.iadd, 1) := by decide +kernel
theorem dX12_finishMore_198 : decode cX12_finishMore 198 = .ok (.iaload, 1) := by decide +kernel
theorem dX12_finishMore_199 : decode cX12_finishMore 199 = .ok (.aload_n 0, 1) := by decide +kernel
theorem dX12_finishMore_200 : decode cX12_finishMore 200 = .ok (.getfield 148, 3) := by decide +kernel
theorem dX12_finishMore_203 : decode cX12_finishMore 203 = .ok (.iload 4, 2) := by decide +kernel
theorem dX12_finishMore_205 : decode cX12_finishMore 205 = .ok (.iaload, 1) := by decide +kernel
theorem dX12_finishMore_206 : decode cX12_finishMore 206 = .ok (.if_icmp .eq 9, 3) := by decide +kernel
theorem dX12_finishMore_209 : decode cX12_finishMore 209 = .ok (.iinc 5 1, 3) := by decide +kernel
theorem dX12_finishMore_212 : decode cX12_finishMore 212 = .ok (.goto (-25), 3) := by decide +kernel
theorem dX12_finishMore_215 : decode cX12_finishMore 215 = .ok (.aload_n 0, 1) := by decide +kernel
theorem dX12_finishMore_216 : decode cX12_finishMore 216 = .ok (.aload_n 0, 1) := by decide +kernel
theorem dX12_finishMore_217 : decode cX12_finishMore 217 = .ok (.getfield 112, 3) := by decide +kernel
theorem dX12_finishMore_220 : decode cX12_finishMore 220 = .ok (.bipush 9, 2) := by decide +kernel
theorem dX12_finishMore_222 : decode cX12_finishMore 222 = .ok (.iload_n 2, 1) := by decide +kernel
theorem dX12_finishMore_223 : decode cX12_finishMore 223 = .ok (.imul, 1) := by decide +kernel
theorem dX12_finishMore_224 : decode cX12_finishMore 224 = .ok (.iload 5, 2) := by decide +kernel
theorem dX12_finishMore_226 : decode cX12_finishMore 226 = .ok (.iadd, 1) := by decide +kernel
theorem dX12_finishMore_227 : decode cX12_finishMore 227 = .ok (.iaload, 1) := by decide +kernel
theorem dX12_finishMore_228 : decode cX12_finishMore 228 = .ok (.aload_n 0, 1) := by decide +kernel
theorem dX12_finishMore_229 : decode cX12_finishMore 229 = .ok (.aload_n 0, 1) := by decide +kernel
theorem dX12_finishMore_230 : decode cX12_finishMore 230 = .ok (.getfield 151, 3) := by decide +kernel
theorem dX12_finishMore_233 : decode cX12_finishMore 233 = .ok (.bipush 8, 2) := by decide +kernel
theorem dX12_finishMore_235 : decode cX12_finishMore 235 = .ok (.iload 4, 2) := by decide +kernel
theorem dX12_finishMore_237 : decode cX12_finishMore 237 = .ok (.imul, 1) := by decide +kernel
theorem dX12_finishMore_238 : decode cX12_finishMore 238 = .ok (.aload_n 0, 1) := by decide +kernel
theorem dX12_finishMore_239 : decode cX12_finishMore 239 = .ok (.getfield 148, 3) := by decide +kernel
theorem dX12_finishMore_242 : decode cX12_finishMore 242 = .ok (.iload 4, 2) := by decide +kernel
theorem dX12_finishMore_244 : decode cX12_finishMore 244 = .ok (.iaload, 1) := by decide +kernel
theorem dX12_finishMore_245 : decode cX12_finishMore 245 = .ok (.iadd, 1) := by decide +kernel
theorem dX12_finishMore_246 : decode cX12_finishMore 246 = .ok (.iaload, 1) := by decide +kernel
theorem dX12_finishMore_247 : decode cX12_finishMore 247 = .ok (.iload_n 3, 1) := by decide +kernel
theorem dX12_finishMore_248 : decode cX12_finishMore 248 = .ok (.invokevirtual 406, 3) := by decide +kernel
theorem dX12_finishMore_251 : decode cX12_finishMore 251 = .ok (.iconst (-1), 1) := by decide +kernel
theorem dX12_finishMore_252 : decode cX12_finishMore 252 = .ok (.invokevirtual 400, 3) := by decide +kernel
theorem dX12_finishMore_255 : decode cX12_finishMore 255 = .ok (.iconst (-1), 1) := by decide +kernel
theorem dX12_finishMore_256 : decode cX12_finishMore 256 = .ok (.ireturn, 1) := by decide +kernel
theorem dX12_finishMore_257 : decode cX12_finishMore 257 = .ok (.aload_n 0, 1) := by decide +kernel
theorem dX12_finishMore_258 : decode cX12_finishMore 258 = .ok (.iconst 4, 1) := by decide +kernel
theorem dX12_finishMore_259 : decode cX12_finishMore 259 = .ok (.iconst 0, 1) := by decide +kernel
theorem dX12_finishMore_260 : decode cX12_finishMore 260 = .ok (.invokevirtual 403, 3) := by decide +kernel
theorem dX12_finishMore_263 : decode cX12_finishMore 263 = .ok (.istore 5, 2) := by decide +kernel
theorem dX12_finishMore_265 : decode cX12_finishMore 265 = .ok (.iload 5, 2) := by decide +kernel
theorem dX12_finishMore_267 : decode cX12_finishMore 267 = .ok (.ifCond .lt 25, 3) := by decide +kernel
theorem dX12_finishMore_270 : decode cX12_finishMore 270 = .ok (.aload_n 0, 1) := by decide +kernel
theorem dX12_finishMore_271 : decode cX12_finishMore 271 = .ok (.aload_n 0, 1) := by decide +kernel
theorem dX12_finishMore_272 : decode cX12_finishMore 272 = .ok (.getfield 112, 3) := by decide +kernel
theorem dX12_finishMore_275 : decode cX12_finishMore 275 = .ok (.bipush 9, 2) := by decide +kernel
theorem dX12_finishMore_277 : decode cX12_finishMore 277 = .ok (.iload_n 2, 1) := by decide +kernel
theorem dX12_finishMore_278 : decode cX12_finishMore 278 = .ok (.imul, 1) := by decide +kernel
theorem dX12_finishMore_279 : decode cX12_finishMore 279 = .ok (.iaload, 1) := by decide +kernel
theorem dX12_finishMore_280 : decode cX12_finishMore 280 = .ok (.aload_n 0, 1) := by decide +kernel
theorem dX12_finishMore_281 : decode cX12_finishMore 281 = .ok (.iload 5, 2) := by decide +kernel
theorem dX12_finishMore_283 : decode cX12_finishMore 283 = .ok (.iload_n 3, 1) := by decide +kernel
theorem dX12_finishMore_284 : decode cX12_finishMore 284 = .ok (.invokevirtual 406, 3) := by decide +kernel
theorem dX12_finishMore_287 : decode cX12_finishMore 287 = .ok (.iload 5, 2) := by decide +kernel
theorem dX12_finishMore_289 : decode cX12_finishMore 289 = .ok (.invokevirtual 400, 3) := by decide +kernel
theorem dX12_finishMore_292 : decode cX12_finishMore 292 = .ok (.iconst (-1), 1) := by decide +kernel
theorem dX12_finishMore_293 : decode cX12_finishMore 293 = .ok (.ireturn, 1) := by decide +kernel
theorem dX12_value_0 : decode cX12_value 0 = .ok (.iload_n 2, 1) := by decide +kernel
theorem dX12_value_1 : decode cX12_value 1 = .ok (.ifCond .ge 6, 3) := by decide +kernel
theorem dX12_value_4 : decode cX12_value 4 = .ok (.bipush (-2), 2) := by decide +kernel
theorem dX12_value_6 : decode cX12_value 6 = .ok (.ireturn, 1) := by decide +kernel
theorem dX12_value_7 : decode cX12_value 7 = .ok (.iload_n 1, 1) := by decide +kernel
theorem dX12_value_8 : decode cX12_value 8 = .ok (.iconst 0, 1) := by decide +kernel
theorem dX12_value_9 : decode cX12_value 9 = .ok (.aload_n 0, 1) := by decide +kernel
theorem dX12_value_10 : decode cX12_value 10 = .ok (.getfield 192, 3) := by decide +kernel
theorem dX12_value_13 : decode cX12_value 13 = .ok (.iconst 1, 1) := by decide +kernel
theorem dX12_value_14 : decode cX12_value 14 = .ok (.isub, 1) := by decide +kernel
theorem dX12_value_15 : decode cX12_value 15 = .ok (.invokestatic 184, 3) := by decide +kernel
theorem dX12_value_18 : decode cX12_value 18 = .ok (.ifCond .ne 5, 3) := by decide +kernel
theorem dX12_value_21 : decode cX12_value 21 = .ok (.iconst (-1), 1) := by decide +kernel
theorem dX12_value_22 : decode cX12_value 22 = .ok (.ireturn, 1) := by decide +kernel
theorem dX12_value_23 : decode cX12_value 23 = .ok (.iload_n 2, 1) := by decide +kernel
theorem dX12_value_24 : decode cX12_value 24 = .ok (.ifCond .ne 12, 3) := by decide +kernel
theorem dX12_value_27 : decode cX12_value 27 = .ok (.aload_n 0, 1) := by decide +kernel
theorem dX12_value_28 : decode cX12_value 28 = .ok (.getfield 145, 3) := by decide +kernel
theorem dX12_value_31 : decode cX12_value 31 = .ok (.iload_n 1, 1) := by decide +kernel
theorem dX12_value_32 : decode cX12_value 32 = .ok (.iaload, 1) := by decide +kernel
theorem dX12_value_33 : decode cX12_value 33 = .ok (.goto 42, 3) := by decide +kernel
theorem dX12_value_36 : decode cX12_value 36 = .ok (.iload_n 2, 1) := by decide +kernel
theorem dX12_value_37 : decode cX12_value 37 = .ok (.iconst 1, 1) := by decide +kernel
theorem dX12_value_38 : decode cX12_value 38 = .ok (.if_icmp .ne 12, 3) := by decide +kernel
theorem dX12_value_41 : decode cX12_value 41 = .ok (.aload_n 0, 1) := by decide +kernel
theorem dX12_value_42 : decode cX12_value 42 = .ok (.getfield 148, 3) := by decide +kernel
theorem dX12_value_45 : decode cX12_value 45 = .ok (.iload_n 1, 1) := by decide +kernel
theorem dX12_value_46 : decode cX12_value 46 = .ok (.iaload, 1) := by decide +kernel
theorem dX12_value_47 : decode cX12_value 47 = .ok (.goto 28, 3) := by decide +kernel
theorem dX12_value_50 : decode cX12_value 50 = .ok (.iload_n 2, 1) := by decide +kernel
theorem dX12_value_51 : decode cX12_value 51 = .ok (.iconst 2, 1) := by decide +kernel
theorem dX12_value_52 : decode cX12_value 52 = .ok (.isub, 1) := by decide +kernel
theorem dX12_value_53 : decode cX12_value 53 = .ok (.bipush 8, 2) := by decide +kernel
theorem dX12_value_55 : decode cX12_value 55 = .ok (.if_icmp .ge 19, 3) := by decide +kernel
theorem dX12_value_58 : decode cX12_value 58 = .ok (.aload_n 0, 1) := by decide +kernel
theorem dX12_value_59 : decode cX12_value 59 = .ok (.getfield 151, 3) := by decide +kernel
theorem dX12_value_62 : decode cX12_value 62 = .ok (.bipush 8, 2) := by decide +kernel
theorem dX12_value_64 : decode cX12_value 64 = .ok (.iload_n 1, 1) := by decide +kernel
theorem dX12_value_65 : decode cX12_value 65 = .ok (.imul, 1) := by decide +kernel
theorem dX12_value_66 : decode cX12_value 66 = .ok (.iload_n 2, 1) := by decide +kernel
theorem dX12_value_67 : decode cX12_value 67 = .ok (.iadd, 1) := by decide +kernel
theorem dX12_value_68 : decode cX12_value 68 = .ok (.iconst 2, 1) := by decide +kernel
theorem dX12_value_69 : decode cX12_value 69 = .ok (.isub, 1) := by decide +kernel
theorem dX12_value_70 : decode cX12_value 70 = .ok (.iaload, 1) := by decide +kernel
theorem dX12_value_71 : decode cX12_value 71 = .ok (.goto 4, 3) := by decide +kernel
theorem dX12_value_74 : decode cX12_value 74 = .ok (.iconst (-1), 1) := by decide +kernel
theorem dX12_value_75 : decode cX12_value 75 = .ok (.ireturn, 1) := by decide +kernel
theorem dX12_count_0 : decode cX12_count 0 = .ok (.iload_n 1, 1) := by decide +kernel
theorem dX12_count_1 : decode cX12_count 1 = .ok (.tableswitch 68 0 4 #[35, 40, 45, 50, 55], 35) := by decide +kernel
theorem dX12_count_36 : decode cX12_count 36 = .ok (.aload_n 0, 1) := by decide +kernel
theorem dX12_count_37 : decode cX12_count 37 = .ok (.getfield 181, 3) := by decide +kernel
theorem dX12_count_40 : decode cX12_count 40 = .ok (.ireturn, 1) := by decide +kernel
theorem dX12_count_41 : decode cX12_count 41 = .ok (.aload_n 0, 1) := by decide +kernel
theorem dX12_count_42 : decode cX12_count 42 = .ok (.getfield 198, 3) := by decide +kernel
theorem dX12_count_45 : decode cX12_count 45 = .ok (.ireturn, 1) := by decide +kernel
theorem dX12_count_46 : decode cX12_count 46 = .ok (.aload_n 0, 1) := by decide +kernel
theorem dX12_count_47 : decode cX12_count 47 = .ok (.getfield 192, 3) := by decide +kernel
theorem dX12_count_50 : decode cX12_count 50 = .ok (.ireturn, 1) := by decide +kernel
theorem dX12_count_51 : decode cX12_count 51 = .ok (.aload_n 0, 1) := by decide +kernel
theorem dX12_count_52 : decode cX12_count 52 = .ok (.getfield 195, 3) := by decide +kernel
theorem dX12_count_55 : decode cX12_count 55 = .ok (.ireturn, 1) := by decide +kernel
theorem dX12_count_56 : decode cX12_count 56 = .ok (.aload_n 0, 1) := by decide +kernel
theorem dX12_count_57 : decode cX12_count 57 = .ok (.getfield 188, 3) := by decide +kernel
theorem dX12_count_60 : decode cX12_count 60 = .ok (.ifCond .eq 7, 3) := by decide +kernel
theorem dX12_count_63 : decode cX12_count 63 = .ok (.iconst 1, 1) := by decide +kernel
theorem dX12_count_64 : decode cX12_count 64 = .ok (.goto 4, 3) := by decide +kernel
theorem dX12_count_67 : decode cX12_count 67 = .ok (.iconst 0, 1) := by decide +kernel
theorem dX12_count_68 : decode cX12_count 68 = .ok (.ireturn, 1) := by decide +kernel
theorem dX12_count_69 : decode cX12_count 69 = .ok (.bipush (-2), 2) := by decide +kernel
theorem dX12_count_71 : decode cX12_count 71 = .ok (.ireturn, 1) := by decide +kernel
