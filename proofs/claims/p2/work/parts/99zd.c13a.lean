/-! the reference's constructor by handles -/
theorem diX13_0 : decode cX13_init 0 = .ok (.aload_n 0, 1) := by decide +kernel
theorem diX13_1 : decode cX13_init 1 = .ok (.invokespecial 101, 3) := by decide +kernel
theorem diX13_4 : decode cX13_init 4 = .ok (.aload_n 0, 1) := by decide +kernel
theorem diX13_5 : decode cX13_init 5 = .ok (.bipush 32, 2) := by decide +kernel
theorem diX13_7 : decode cX13_init 7 = .ok (.newarray .int, 2) := by decide +kernel
theorem diX13_9 : decode cX13_init 9 = .ok (.putfield 29, 3) := by decide +kernel
theorem diX13_12 : decode cX13_init 12 = .ok (.aload_n 0, 1) := by decide +kernel
theorem diX13_13 : decode cX13_init 13 = .ok (.bipush 40, 2) := by decide +kernel
theorem diX13_15 : decode cX13_init 15 = .ok (.newarray .int, 2) := by decide +kernel
theorem diX13_17 : decode cX13_init 17 = .ok (.putfield 7, 3) := by decide +kernel
theorem diX13_20 : decode cX13_init 20 = .ok (.aload_n 0, 1) := by decide +kernel
theorem diX13_21 : decode cX13_init 21 = .ok (.bipush 40, 2) := by decide +kernel
theorem diX13_23 : decode cX13_init 23 = .ok (.newarray .int, 2) := by decide +kernel
theorem diX13_25 : decode cX13_init 25 = .ok (.putfield 26, 3) := by decide +kernel
theorem diX13_28 : decode cX13_init 28 = .ok (.aload_n 0, 1) := by decide +kernel
theorem diX13_29 : decode cX13_init 29 = .ok (.bipush 40, 2) := by decide +kernel
theorem diX13_31 : decode cX13_init 31 = .ok (.newarray .boolean, 2) := by decide +kernel
theorem diX13_33 : decode cX13_init 33 = .ok (.putfield 11, 3) := by decide +kernel
theorem diX13_36 : decode cX13_init 36 = .ok (.aload_n 0, 1) := by decide +kernel
theorem diX13_37 : decode cX13_init 37 = .ok (.sipush 640, 3) := by decide +kernel
theorem diX13_40 : decode cX13_init 40 = .ok (.newarray .int, 2) := by decide +kernel
theorem diX13_42 : decode cX13_init 42 = .ok (.putfield 54, 3) := by decide +kernel
theorem diX13_45 : decode cX13_init 45 = .ok (.aload_n 0, 1) := by decide +kernel
theorem diX13_46 : decode cX13_init 46 = .ok (.bipush 20, 2) := by decide +kernel
theorem diX13_48 : decode cX13_init 48 = .ok (.newarray .int, 2) := by decide +kernel
theorem diX13_50 : decode cX13_init 50 = .ok (.putfield 85, 3) := by decide +kernel
theorem diX13_53 : decode cX13_init 53 = .ok (.aload_n 0, 1) := by decide +kernel
theorem diX13_54 : decode cX13_init 54 = .ok (.bipush 20, 2) := by decide +kernel
theorem diX13_56 : decode cX13_init 56 = .ok (.newarray .boolean, 2) := by decide +kernel
theorem diX13_58 : decode cX13_init 58 = .ok (.putfield 88, 3) := by decide +kernel
theorem diX13_61 : decode cX13_init 61 = .ok (.aload_n 0, 1) := by decide +kernel
theorem diX13_62 : decode cX13_init 62 = .ok (.sipush 400, 3) := by decide +kernel
theorem diX13_65 : decode cX13_init 65 = .ok (.newarray .byte, 2) := by decide +kernel
theorem diX13_67 : decode cX13_init 67 = .ok (.putfield 106, 3) := by decide +kernel
theorem diX13_70 : decode cX13_init 70 = .ok (.aload_n 0, 1) := by decide +kernel
theorem diX13_71 : decode cX13_init 71 = .ok (.sipush 1280, 3) := by decide +kernel
theorem diX13_74 : decode cX13_init 74 = .ok (.newarray .int, 2) := by decide +kernel
theorem diX13_76 : decode cX13_init 76 = .ok (.putfield 110, 3) := by decide +kernel
theorem diX13_79 : decode cX13_init 79 = .ok (.aload_n 0, 1) := by decide +kernel
theorem diX13_80 : decode cX13_init 80 = .ok (.new 19, 3) := by decide +kernel
theorem diX13_83 : decode cX13_init 83 = .ok (.dup, 1) := by decide +kernel
theorem diX13_84 : decode cX13_init 84 = .ok (.invokespecial 113, 3) := by decide +kernel
theorem diX13_87 : decode cX13_init 87 = .ok (.putfield 114, 3) := by decide +kernel
theorem diX13_90 : decode cX13_init 90 = .ok (.aload_n 0, 1) := by decide +kernel
theorem diX13_91 : decode cX13_init 91 = .ok (.new 19, 3) := by decide +kernel
theorem diX13_94 : decode cX13_init 94 = .ok (.dup, 1) := by decide +kernel
theorem diX13_95 : decode cX13_init 95 = .ok (.invokespecial 113, 3) := by decide +kernel
theorem diX13_98 : decode cX13_init 98 = .ok (.putfield 118, 3) := by decide +kernel
theorem diX13_101 : decode cX13_init 101 = .ok (.aload_n 0, 1) := by decide +kernel
theorem diX13_102 : decode cX13_init 102 = .ok (.new 19, 3) := by decide +kernel
theorem diX13_105 : decode cX13_init 105 = .ok (.dup, 1) := by decide +kernel
theorem diX13_106 : decode cX13_init 106 = .ok (.invokespecial 113, 3) := by decide +kernel
theorem diX13_109 : decode cX13_init 109 = .ok (.putfield 121, 3) := by decide +kernel
theorem diX13_112 : decode cX13_init 112 = .ok (.aload_n 0, 1) := by decide +kernel
theorem diX13_113 : decode cX13_init 113 = .ok (.bipush 16, 2) := by decide +kernel
theorem diX13_115 : decode cX13_init 115 = .ok (.newarray .int, 2) := by decide +kernel
theorem diX13_117 : decode cX13_init 117 = .ok (.putfield 124, 3) := by decide +kernel
theorem diX13_120 : decode cX13_init 120 = .ok (.aload_n 0, 1) := by decide +kernel
theorem diX13_121 : decode cX13_init 121 = .ok (.bipush 16, 2) := by decide +kernel
theorem diX13_123 : decode cX13_init 123 = .ok (.newarray .int, 2) := by decide +kernel
theorem diX13_125 : decode cX13_init 125 = .ok (.putfield 127, 3) := by decide +kernel
theorem diX13_128 : decode cX13_init 128 = .ok (.aload_n 0, 1) := by decide +kernel
theorem diX13_129 : decode cX13_init 129 = .ok (.bipush 16, 2) := by decide +kernel
theorem diX13_131 : decode cX13_init 131 = .ok (.newarray .int, 2) := by decide +kernel
theorem diX13_133 : decode cX13_init 133 = .ok (.putfield 130, 3) := by decide +kernel
theorem diX13_136 : decode cX13_init 136 = .ok (.aload_n 0, 1) := by decide +kernel
theorem diX13_137 : decode cX13_init 137 = .ok (.bipush 16, 2) := by decide +kernel
theorem diX13_139 : decode cX13_init 139 = .ok (.newarray .int, 2) := by decide +kernel
theorem diX13_141 : decode cX13_init 141 = .ok (.putfield 133, 3) := by decide +kernel
theorem diX13_144 : decode cX13_init 144 = .ok (.aload_n 0, 1) := by decide +kernel
theorem diX13_145 : decode cX13_init 145 = .ok (.ldc 136, 2) := by decide +kernel
theorem diX13_147 : decode cX13_init 147 = .ok (.newarray .int, 2) := by decide +kernel
theorem diX13_149 : decode cX13_init 149 = .ok (.putfield 137, 3) := by decide +kernel
theorem diX13_152 : decode cX13_init 152 = .ok (.aload_n 0, 1) := by decide +kernel
theorem diX13_153 : decode cX13_init 153 = .ok (.sipush 2700, 3) := by decide +kernel
theorem diX13_156 : decode cX13_init 156 = .ok (.newarray .int, 2) := by decide +kernel
theorem diX13_158 : decode cX13_init 158 = .ok (.putfield 140, 3) := by decide +kernel
theorem diX13_161 : decode cX13_init 161 = .ok (.aload_n 0, 1) := by decide +kernel
theorem diX13_162 : decode cX13_init 162 = .ok (.sipush 32000, 3) := by decide +kernel
theorem diX13_165 : decode cX13_init 165 = .ok (.newarray .int, 2) := by decide +kernel
theorem diX13_167 : decode cX13_init 167 = .ok (.putfield 143, 3) := by decide +kernel
theorem diX13_170 : decode cX13_init 170 = .ok (.aload_n 0, 1) := by decide +kernel
theorem diX13_171 : decode cX13_init 171 = .ok (.sipush 9920, 3) := by decide +kernel
theorem diX13_174 : decode cX13_init 174 = .ok (.newarray .int, 2) := by decide +kernel
theorem diX13_176 : decode cX13_init 176 = .ok (.putfield 146, 3) := by decide +kernel
theorem diX13_179 : decode cX13_init 179 = .ok (.aload_n 0, 1) := by decide +kernel
theorem diX13_180 : decode cX13_init 180 = .ok (.bipush 32, 2) := by decide +kernel
theorem diX13_182 : decode cX13_init 182 = .ok (.newarray .int, 2) := by decide +kernel
theorem diX13_184 : decode cX13_init 184 = .ok (.putfield 149, 3) := by decide +kernel
theorem diX13_187 : decode cX13_init 187 = .ok (.aload_n 0, 1) := by decide +kernel
theorem diX13_188 : decode cX13_init 188 = .ok (.bipush 32, 2) := by decide +kernel
theorem diX13_190 : decode cX13_init 190 = .ok (.newarray .int, 2) := by decide +kernel
theorem diX13_192 : decode cX13_init 192 = .ok (.putfield 152, 3) := by decide +kernel
theorem diX13_195 : decode cX13_init 195 = .ok (.aload_n 0, 1) := by decide +kernel
theorem diX13_196 : decode cX13_init 196 = .ok (.iconst 4, 1) := by decide +kernel
theorem diX13_197 : decode cX13_init 197 = .ok (.newarray .int, 2) := by decide +kernel
theorem diX13_199 : decode cX13_init 199 = .ok (.putfield 155, 3) := by decide +kernel
theorem diX13_202 : decode cX13_init 202 = .ok (.aload_n 0, 1) := by decide +kernel
theorem diX13_203 : decode cX13_init 203 = .ok (.iconst 4, 1) := by decide +kernel
theorem diX13_204 : decode cX13_init 204 = .ok (.newarray .int, 2) := by decide +kernel
theorem diX13_206 : decode cX13_init 206 = .ok (.putfield 158, 3) := by decide +kernel
theorem diX13_209 : decode cX13_init 209 = .ok (.aload_n 0, 1) := by decide +kernel
theorem diX13_210 : decode cX13_init 210 = .ok (.iconst 3, 1) := by decide +kernel
theorem diX13_211 : decode cX13_init 211 = .ok (.newarray .int, 2) := by decide +kernel
theorem diX13_213 : decode cX13_init 213 = .ok (.putfield 161, 3) := by decide +kernel
theorem diX13_216 : decode cX13_init 216 = .ok (.aload_n 0, 1) := by decide +kernel
theorem diX13_217 : decode cX13_init 217 = .ok (.iconst 3, 1) := by decide +kernel
theorem diX13_218 : decode cX13_init 218 = .ok (.newarray .int, 2) := by decide +kernel
theorem diX13_220 : decode cX13_init 220 = .ok (.putfield 164, 3) := by decide +kernel
theorem diX13_223 : decode cX13_init 223 = .ok (.aload_n 0, 1) := by decide +kernel
theorem diX13_224 : decode cX13_init 224 = .ok (.sipush 512, 3) := by decide +kernel
theorem diX13_227 : decode cX13_init 227 = .ok (.newarray .int, 2) := by decide +kernel
theorem diX13_229 : decode cX13_init 229 = .ok (.putfield 167, 3) := by decide +kernel
theorem diX13_232 : decode cX13_init 232 = .ok (.aload_n 0, 1) := by decide +kernel
theorem diX13_233 : decode cX13_init 233 = .ok (.sipush 512, 3) := by decide +kernel
theorem diX13_236 : decode cX13_init 236 = .ok (.newarray .int, 2) := by decide +kernel
theorem diX13_238 : decode cX13_init 238 = .ok (.putfield 170, 3) := by decide +kernel
theorem diX13_241 : decode cX13_init 241 = .ok (.aload_n 0, 1) := by decide +kernel
theorem diX13_242 : decode cX13_init 242 = .ok (.bipush 48, 2) := by decide +kernel
theorem diX13_244 : decode cX13_init 244 = .ok (.newarray .boolean, 2) := by decide +kernel
theorem diX13_246 : decode cX13_init 246 = .ok (.putfield 173, 3) := by decide +kernel
theorem diX13_249 : decode cX13_init 249 = .ok (.aload_n 0, 1) := by decide +kernel
theorem diX13_250 : decode cX13_init 250 = .ok (.bipush 16, 2) := by decide +kernel
theorem diX13_252 : decode cX13_init 252 = .ok (.newarray .int, 2) := by decide +kernel
theorem diX13_254 : decode cX13_init 254 = .ok (.putfield 176, 3) := by decide +kernel
theorem diX13_257 : decode cX13_init 257 = .ok (.aload_n 0, 1) := by decide +kernel
theorem diX13_258 : decode cX13_init 258 = .ok (.bipush 15, 2) := by decide +kernel
theorem diX13_260 : decode cX13_init 260 = .ok (.anewarray 19, 3) := by decide +kernel
theorem diX13_263 : decode cX13_init 263 = .ok (.putfield 179, 3) := by decide +kernel
theorem diX13_266 : decode cX13_init 266 = .ok (.aload_n 0, 1) := by decide +kernel
theorem diX13_267 : decode cX13_init 267 = .ok (.bipush 40, 2) := by decide +kernel
theorem diX13_269 : decode cX13_init 269 = .ok (.newarray .boolean, 2) := by decide +kernel
theorem diX13_271 : decode cX13_init 271 = .ok (.putfield 183, 3) := by decide +kernel
theorem diX13_274 : decode cX13_init 274 = .ok (.aload_n 0, 1) := by decide +kernel
theorem diX13_275 : decode cX13_init 275 = .ok (.bipush 40, 2) := by decide +kernel
theorem diX13_277 : decode cX13_init 277 = .ok (.newarray .long, 2) := by decide +kernel
theorem diX13_279 : decode cX13_init 279 = .ok (.putfield 186, 3) := by decide +kernel
theorem diX13_282 : decode cX13_init 282 = .ok (.aload_n 0, 1) := by decide +kernel
theorem diX13_283 : decode cX13_init 283 = .ok (.bipush 32, 2) := by decide +kernel
theorem diX13_285 : decode cX13_init 285 = .ok (.newarray .int, 2) := by decide +kernel
theorem diX13_287 : decode cX13_init 287 = .ok (.putfield 190, 3) := by decide +kernel
theorem diX13_290 : decode cX13_init 290 = .ok (.aload_n 0, 1) := by decide +kernel
theorem diX13_291 : decode cX13_init 291 = .ok (.sipush 5289, 3) := by decide +kernel
theorem diX13_294 : decode cX13_init 294 = .ok (.newarray .long, 2) := by decide +kernel
theorem diX13_296 : decode cX13_init 296 = .ok (.putfield 193, 3) := by decide +kernel
theorem diX13_299 : decode cX13_init 299 = .ok (.aload_n 0, 1) := by decide +kernel
theorem diX13_300 : decode cX13_init 300 = .ok (.bipush 32, 2) := by decide +kernel
theorem diX13_302 : decode cX13_init 302 = .ok (.newarray .int, 2) := by decide +kernel
theorem diX13_304 : decode cX13_init 304 = .ok (.putfield 196, 3) := by decide +kernel
theorem diX13_307 : decode cX13_init 307 = .ok (.aload_n 0, 1) := by decide +kernel
theorem diX13_308 : decode cX13_init 308 = .ok (.bipush 48, 2) := by decide +kernel
theorem diX13_310 : decode cX13_init 310 = .ok (.newarray .int, 2) := by decide +kernel
theorem diX13_312 : decode cX13_init 312 = .ok (.putfield 199, 3) := by decide +kernel
theorem diX13_315 : decode cX13_init 315 = .ok (.aload_n 0, 1) := by decide +kernel
theorem diX13_316 : decode cX13_init 316 = .ok (.sipush 201, 3) := by decide +kernel
theorem diX13_319 : decode cX13_init 319 = .ok (.newarray .long, 2) := by decide +kernel
theorem diX13_321 : decode cX13_init 321 = .ok (.putfield 202, 3) := by decide +kernel
theorem diX13_324 : decode cX13_init 324 = .ok (.aload_n 0, 1) := by decide +kernel
theorem diX13_325 : decode cX13_init 325 = .ok (.sipush 201, 3) := by decide +kernel
theorem diX13_328 : decode cX13_init 328 = .ok (.newarray .long, 2) := by decide +kernel
theorem diX13_330 : decode cX13_init 330 = .ok (.putfield 205, 3) := by decide +kernel
theorem diX13_333 : decode cX13_init 333 = .ok (.aload_n 0, 1) := by decide +kernel
theorem diX13_334 : decode cX13_init 334 = .ok (.bipush 32, 2) := by decide +kernel
theorem diX13_336 : decode cX13_init 336 = .ok (.newarray .int, 2) := by decide +kernel
theorem diX13_338 : decode cX13_init 338 = .ok (.putfield 208, 3) := by decide +kernel
theorem diX13_341 : decode cX13_init 341 = .ok (.aload_n 0, 1) := by decide +kernel
theorem diX13_342 : decode cX13_init 342 = .ok (.sipush 312, 3) := by decide +kernel
theorem diX13_345 : decode cX13_init 345 = .ok (.newarray .long, 2) := by decide +kernel
theorem diX13_347 : decode cX13_init 347 = .ok (.putfield 211, 3) := by decide +kernel
theorem diX13_350 : decode cX13_init 350 = .ok (.aload_n 0, 1) := by decide +kernel
theorem diX13_351 : decode cX13_init 351 = .ok (.bipush 80, 2) := by decide +kernel
theorem diX13_353 : decode cX13_init 353 = .ok (.newarray .int, 2) := by decide +kernel
theorem diX13_355 : decode cX13_init 355 = .ok (.putfield 214, 3) := by decide +kernel
theorem diX13_358 : decode cX13_init 358 = .ok (.aload_n 0, 1) := by decide +kernel
theorem diX13_359 : decode cX13_init 359 = .ok (.bipush 80, 2) := by decide +kernel
theorem diX13_361 : decode cX13_init 361 = .ok (.newarray .int, 2) := by decide +kernel
theorem diX13_363 : decode cX13_init 363 = .ok (.putfield 217, 3) := by decide +kernel
theorem diX13_366 : decode cX13_init 366 = .ok (.aload_n 0, 1) := by decide +kernel
theorem diX13_367 : decode cX13_init 367 = .ok (.sipush 256, 3) := by decide +kernel
theorem diX13_370 : decode cX13_init 370 = .ok (.newarray .long, 2) := by decide +kernel
theorem diX13_372 : decode cX13_init 372 = .ok (.putfield 220, 3) := by decide +kernel
theorem diX13_375 : decode cX13_init 375 = .ok (.aload_n 0, 1) := by decide +kernel
theorem diX13_376 : decode cX13_init 376 = .ok (.sipush 256, 3) := by decide +kernel
theorem diX13_379 : decode cX13_init 379 = .ok (.newarray .long, 2) := by decide +kernel
theorem diX13_381 : decode cX13_init 381 = .ok (.putfield 223, 3) := by decide +kernel
theorem diX13_384 : decode cX13_init 384 = .ok (.aload_n 0, 1) := by decide +kernel
theorem diX13_385 : decode cX13_init 385 = .ok (.sipush 256, 3) := by decide +kernel
theorem diX13_388 : decode cX13_init 388 = .ok (.newarray .long, 2) := by decide +kernel
theorem diX13_390 : decode cX13_init 390 = .ok (.putfield 226, 3) := by decide +kernel
theorem diX13_393 : decode cX13_init 393 = .ok (.aload_n 0, 1) := by decide +kernel
theorem diX13_394 : decode cX13_init 394 = .ok (.bipush 20, 2) := by decide +kernel
theorem diX13_396 : decode cX13_init 396 = .ok (.newarray .long, 2) := by decide +kernel
theorem diX13_398 : decode cX13_init 398 = .ok (.putfield 229, 3) := by decide +kernel
theorem diX13_401 : decode cX13_init 401 = .ok (.aload_n 0, 1) := by decide +kernel
theorem diX13_402 : decode cX13_init 402 = .ok (.bipush 40, 2) := by decide +kernel
theorem diX13_404 : decode cX13_init 404 = .ok (.newarray .int, 2) := by decide +kernel
theorem diX13_406 : decode cX13_init 406 = .ok (.putfield 232, 3) := by decide +kernel
theorem diX13_409 : decode cX13_init 409 = .ok (.aload_n 0, 1) := by decide +kernel
theorem diX13_410 : decode cX13_init 410 = .ok (.bipush 40, 2) := by decide +kernel
theorem diX13_412 : decode cX13_init 412 = .ok (.newarray .int, 2) := by decide +kernel
theorem diX13_414 : decode cX13_init 414 = .ok (.putfield 235, 3) := by decide +kernel
theorem diX13_417 : decode cX13_init 417 = .ok (.aload_n 0, 1) := by decide +kernel
theorem diX13_418 : decode cX13_init 418 = .ok (.bipush 16, 2) := by decide +kernel
theorem diX13_420 : decode cX13_init 420 = .ok (.newarray .int, 2) := by decide +kernel
theorem diX13_422 : decode cX13_init 422 = .ok (.putfield 238, 3) := by decide +kernel
theorem diX13_425 : decode cX13_init 425 = .ok (.aload_n 0, 1) := by decide +kernel
theorem diX13_426 : decode cX13_init 426 = .ok (.bipush 16, 2) := by decide +kernel
theorem diX13_428 : decode cX13_init 428 = .ok (.newarray .int, 2) := by decide +kernel
theorem diX13_430 : decode cX13_init 430 = .ok (.putfield 241, 3) := by decide +kernel
theorem diX13_433 : decode cX13_init 433 = .ok (.aload_n 0, 1) := by decide +kernel
theorem diX13_434 : decode cX13_init 434 = .ok (.bipush 16, 2) := by decide +kernel
theorem diX13_436 : decode cX13_init 436 = .ok (.newarray .int, 2) := by decide +kernel
theorem diX13_438 : decode cX13_init 438 = .ok (.putfield 244, 3) := by decide +kernel
theorem diX13_441 : decode cX13_init 441 = .ok (.aload_n 0, 1) := by decide +kernel
theorem diX13_442 : decode cX13_init 442 = .ok (.sipush 312, 3) := by decide +kernel
theorem diX13_445 : decode cX13_init 445 = .ok (.newarray .long, 2) := by decide +kernel
theorem diX13_447 : decode cX13_init 447 = .ok (.putfield 247, 3) := by decide +kernel
theorem diX13_450 : decode cX13_init 450 = .ok (.aload_n 0, 1) := by decide +kernel
theorem diX13_451 : decode cX13_init 451 = .ok (.bipush 32, 2) := by decide +kernel
theorem diX13_453 : decode cX13_init 453 = .ok (.newarray .int, 2) := by decide +kernel
theorem diX13_455 : decode cX13_init 455 = .ok (.putfield 250, 3) := by decide +kernel
theorem diX13_458 : decode cX13_init 458 = .ok (.aload_n 0, 1) := by decide +kernel
theorem diX13_459 : decode cX13_init 459 = .ok (.bipush 40, 2) := by decide +kernel
theorem diX13_461 : decode cX13_init 461 = .ok (.newarray .long, 2) := by decide +kernel
theorem diX13_463 : decode cX13_init 463 = .ok (.putfield 253, 3) := by decide +kernel
theorem diX13_466 : decode cX13_init 466 = .ok (.aload_n 0, 1) := by decide +kernel
theorem diX13_467 : decode cX13_init 467 = .ok (.bipush 13, 2) := by decide +kernel
theorem diX13_469 : decode cX13_init 469 = .ok (.newarray .int, 2) := by decide +kernel
theorem diX13_471 : decode cX13_init 471 = .ok (.putfield 256, 3) := by decide +kernel
theorem diX13_474 : decode cX13_init 474 = .ok (.aload_n 0, 1) := by decide +kernel
theorem diX13_475 : decode cX13_init 475 = .ok (.bipush 24, 2) := by decide +kernel
theorem diX13_477 : decode cX13_init 477 = .ok (.newarray .int, 2) := by decide +kernel
theorem diX13_479 : decode cX13_init 479 = .ok (.putfield 259, 3) := by decide +kernel
theorem diX13_482 : decode cX13_init 482 = .ok (.aload_n 0, 1) := by decide +kernel
theorem diX13_483 : decode cX13_init 483 = .ok (.sipush 169, 3) := by decide +kernel
theorem diX13_486 : decode cX13_init 486 = .ok (.newarray .long, 2) := by decide +kernel
theorem diX13_488 : decode cX13_init 488 = .ok (.putfield 262, 3) := by decide +kernel
theorem diX13_491 : decode cX13_init 491 = .ok (.aload_n 0, 1) := by decide +kernel
theorem diX13_492 : decode cX13_init 492 = .ok (.iconst 5, 1) := by decide +kernel
theorem diX13_493 : decode cX13_init 493 = .ok (.newarray .int, 2) := by decide +kernel
theorem diX13_495 : decode cX13_init 495 = .ok (.dup, 1) := by decide +kernel
theorem diX13_496 : decode cX13_init 496 = .ok (.iconst 0, 1) := by decide +kernel
theorem diX13_497 : decode cX13_init 497 = .ok (.iconst 1, 1) := by decide +kernel
theorem diX13_498 : decode cX13_init 498 = .ok (.iastore, 1) := by decide +kernel
theorem diX13_499 : decode cX13_init 499 = .ok (.dup, 1) := by decide +kernel
theorem diX13_500 : decode cX13_init 500 = .ok (.iconst 1, 1) := by decide +kernel
theorem diX13_501 : decode cX13_init 501 = .ok (.iconst 1, 1) := by decide +kernel
theorem diX13_502 : decode cX13_init 502 = .ok (.iastore, 1) := by decide +kernel
theorem diX13_503 : decode cX13_init 503 = .ok (.dup, 1) := by decide +kernel
theorem diX13_504 : decode cX13_init 504 = .ok (.iconst 2, 1) := by decide +kernel
theorem diX13_505 : decode cX13_init 505 = .ok (.iconst 2, 1) := by decide +kernel
theorem diX13_506 : decode cX13_init 506 = .ok (.iastore, 1) := by decide +kernel
theorem diX13_507 : decode cX13_init 507 = .ok (.dup, 1) := by decide +kernel
theorem diX13_508 : decode cX13_init 508 = .ok (.iconst 3, 1) := by decide +kernel
theorem diX13_509 : decode cX13_init 509 = .ok (.bipush 6, 2) := by decide +kernel
theorem diX13_511 : decode cX13_init 511 = .ok (.iastore, 1) := by decide +kernel
theorem diX13_512 : decode cX13_init 512 = .ok (.dup, 1) := by decide +kernel
theorem diX13_513 : decode cX13_init 513 = .ok (.iconst 4, 1) := by decide +kernel
theorem diX13_514 : decode cX13_init 514 = .ok (.bipush 24, 2) := by decide +kernel
theorem diX13_516 : decode cX13_init 516 = .ok (.iastore, 1) := by decide +kernel
theorem diX13_517 : decode cX13_init 517 = .ok (.putfield 265, 3) := by decide +kernel
theorem diX13_520 : decode cX13_init 520 = .ok (.aload_n 0, 1) := by decide +kernel
theorem diX13_521 : decode cX13_init 521 = .ok (.sipush 480, 3) := by decide +kernel
theorem diX13_524 : decode cX13_init 524 = .ok (.newarray .int, 2) := by decide +kernel
theorem diX13_526 : decode cX13_init 526 = .ok (.putfield 268, 3) := by decide +kernel
theorem diX13_529 : decode cX13_init 529 = .ok (.aload_n 0, 1) := by decide +kernel
theorem diX13_530 : decode cX13_init 530 = .ok (.sipush 2880, 3) := by decide +kernel
theorem diX13_533 : decode cX13_init 533 = .ok (.newarray .int, 2) := by decide +kernel
theorem diX13_535 : decode cX13_init 535 = .ok (.putfield 271, 3) := by decide +kernel
theorem diX13_538 : decode cX13_init 538 = .ok (.aload_n 0, 1) := by decide +kernel
theorem diX13_539 : decode cX13_init 539 = .ok (.sipush 2880, 3) := by decide +kernel
theorem diX13_542 : decode cX13_init 542 = .ok (.newarray .int, 2) := by decide +kernel
theorem diX13_544 : decode cX13_init 544 = .ok (.putfield 274, 3) := by decide +kernel
theorem diX13_547 : decode cX13_init 547 = .ok (.aload_n 0, 1) := by decide +kernel
theorem diX13_548 : decode cX13_init 548 = .ok (.bipush 40, 2) := by decide +kernel
theorem diX13_550 : decode cX13_init 550 = .ok (.newarray .int, 2) := by decide +kernel
theorem diX13_552 : decode cX13_init 552 = .ok (.putfield 277, 3) := by decide +kernel
theorem diX13_555 : decode cX13_init 555 = .ok (.aload_n 0, 1) := by decide +kernel
theorem diX13_556 : decode cX13_init 556 = .ok (.bipush 40, 2) := by decide +kernel
theorem diX13_558 : decode cX13_init 558 = .ok (.newarray .int, 2) := by decide +kernel
theorem diX13_560 : decode cX13_init 560 = .ok (.putfield 280, 3) := by decide +kernel
theorem diX13_563 : decode cX13_init 563 = .ok (.aload_n 0, 1) := by decide +kernel
theorem diX13_564 : decode cX13_init 564 = .ok (.bipush 16, 2) := by decide +kernel
theorem diX13_566 : decode cX13_init 566 = .ok (.newarray .boolean, 2) := by decide +kernel
theorem diX13_568 : decode cX13_init 568 = .ok (.putfield 283, 3) := by decide +kernel
theorem diX13_571 : decode cX13_init 571 = .ok (.aload_n 0, 1) := by decide +kernel
theorem diX13_572 : decode cX13_init 572 = .ok (.sipush 8192, 3) := by decide +kernel
theorem diX13_575 : decode cX13_init 575 = .ok (.newarray .byte, 2) := by decide +kernel
theorem diX13_577 : decode cX13_init 577 = .ok (.putfield 286, 3) := by decide +kernel
theorem diX13_580 : decode cX13_init 580 = .ok (.aload_n 0, 1) := by decide +kernel
theorem diX13_581 : decode cX13_init 581 = .ok (.sipush 256, 3) := by decide +kernel
theorem diX13_584 : decode cX13_init 584 = .ok (.newarray .int, 2) := by decide +kernel
theorem diX13_586 : decode cX13_init 586 = .ok (.putfield 289, 3) := by decide +kernel
theorem diX13_589 : decode cX13_init 589 = .ok (.aload_n 0, 1) := by decide +kernel
theorem diX13_590 : decode cX13_init 590 = .ok (.sipush 257, 3) := by decide +kernel
theorem diX13_593 : decode cX13_init 593 = .ok (.newarray .int, 2) := by decide +kernel
theorem diX13_595 : decode cX13_init 595 = .ok (.putfield 292, 3) := by decide +kernel
theorem diX13_598 : decode cX13_init 598 = .ok (.aload_n 0, 1) := by decide +kernel
theorem diX13_599 : decode cX13_init 599 = .ok (.sipush 13200, 3) := by decide +kernel
theorem diX13_602 : decode cX13_init 602 = .ok (.newarray .int, 2) := by decide +kernel
theorem diX13_604 : decode cX13_init 604 = .ok (.putfield 295, 3) := by decide +kernel
theorem diX13_607 : decode cX13_init 607 = .ok (.aload_n 0, 1) := by decide +kernel
theorem diX13_608 : decode cX13_init 608 = .ok (.sipush 800, 3) := by decide +kernel
theorem diX13_611 : decode cX13_init 611 = .ok (.newarray .int, 2) := by decide +kernel
theorem diX13_613 : decode cX13_init 613 = .ok (.putfield 298, 3) := by decide +kernel
theorem diX13_616 : decode cX13_init 616 = .ok (.aload_n 0, 1) := by decide +kernel
theorem diX13_617 : decode cX13_init 617 = .ok (.sipush 800, 3) := by decide +kernel
theorem diX13_620 : decode cX13_init 620 = .ok (.newarray .int, 2) := by decide +kernel
theorem diX13_622 : decode cX13_init 622 = .ok (.putfield 301, 3) := by decide +kernel
theorem diX13_625 : decode cX13_init 625 = .ok (.aload_n 0, 1) := by decide +kernel
theorem diX13_626 : decode cX13_init 626 = .ok (.sipush 800, 3) := by decide +kernel
theorem diX13_629 : decode cX13_init 629 = .ok (.newarray .int, 2) := by decide +kernel
theorem diX13_631 : decode cX13_init 631 = .ok (.putfield 304, 3) := by decide +kernel
theorem diX13_634 : decode cX13_init 634 = .ok (.aload_n 0, 1) := by decide +kernel
theorem diX13_635 : decode cX13_init 635 = .ok (.sipush 13200, 3) := by decide +kernel
theorem diX13_638 : decode cX13_init 638 = .ok (.newarray .int, 2) := by decide +kernel
theorem diX13_640 : decode cX13_init 640 = .ok (.putfield 307, 3) := by decide +kernel
theorem diX13_643 : decode cX13_init 643 = .ok (.aload_n 0, 1) := by decide +kernel
theorem diX13_644 : decode cX13_init 644 = .ok (.sipush 13200, 3) := by decide +kernel
theorem diX13_647 : decode cX13_init 647 = .ok (.newarray .int, 2) := by decide +kernel
theorem diX13_649 : decode cX13_init 649 = .ok (.putfield 310, 3) := by decide +kernel
theorem diX13_652 : decode cX13_init 652 = .ok (.aload_n 0, 1) := by decide +kernel
theorem diX13_653 : decode cX13_init 653 = .ok (.sipush 13200, 3) := by decide +kernel
theorem diX13_656 : decode cX13_init 656 = .ok (.newarray .int, 2) := by decide +kernel
theorem diX13_658 : decode cX13_init 658 = .ok (.putfield 313, 3) := by decide +kernel
theorem diX13_661 : decode cX13_init 661 = .ok (.aload_n 0, 1) := by decide +kernel
theorem diX13_662 : decode cX13_init 662 = .ok (.ldc_w 316, 3) := by decide +kernel
theorem diX13_665 : decode cX13_init 665 = .ok (.newarray .int, 2) := by decide +kernel
theorem diX13_667 : decode cX13_init 667 = .ok (.putfield 317, 3) := by decide +kernel
theorem diX13_670 : decode cX13_init 670 = .ok (.aload_n 0, 1) := by decide +kernel
theorem diX13_671 : decode cX13_init 671 = .ok (.sipush 320, 3) := by decide +kernel
theorem diX13_674 : decode cX13_init 674 = .ok (.newarray .int, 2) := by decide +kernel
theorem diX13_676 : decode cX13_init 676 = .ok (.putfield 320, 3) := by decide +kernel
theorem diX13_679 : decode cX13_init 679 = .ok (.aload_n 0, 1) := by decide +kernel
theorem diX13_680 : decode cX13_init 680 = .ok (.bipush 20, 2) := by decide +kernel
theorem diX13_682 : decode cX13_init 682 = .ok (.newarray .int, 2) := by decide +kernel
theorem diX13_684 : decode cX13_init 684 = .ok (.putfield 323, 3) := by decide +kernel
theorem diX13_687 : decode cX13_init 687 = .ok (.aload_n 0, 1) := by decide +kernel
theorem diX13_688 : decode cX13_init 688 = .ok (.bipush 20, 2) := by decide +kernel
theorem diX13_690 : decode cX13_init 690 = .ok (.newarray .int, 2) := by decide +kernel
theorem diX13_692 : decode cX13_init 692 = .ok (.putfield 326, 3) := by decide +kernel
theorem diX13_695 : decode cX13_init 695 = .ok (.aload_n 0, 1) := by decide +kernel
theorem diX13_696 : decode cX13_init 696 = .ok (.bipush 6, 2) := by decide +kernel
theorem diX13_698 : decode cX13_init 698 = .ok (.newarray .int, 2) := by decide +kernel
theorem diX13_700 : decode cX13_init 700 = .ok (.putfield 329, 3) := by decide +kernel
theorem diX13_703 : decode cX13_init 703 = .ok (.aload_n 0, 1) := by decide +kernel
theorem diX13_704 : decode cX13_init 704 = .ok (.sipush 3600, 3) := by decide +kernel
theorem diX13_707 : decode cX13_init 707 = .ok (.newarray .int, 2) := by decide +kernel
theorem diX13_709 : decode cX13_init 709 = .ok (.putfield 332, 3) := by decide +kernel
theorem diX13_712 : decode cX13_init 712 = .ok (.aload_n 0, 1) := by decide +kernel
theorem diX13_713 : decode cX13_init 713 = .ok (.sipush 7200, 3) := by decide +kernel
theorem diX13_716 : decode cX13_init 716 = .ok (.newarray .int, 2) := by decide +kernel
theorem diX13_718 : decode cX13_init 718 = .ok (.putfield 335, 3) := by decide +kernel
theorem diX13_721 : decode cX13_init 721 = .ok (.aload_n 0, 1) := by decide +kernel
theorem diX13_722 : decode cX13_init 722 = .ok (.sipush 720, 3) := by decide +kernel
theorem diX13_725 : decode cX13_init 725 = .ok (.newarray .int, 2) := by decide +kernel
theorem diX13_727 : decode cX13_init 727 = .ok (.putfield 338, 3) := by decide +kernel
theorem diX13_730 : decode cX13_init 730 = .ok (.aload_n 0, 1) := by decide +kernel
theorem diX13_731 : decode cX13_init 731 = .ok (.sipush 2880, 3) := by decide +kernel
theorem diX13_734 : decode cX13_init 734 = .ok (.newarray .int, 2) := by decide +kernel
theorem diX13_736 : decode cX13_init 736 = .ok (.putfield 341, 3) := by decide +kernel
theorem diX13_739 : decode cX13_init 739 = .ok (.aload_n 0, 1) := by decide +kernel
theorem diX13_740 : decode cX13_init 740 = .ok (.sipush 720, 3) := by decide +kernel
theorem diX13_743 : decode cX13_init 743 = .ok (.newarray .int, 2) := by decide +kernel
theorem diX13_745 : decode cX13_init 745 = .ok (.putfield 344, 3) := by decide +kernel
theorem diX13_748 : decode cX13_init 748 = .ok (.aload_n 0, 1) := by decide +kernel
theorem diX13_749 : decode cX13_init 749 = .ok (.sipush 720, 3) := by decide +kernel
theorem diX13_752 : decode cX13_init 752 = .ok (.newarray .int, 2) := by decide +kernel
theorem diX13_754 : decode cX13_init 754 = .ok (.putfield 347, 3) := by decide +kernel
theorem diX13_757 : decode cX13_init 757 = .ok (.aload_n 0, 1) := by decide +kernel
theorem diX13_758 : decode cX13_init 758 = .ok (.sipush 2880, 3) := by decide +kernel
theorem diX13_761 : decode cX13_init 761 = .ok (.newarray .int, 2) := by decide +kernel
theorem diX13_763 : decode cX13_init 763 = .ok (.putfield 350, 3) := by decide +kernel
theorem diX13_766 : decode cX13_init 766 = .ok (.aload_n 0, 1) := by decide +kernel
theorem diX13_767 : decode cX13_init 767 = .ok (.sipush 2880, 3) := by decide +kernel
theorem diX13_770 : decode cX13_init 770 = .ok (.newarray .int, 2) := by decide +kernel
theorem diX13_772 : decode cX13_init 772 = .ok (.putfield 353, 3) := by decide +kernel
theorem diX13_775 : decode cX13_init 775 = .ok (.aload_n 0, 1) := by decide +kernel
theorem diX13_776 : decode cX13_init 776 = .ok (.iconst 5, 1) := by decide +kernel
theorem diX13_777 : decode cX13_init 777 = .ok (.newarray .int, 2) := by decide +kernel
theorem diX13_779 : decode cX13_init 779 = .ok (.putfield 356, 3) := by decide +kernel
theorem diX13_782 : decode cX13_init 782 = .ok (.aload_n 0, 1) := by decide +kernel
theorem diX13_783 : decode cX13_init 783 = .ok (.sipush 400, 3) := by decide +kernel
theorem diX13_786 : decode cX13_init 786 = .ok (.newarray .int, 2) := by decide +kernel
theorem diX13_788 : decode cX13_init 788 = .ok (.putfield 359, 3) := by decide +kernel
theorem diX13_791 : decode cX13_init 791 = .ok (.aload_n 0, 1) := by decide +kernel
theorem diX13_792 : decode cX13_init 792 = .ok (.sipush 600, 3) := by decide +kernel
theorem diX13_795 : decode cX13_init 795 = .ok (.newarray .int, 2) := by decide +kernel
theorem diX13_797 : decode cX13_init 797 = .ok (.putfield 362, 3) := by decide +kernel
theorem diX13_800 : decode cX13_init 800 = .ok (.aload_n 0, 1) := by decide +kernel
theorem diX13_801 : decode cX13_init 801 = .ok (.sipush 600, 3) := by decide +kernel
theorem diX13_804 : decode cX13_init 804 = .ok (.newarray .int, 2) := by decide +kernel
theorem diX13_806 : decode cX13_init 806 = .ok (.putfield 365, 3) := by decide +kernel
theorem diX13_809 : decode cX13_init 809 = .ok (.aload_n 0, 1) := by decide +kernel
theorem diX13_810 : decode cX13_init 810 = .ok (.sipush 600, 3) := by decide +kernel
theorem diX13_813 : decode cX13_init 813 = .ok (.newarray .int, 2) := by decide +kernel
theorem diX13_815 : decode cX13_init 815 = .ok (.putfield 368, 3) := by decide +kernel
theorem diX13_818 : decode cX13_init 818 = .ok (.aload_n 0, 1) := by decide +kernel
theorem diX13_819 : decode cX13_init 819 = .ok (.sipush 8040, 3) := by decide +kernel
theorem diX13_822 : decode cX13_init 822 = .ok (.newarray .int, 2) := by decide +kernel
theorem diX13_824 : decode cX13_init 824 = .ok (.putfield 371, 3) := by decide +kernel
theorem diX13_827 : decode cX13_init 827 = .ok (.aload_n 0, 1) := by decide +kernel
theorem diX13_828 : decode cX13_init 828 = .ok (.bipush 40, 2) := by decide +kernel
theorem diX13_830 : decode cX13_init 830 = .ok (.newarray .int, 2) := by decide +kernel
theorem diX13_832 : decode cX13_init 832 = .ok (.putfield 374, 3) := by decide +kernel
theorem diX13_835 : decode cX13_init 835 = .ok (.aload_n 0, 1) := by decide +kernel
theorem diX13_836 : decode cX13_init 836 = .ok (.bipush 40, 2) := by decide +kernel
theorem diX13_838 : decode cX13_init 838 = .ok (.newarray .int, 2) := by decide +kernel
theorem diX13_840 : decode cX13_init 840 = .ok (.putfield 377, 3) := by decide +kernel
theorem diX13_843 : decode cX13_init 843 = .ok (.aload_n 0, 1) := by decide +kernel
theorem diX13_844 : decode cX13_init 844 = .ok (.iconst 5, 1) := by decide +kernel
theorem diX13_845 : decode cX13_init 845 = .ok (.newarray .int, 2) := by decide +kernel
theorem diX13_847 : decode cX13_init 847 = .ok (.putfield 380, 3) := by decide +kernel
theorem diX13_850 : decode cX13_init 850 = .ok (.aload_n 0, 1) := by decide +kernel
theorem diX13_851 : decode cX13_init 851 = .ok (.iconst 5, 1) := by decide +kernel
theorem diX13_852 : decode cX13_init 852 = .ok (.newarray .boolean, 2) := by decide +kernel
theorem diX13_854 : decode cX13_init 854 = .ok (.putfield 383, 3) := by decide +kernel
theorem diX13_857 : decode cX13_init 857 = .ok (.aload_n 0, 1) := by decide +kernel
theorem diX13_858 : decode cX13_init 858 = .ok (.invokevirtual 386, 3) := by decide +kernel
theorem diX13_861 : decode cX13_init 861 = .ok (.aload_n 0, 1) := by decide +kernel
theorem diX13_862 : decode cX13_init 862 = .ok (.invokevirtual 389, 3) := by decide +kernel
theorem diX13_865 : decode cX13_init 865 = .ok (.iconst 0, 1) := by decide +kernel
theorem diX13_866 : decode cX13_init 866 = .ok (.istore_n 1, 1) := by decide +kernel
theorem diX13_867 : decode cX13_init 867 = .ok (.iload_n 1, 1) := by decide +kernel
theorem diX13_868 : decode cX13_init 868 = .ok (.aload_n 0, 1) := by decide +kernel
theorem diX13_869 : decode cX13_init 869 = .ok (.getfield 179, 3) := by decide +kernel
theorem diX13_872 : decode cX13_init 872 = .ok (.arraylength, 1) := by decide +kernel
theorem diX13_873 : decode cX13_init 873 = .ok (.if_icmp .ge 22, 3) := by decide +kernel
theorem diX13_876 : decode cX13_init 876 = .ok (.aload_n 0, 1) := by decide +kernel
theorem diX13_877 : decode cX13_init 877 = .ok (.getfield 179, 3) := by decide +kernel
theorem diX13_880 : decode cX13_init 880 = .ok (.iload_n 1, 1) := by decide +kernel
theorem diX13_881 : decode cX13_init 881 = .ok (.new 19, 3) := by decide +kernel
theorem diX13_884 : decode cX13_init 884 = .ok (.dup, 1) := by decide +kernel
theorem diX13_885 : decode cX13_init 885 = .ok (.invokespecial 113, 3) := by decide +kernel
theorem diX13_888 : decode cX13_init 888 = .ok (.aastore, 1) := by decide +kernel
theorem diX13_889 : decode cX13_init 889 = .ok (.iinc 1 1, 3) := by decide +kernel
theorem diX13_892 : decode cX13_init 892 = .ok (.goto (-25), 3) := by decide +kernel
theorem diX13_895 : decode cX13_init 895 = .ok (.return_, 1) := by decide +kernel
def wi13_b : List Cond := [.methodLink RX13 101 objectInit, .instanceMethod objectInit, .code objectInit ⟨#[0xb1]⟩ 1 none, .arrayClass .int, .arrayClass .byte, .arrayClass .long, .arrayClass .boolean, .constant RX13 136 (86400), .constant RX13 316 (900000), .classLink RX13 19 RX12, .instantiable RX12 16, .initialized RX12, .instanceMethod yX12_init]
def wi13_f0 : List Cond := [.fieldLink RX13 29 "KnotHouseModel" "trial" "[I", .fieldLink RX13 7 "KnotHouseModel" "number" "[I", .fieldLink RX13 26 "KnotHouseModel" "met" "[I", .fieldLink RX13 11 "KnotHouseModel" "gone" "[Z", .fieldLink RX13 54 "KnotHouseModel" "partRow" "[I", .fieldLink RX13 85 "KnotHouseModel" "partVisits" "[I", .fieldLink RX13 88 "KnotHouseModel" "written" "[Z", .fieldLink RX13 106 "KnotHouseModel" "tape" "[B", .fieldLink RX13 110 "KnotHouseModel" "rows" "[I", .fieldLink RX13 114 "KnotHouseModel" "cur" "LKnotHouseModel$Net;", .fieldLink RX13 118 "KnotHouseModel" "other" "LKnotHouseModel$Net;", .fieldLink RX13 121 "KnotHouseModel" "made" "LKnotHouseModel$Net;", .fieldLink RX13 124 "KnotHouseModel" "name" "[I", .fieldLink RX13 127 "KnotHouseModel" "nameSign" "[I", .fieldLink RX13 130 "KnotHouseModel" "nameAt" "[I", .fieldLink RX13 133 "KnotHouseModel" "nameHas" "[I", .fieldLink RX13 137 "KnotHouseModel" "list" "[I", .fieldLink RX13 140 "KnotHouseModel" "order" "[I", .fieldLink RX13 143 "KnotHouseModel" "near" "[I", .fieldLink RX13 146 "KnotHouseModel" "seen" "[I", .fieldLink RX13 149 "KnotHouseModel" "fresh" "[I", .fieldLink RX13 152 "KnotHouseModel" "target" "[I", .fieldLink RX13 155 "KnotHouseModel" "putCross" "[I", .fieldLink RX13 158 "KnotHouseModel" "putUnder" "[I", .fieldLink RX13 161 "KnotHouseModel" "side" "[I", .fieldLink RX13 164 "KnotHouseModel" "corner" "[I", .fieldLink RX13 167 "KnotHouseModel" "summands" "[I", .fieldLink RX13 170 "KnotHouseModel" "waits" "[I", .fieldLink RX13 173 "KnotHouseModel" "reached" "[Z", .fieldLink RX13 176 "KnotHouseModel" "ordered" "[I", .fieldLink RX13 179 "KnotHouseModel" "level" "[LKnotHouseModel$Net;", .fieldLink RX13 183 "KnotHouseModel" "wasMet" "[Z", .fieldLink RX13 186 "KnotHouseModel" "conway" "[J", .fieldLink RX13 190 "KnotHouseModel" "conwayRow" "[I"]
def wi13_f1 : List Cond := [.fieldLink RX13 193 "KnotHouseModel" "twice" "[J", .fieldLink RX13 196 "KnotHouseModel" "twiceRow" "[I", .fieldLink RX13 199 "KnotHouseModel" "group" "[I", .fieldLink RX13 202 "KnotHouseModel" "jones" "[J", .fieldLink RX13 205 "KnotHouseModel" "power" "[J", .fieldLink RX13 208 "KnotHouseModel" "jonesRow" "[I", .fieldLink RX13 211 "KnotHouseModel" "states" "[J", .fieldLink RX13 214 "KnotHouseModel" "colour" "[I", .fieldLink RX13 217 "KnotHouseModel" "white" "[I", .fieldLink RX13 220 "KnotHouseModel" "form" "[J", .fieldLink RX13 223 "KnotHouseModel" "product" "[J", .fieldLink RX13 226 "KnotHouseModel" "before" "[J", .fieldLink RX13 229 "KnotHouseModel" "terms" "[J", .fieldLink RX13 232 "KnotHouseModel" "arc" "[I", .fieldLink RX13 235 "KnotHouseModel" "begun" "[I", .fieldLink RX13 238 "KnotHouseModel" "over" "[I", .fieldLink RX13 241 "KnotHouseModel" "into" "[I", .fieldLink RX13 244 "KnotHouseModel" "from" "[I", .fieldLink RX13 247 "KnotHouseModel" "grid" "[J", .fieldLink RX13 250 "KnotHouseModel" "coverRow" "[I", .fieldLink RX13 253 "KnotHouseModel" "cover" "[J", .fieldLink RX13 256 "KnotHouseModel" "leftRow" "[I", .fieldLink RX13 259 "KnotHouseModel" "leftCol" "[I", .fieldLink RX13 262 "KnotHouseModel" "square" "[J", .fieldLink RX13 265 "KnotHouseModel" "things" "[I", .fieldLink RX13 268 "KnotHouseModel" "images" "[I", .fieldLink RX13 271 "KnotHouseModel" "down" "[I", .fieldLink RX13 274 "KnotHouseModel" "back" "[I", .fieldLink RX13 277 "KnotHouseModel" "given" "[I", .fieldLink RX13 280 "KnotHouseModel" "trail" "[I", .fieldLink RX13 283 "KnotHouseModel" "ofPart" "[Z", .fieldLink RX13 286 "KnotHouseModel" "loopOf" "[B", .fieldLink RX13 289 "KnotHouseModel" "loopCount" "[I", .fieldLink RX13 292 "KnotHouseModel" "base" "[I"]
def wi13_f2 : List Cond := [.fieldLink RX13 295 "KnotHouseModel" "place" "[I", .fieldLink RX13 298 "KnotHouseModel" "many" "[I", .fieldLink RX13 301 "KnotHouseModel" "steps" "[I", .fieldLink RX13 304 "KnotHouseModel" "ranks" "[I", .fieldLink RX13 307 "KnotHouseModel" "work" "[I", .fieldLink RX13 310 "KnotHouseModel" "rowBegin" "[I", .fieldLink RX13 313 "KnotHouseModel" "rowEnd" "[I", .fieldLink RX13 317 "KnotHouseModel" "pool" "[I", .fieldLink RX13 320 "KnotHouseModel" "words" "[I", .fieldLink RX13 323 "KnotHouseModel" "lengths" "[I", .fieldLink RX13 326 "KnotHouseModel" "strands" "[I", .fieldLink RX13 329 "KnotHouseModel" "simples" "[I", .fieldLink RX13 332 "KnotHouseModel" "ends" "[I", .fieldLink RX13 335 "KnotHouseModel" "letters" "[I", .fieldLink RX13 338 "KnotHouseModel" "sizes" "[I", .fieldLink RX13 341 "KnotHouseModel" "more" "[I", .fieldLink RX13 344 "KnotHouseModel" "ahead" "[I", .fieldLink RX13 347 "KnotHouseModel" "over2" "[I", .fieldLink RX13 350 "KnotHouseModel" "passes" "[I", .fieldLink RX13 353 "KnotHouseModel" "leaves" "[I", .fieldLink RX13 356 "KnotHouseModel" "endRow" "[I", .fieldLink RX13 359 "KnotHouseModel" "signed" "[I", .fieldLink RX13 362 "KnotHouseModel" "word" "[I", .fieldLink RX13 365 "KnotHouseModel" "quotient" "[I", .fieldLink RX13 368 "KnotHouseModel" "formS" "[I", .fieldLink RX13 371 "KnotHouseModel" "forms" "[I", .fieldLink RX13 374 "KnotHouseModel" "one" "[I", .fieldLink RX13 377 "KnotHouseModel" "two" "[I", .fieldLink RX13 380 "KnotHouseModel" "leads" "[I", .fieldLink RX13 383 "KnotHouseModel" "closed" "[Z"]
def wi13 : List Cond := .code yX13_init cX13_init 2 none :: ((wi13_b ++ (wi13_f0 ++ (wi13_f1 ++ (wi13_f2)))) ++ (wsX130 ++ (wsX120 ++ (wsX12_init ++ (wsV RX13 386 RX13 yX13_makeSimples wm_X13_makeSimples_a ++ wsV RX13 389 RX13 yX13_makePermutations wm_X13_makePermutations_a)))))
theorem wi13_13 : ∀ w ∈ u_ws RX13 TX13 120, w ∈ wi13 := fun _ h => List.mem_cons_of_mem _ (List.mem_append_right _ (List.mem_append_left _ h))
theorem wi13_12 : ∀ w ∈ u_ws RX12 TX12 16, w ∈ wi13 := fun _ h => List.mem_cons_of_mem _ (List.mem_append_right _ (List.mem_append_right _ (List.mem_append_left _ h)))
theorem mi13_0 : (Cond.methodLink RX13 101 objectInit) ∈ wi13 := List.mem_of_getElem? (i := 1) rfl
theorem mi13_1 : (Cond.instanceMethod objectInit) ∈ wi13 := List.mem_of_getElem? (i := 2) rfl
theorem mi13_2 : (Cond.code objectInit ⟨#[0xb1]⟩ 1 none) ∈ wi13 := List.mem_of_getElem? (i := 3) rfl
theorem mi13_3 : (Cond.arrayClass .int) ∈ wi13 := List.mem_of_getElem? (i := 4) rfl
theorem mi13_4 : (Cond.arrayClass .byte) ∈ wi13 := List.mem_of_getElem? (i := 5) rfl
theorem mi13_5 : (Cond.arrayClass .long) ∈ wi13 := List.mem_of_getElem? (i := 6) rfl
theorem mi13_6 : (Cond.arrayClass .boolean) ∈ wi13 := List.mem_of_getElem? (i := 7) rfl
theorem mi13_7 : (Cond.constant RX13 136 (86400)) ∈ wi13 := List.mem_of_getElem? (i := 8) rfl
theorem mi13_8 : (Cond.constant RX13 316 (900000)) ∈ wi13 := List.mem_of_getElem? (i := 9) rfl
theorem mi13_9 : (Cond.classLink RX13 19 RX12) ∈ wi13 := List.mem_of_getElem? (i := 10) rfl
theorem mi13_10 : (Cond.instantiable RX12 16) ∈ wi13 := List.mem_of_getElem? (i := 11) rfl
theorem mi13_11 : (Cond.initialized RX12) ∈ wi13 := List.mem_of_getElem? (i := 12) rfl
theorem mi13_12 : (Cond.instanceMethod yX12_init) ∈ wi13 := List.mem_of_getElem? (i := 13) rfl
theorem mi13_13 : (Cond.fieldLink RX13 29 "KnotHouseModel" "trial" "[I") ∈ wi13 := List.mem_of_getElem? (i := 14) rfl
theorem mi13_14 : (Cond.fieldLink RX13 7 "KnotHouseModel" "number" "[I") ∈ wi13 := List.mem_of_getElem? (i := 15) rfl
theorem mi13_15 : (Cond.fieldLink RX13 26 "KnotHouseModel" "met" "[I") ∈ wi13 := List.mem_of_getElem? (i := 16) rfl
theorem mi13_16 : (Cond.fieldLink RX13 11 "KnotHouseModel" "gone" "[Z") ∈ wi13 := List.mem_of_getElem? (i := 17) rfl
theorem mi13_17 : (Cond.fieldLink RX13 54 "KnotHouseModel" "partRow" "[I") ∈ wi13 := List.mem_of_getElem? (i := 18) rfl
theorem mi13_18 : (Cond.fieldLink RX13 85 "KnotHouseModel" "partVisits" "[I") ∈ wi13 := List.mem_of_getElem? (i := 19) rfl
theorem mi13_19 : (Cond.fieldLink RX13 88 "KnotHouseModel" "written" "[Z") ∈ wi13 := List.mem_of_getElem? (i := 20) rfl
theorem mi13_20 : (Cond.fieldLink RX13 106 "KnotHouseModel" "tape" "[B") ∈ wi13 := List.mem_of_getElem? (i := 21) rfl
theorem mi13_21 : (Cond.fieldLink RX13 110 "KnotHouseModel" "rows" "[I") ∈ wi13 := List.mem_of_getElem? (i := 22) rfl
theorem mi13_22 : (Cond.fieldLink RX13 114 "KnotHouseModel" "cur" "LKnotHouseModel$Net;") ∈ wi13 := List.mem_of_getElem? (i := 23) rfl
theorem mi13_23 : (Cond.fieldLink RX13 118 "KnotHouseModel" "other" "LKnotHouseModel$Net;") ∈ wi13 := List.mem_of_getElem? (i := 24) rfl
theorem mi13_24 : (Cond.fieldLink RX13 121 "KnotHouseModel" "made" "LKnotHouseModel$Net;") ∈ wi13 := List.mem_of_getElem? (i := 25) rfl
theorem mi13_25 : (Cond.fieldLink RX13 124 "KnotHouseModel" "name" "[I") ∈ wi13 := List.mem_of_getElem? (i := 26) rfl
theorem mi13_26 : (Cond.fieldLink RX13 127 "KnotHouseModel" "nameSign" "[I") ∈ wi13 := List.mem_of_getElem? (i := 27) rfl
theorem mi13_27 : (Cond.fieldLink RX13 130 "KnotHouseModel" "nameAt" "[I") ∈ wi13 := List.mem_of_getElem? (i := 28) rfl
theorem mi13_28 : (Cond.fieldLink RX13 133 "KnotHouseModel" "nameHas" "[I") ∈ wi13 := List.mem_of_getElem? (i := 29) rfl
theorem mi13_29 : (Cond.fieldLink RX13 137 "KnotHouseModel" "list" "[I") ∈ wi13 := List.mem_of_getElem? (i := 30) rfl
theorem mi13_30 : (Cond.fieldLink RX13 140 "KnotHouseModel" "order" "[I") ∈ wi13 := List.mem_of_getElem? (i := 31) rfl
theorem mi13_31 : (Cond.fieldLink RX13 143 "KnotHouseModel" "near" "[I") ∈ wi13 := List.mem_of_getElem? (i := 32) rfl
theorem mi13_32 : (Cond.fieldLink RX13 146 "KnotHouseModel" "seen" "[I") ∈ wi13 := List.mem_of_getElem? (i := 33) rfl
theorem mi13_33 : (Cond.fieldLink RX13 149 "KnotHouseModel" "fresh" "[I") ∈ wi13 := List.mem_of_getElem? (i := 34) rfl
theorem mi13_34 : (Cond.fieldLink RX13 152 "KnotHouseModel" "target" "[I") ∈ wi13 := List.mem_of_getElem? (i := 35) rfl
theorem mi13_35 : (Cond.fieldLink RX13 155 "KnotHouseModel" "putCross" "[I") ∈ wi13 := List.mem_of_getElem? (i := 36) rfl
theorem mi13_36 : (Cond.fieldLink RX13 158 "KnotHouseModel" "putUnder" "[I") ∈ wi13 := List.mem_of_getElem? (i := 37) rfl
theorem mi13_37 : (Cond.fieldLink RX13 161 "KnotHouseModel" "side" "[I") ∈ wi13 := List.mem_of_getElem? (i := 38) rfl
theorem mi13_38 : (Cond.fieldLink RX13 164 "KnotHouseModel" "corner" "[I") ∈ wi13 := List.mem_of_getElem? (i := 39) rfl
theorem mi13_39 : (Cond.fieldLink RX13 167 "KnotHouseModel" "summands" "[I") ∈ wi13 := List.mem_of_getElem? (i := 40) rfl
theorem mi13_40 : (Cond.fieldLink RX13 170 "KnotHouseModel" "waits" "[I") ∈ wi13 := List.mem_of_getElem? (i := 41) rfl
theorem mi13_41 : (Cond.fieldLink RX13 173 "KnotHouseModel" "reached" "[Z") ∈ wi13 := List.mem_of_getElem? (i := 42) rfl
theorem mi13_42 : (Cond.fieldLink RX13 176 "KnotHouseModel" "ordered" "[I") ∈ wi13 := List.mem_of_getElem? (i := 43) rfl
theorem mi13_43 : (Cond.fieldLink RX13 179 "KnotHouseModel" "level" "[LKnotHouseModel$Net;") ∈ wi13 := List.mem_of_getElem? (i := 44) rfl
theorem mi13_44 : (Cond.fieldLink RX13 183 "KnotHouseModel" "wasMet" "[Z") ∈ wi13 := List.mem_of_getElem? (i := 45) rfl
theorem mi13_45 : (Cond.fieldLink RX13 186 "KnotHouseModel" "conway" "[J") ∈ wi13 := List.mem_of_getElem? (i := 46) rfl
theorem mi13_46 : (Cond.fieldLink RX13 190 "KnotHouseModel" "conwayRow" "[I") ∈ wi13 := List.mem_of_getElem? (i := 47) rfl
theorem mi13_47 : (Cond.fieldLink RX13 193 "KnotHouseModel" "twice" "[J") ∈ wi13 := List.mem_of_getElem? (i := 48) rfl
theorem mi13_48 : (Cond.fieldLink RX13 196 "KnotHouseModel" "twiceRow" "[I") ∈ wi13 := List.mem_of_getElem? (i := 49) rfl
theorem mi13_49 : (Cond.fieldLink RX13 199 "KnotHouseModel" "group" "[I") ∈ wi13 := List.mem_of_getElem? (i := 50) rfl
theorem mi13_50 : (Cond.fieldLink RX13 202 "KnotHouseModel" "jones" "[J") ∈ wi13 := List.mem_of_getElem? (i := 51) rfl
theorem mi13_51 : (Cond.fieldLink RX13 205 "KnotHouseModel" "power" "[J") ∈ wi13 := List.mem_of_getElem? (i := 52) rfl
theorem mi13_52 : (Cond.fieldLink RX13 208 "KnotHouseModel" "jonesRow" "[I") ∈ wi13 := List.mem_of_getElem? (i := 53) rfl
theorem mi13_53 : (Cond.fieldLink RX13 211 "KnotHouseModel" "states" "[J") ∈ wi13 := List.mem_of_getElem? (i := 54) rfl
theorem mi13_54 : (Cond.fieldLink RX13 214 "KnotHouseModel" "colour" "[I") ∈ wi13 := List.mem_of_getElem? (i := 55) rfl
theorem mi13_55 : (Cond.fieldLink RX13 217 "KnotHouseModel" "white" "[I") ∈ wi13 := List.mem_of_getElem? (i := 56) rfl
theorem mi13_56 : (Cond.fieldLink RX13 220 "KnotHouseModel" "form" "[J") ∈ wi13 := List.mem_of_getElem? (i := 57) rfl
theorem mi13_57 : (Cond.fieldLink RX13 223 "KnotHouseModel" "product" "[J") ∈ wi13 := List.mem_of_getElem? (i := 58) rfl
theorem mi13_58 : (Cond.fieldLink RX13 226 "KnotHouseModel" "before" "[J") ∈ wi13 := List.mem_of_getElem? (i := 59) rfl
theorem mi13_59 : (Cond.fieldLink RX13 229 "KnotHouseModel" "terms" "[J") ∈ wi13 := List.mem_of_getElem? (i := 60) rfl
theorem mi13_60 : (Cond.fieldLink RX13 232 "KnotHouseModel" "arc" "[I") ∈ wi13 := List.mem_of_getElem? (i := 61) rfl
theorem mi13_61 : (Cond.fieldLink RX13 235 "KnotHouseModel" "begun" "[I") ∈ wi13 := List.mem_of_getElem? (i := 62) rfl
theorem mi13_62 : (Cond.fieldLink RX13 238 "KnotHouseModel" "over" "[I") ∈ wi13 := List.mem_of_getElem? (i := 63) rfl
theorem mi13_63 : (Cond.fieldLink RX13 241 "KnotHouseModel" "into" "[I") ∈ wi13 := List.mem_of_getElem? (i := 64) rfl
theorem mi13_64 : (Cond.fieldLink RX13 244 "KnotHouseModel" "from" "[I") ∈ wi13 := List.mem_of_getElem? (i := 65) rfl
theorem mi13_65 : (Cond.fieldLink RX13 247 "KnotHouseModel" "grid" "[J") ∈ wi13 := List.mem_of_getElem? (i := 66) rfl
theorem mi13_66 : (Cond.fieldLink RX13 250 "KnotHouseModel" "coverRow" "[I") ∈ wi13 := List.mem_of_getElem? (i := 67) rfl
theorem mi13_67 : (Cond.fieldLink RX13 253 "KnotHouseModel" "cover" "[J") ∈ wi13 := List.mem_of_getElem? (i := 68) rfl
theorem mi13_68 : (Cond.fieldLink RX13 256 "KnotHouseModel" "leftRow" "[I") ∈ wi13 := List.mem_of_getElem? (i := 69) rfl
theorem mi13_69 : (Cond.fieldLink RX13 259 "KnotHouseModel" "leftCol" "[I") ∈ wi13 := List.mem_of_getElem? (i := 70) rfl
theorem mi13_70 : (Cond.fieldLink RX13 262 "KnotHouseModel" "square" "[J") ∈ wi13 := List.mem_of_getElem? (i := 71) rfl
theorem mi13_71 : (Cond.fieldLink RX13 265 "KnotHouseModel" "things" "[I") ∈ wi13 := List.mem_of_getElem? (i := 72) rfl
theorem mi13_72 : (Cond.fieldLink RX13 268 "KnotHouseModel" "images" "[I") ∈ wi13 := List.mem_of_getElem? (i := 73) rfl
theorem mi13_73 : (Cond.fieldLink RX13 271 "KnotHouseModel" "down" "[I") ∈ wi13 := List.mem_of_getElem? (i := 74) rfl
theorem mi13_74 : (Cond.fieldLink RX13 274 "KnotHouseModel" "back" "[I") ∈ wi13 := List.mem_of_getElem? (i := 75) rfl
theorem mi13_75 : (Cond.fieldLink RX13 277 "KnotHouseModel" "given" "[I") ∈ wi13 := List.mem_of_getElem? (i := 76) rfl
theorem mi13_76 : (Cond.fieldLink RX13 280 "KnotHouseModel" "trail" "[I") ∈ wi13 := List.mem_of_getElem? (i := 77) rfl
theorem mi13_77 : (Cond.fieldLink RX13 283 "KnotHouseModel" "ofPart" "[Z") ∈ wi13 := List.mem_of_getElem? (i := 78) rfl
theorem mi13_78 : (Cond.fieldLink RX13 286 "KnotHouseModel" "loopOf" "[B") ∈ wi13 := List.mem_of_getElem? (i := 79) rfl
theorem mi13_79 : (Cond.fieldLink RX13 289 "KnotHouseModel" "loopCount" "[I") ∈ wi13 := List.mem_of_getElem? (i := 80) rfl
theorem mi13_80 : (Cond.fieldLink RX13 292 "KnotHouseModel" "base" "[I") ∈ wi13 := List.mem_of_getElem? (i := 81) rfl
theorem mi13_81 : (Cond.fieldLink RX13 295 "KnotHouseModel" "place" "[I") ∈ wi13 := List.mem_of_getElem? (i := 82) rfl
theorem mi13_82 : (Cond.fieldLink RX13 298 "KnotHouseModel" "many" "[I") ∈ wi13 := List.mem_of_getElem? (i := 83) rfl
theorem mi13_83 : (Cond.fieldLink RX13 301 "KnotHouseModel" "steps" "[I") ∈ wi13 := List.mem_of_getElem? (i := 84) rfl
theorem mi13_84 : (Cond.fieldLink RX13 304 "KnotHouseModel" "ranks" "[I") ∈ wi13 := List.mem_of_getElem? (i := 85) rfl
theorem mi13_85 : (Cond.fieldLink RX13 307 "KnotHouseModel" "work" "[I") ∈ wi13 := List.mem_of_getElem? (i := 86) rfl
theorem mi13_86 : (Cond.fieldLink RX13 310 "KnotHouseModel" "rowBegin" "[I") ∈ wi13 := List.mem_of_getElem? (i := 87) rfl
theorem mi13_87 : (Cond.fieldLink RX13 313 "KnotHouseModel" "rowEnd" "[I") ∈ wi13 := List.mem_of_getElem? (i := 88) rfl
theorem mi13_88 : (Cond.fieldLink RX13 317 "KnotHouseModel" "pool" "[I") ∈ wi13 := List.mem_of_getElem? (i := 89) rfl
theorem mi13_89 : (Cond.fieldLink RX13 320 "KnotHouseModel" "words" "[I") ∈ wi13 := List.mem_of_getElem? (i := 90) rfl
theorem mi13_90 : (Cond.fieldLink RX13 323 "KnotHouseModel" "lengths" "[I") ∈ wi13 := List.mem_of_getElem? (i := 91) rfl
theorem mi13_91 : (Cond.fieldLink RX13 326 "KnotHouseModel" "strands" "[I") ∈ wi13 := List.mem_of_getElem? (i := 92) rfl
theorem mi13_92 : (Cond.fieldLink RX13 329 "KnotHouseModel" "simples" "[I") ∈ wi13 := List.mem_of_getElem? (i := 93) rfl
theorem mi13_93 : (Cond.fieldLink RX13 332 "KnotHouseModel" "ends" "[I") ∈ wi13 := List.mem_of_getElem? (i := 94) rfl
theorem mi13_94 : (Cond.fieldLink RX13 335 "KnotHouseModel" "letters" "[I") ∈ wi13 := List.mem_of_getElem? (i := 95) rfl
theorem mi13_95 : (Cond.fieldLink RX13 338 "KnotHouseModel" "sizes" "[I") ∈ wi13 := List.mem_of_getElem? (i := 96) rfl
theorem mi13_96 : (Cond.fieldLink RX13 341 "KnotHouseModel" "more" "[I") ∈ wi13 := List.mem_of_getElem? (i := 97) rfl
theorem mi13_97 : (Cond.fieldLink RX13 344 "KnotHouseModel" "ahead" "[I") ∈ wi13 := List.mem_of_getElem? (i := 98) rfl
theorem mi13_98 : (Cond.fieldLink RX13 347 "KnotHouseModel" "over2" "[I") ∈ wi13 := List.mem_of_getElem? (i := 99) rfl
theorem mi13_99 : (Cond.fieldLink RX13 350 "KnotHouseModel" "passes" "[I") ∈ wi13 := List.mem_of_getElem? (i := 100) rfl
theorem mi13_100 : (Cond.fieldLink RX13 353 "KnotHouseModel" "leaves" "[I") ∈ wi13 := List.mem_of_getElem? (i := 101) rfl
theorem mi13_101 : (Cond.fieldLink RX13 356 "KnotHouseModel" "endRow" "[I") ∈ wi13 := List.mem_of_getElem? (i := 102) rfl
theorem mi13_102 : (Cond.fieldLink RX13 359 "KnotHouseModel" "signed" "[I") ∈ wi13 := List.mem_of_getElem? (i := 103) rfl
theorem mi13_103 : (Cond.fieldLink RX13 362 "KnotHouseModel" "word" "[I") ∈ wi13 := List.mem_of_getElem? (i := 104) rfl
theorem mi13_104 : (Cond.fieldLink RX13 365 "KnotHouseModel" "quotient" "[I") ∈ wi13 := List.mem_of_getElem? (i := 105) rfl
theorem mi13_105 : (Cond.fieldLink RX13 368 "KnotHouseModel" "formS" "[I") ∈ wi13 := List.mem_of_getElem? (i := 106) rfl
theorem mi13_106 : (Cond.fieldLink RX13 371 "KnotHouseModel" "forms" "[I") ∈ wi13 := List.mem_of_getElem? (i := 107) rfl
theorem mi13_107 : (Cond.fieldLink RX13 374 "KnotHouseModel" "one" "[I") ∈ wi13 := List.mem_of_getElem? (i := 108) rfl
theorem mi13_108 : (Cond.fieldLink RX13 377 "KnotHouseModel" "two" "[I") ∈ wi13 := List.mem_of_getElem? (i := 109) rfl
theorem mi13_109 : (Cond.fieldLink RX13 380 "KnotHouseModel" "leads" "[I") ∈ wi13 := List.mem_of_getElem? (i := 110) rfl
theorem mi13_110 : (Cond.fieldLink RX13 383 "KnotHouseModel" "closed" "[Z") ∈ wi13 := List.mem_of_getElem? (i := 111) rfl
theorem gi13_X12 : GoodIn wi13 (wsX12_init) := goodIn_sub (fun _ h => List.mem_cons_of_mem _ (List.mem_append_right _ (List.mem_append_right _ (List.mem_append_right _ (List.mem_append_left _ h))))) (by decide +kernel)
theorem gi13_S : GoodIn wi13 (wsV RX13 386 RX13 yX13_makeSimples wm_X13_makeSimples_a) := goodIn_sub (fun _ h => List.mem_cons_of_mem _ (List.mem_append_right _ (List.mem_append_right _ (List.mem_append_right _ (List.mem_append_right _ (List.mem_append_left _ h)))))) (by decide +kernel)
theorem gi13_P : GoodIn wi13 (wsV RX13 389 RX13 yX13_makePermutations wm_X13_makePermutations_a) := goodIn_sub (fun _ h => List.mem_cons_of_mem _ (List.mem_append_right _ (List.mem_append_right _ (List.mem_append_right _ (List.mem_append_right _ (List.mem_append_right _ h)))))) (by decide +kernel)
def fT13 : Nat → Int32 := upd (upd (upd (upd (upd (fun _ => 0) (0 : Int32).toNatClampNeg 1) (1 : Int32).toNatClampNeg 1) (2 : Int32).toNatClampNeg 2) (3 : Int32).toNatClampNeg 6) (4 : Int32).toNatClampNeg 24
def Z13 : ow_MS := (fun _ => 0, fun g => if g = 73 then fT13 else fun _ => 0, fun _ _ => 0)
def xl13 : List Nat := [0, 2, 4, 5, 6, 7, 8, 9, 10, 12, 1000, 1003, 1004, 1005, 1006, 1007, 1008, 1009, 1010, 1011, 1012, 1014, 1015, 2000, 2003, 2004, 2005, 2006, 2007, 2008, 2009, 2010, 2011, 2012, 2014, 2015, 3000, 3003, 3004, 3005, 3006, 3007, 3008, 3009, 3010, 3011, 3012, 3014, 3015, 16, 17, 18, 19, 20, 21, 23, 25, 27, 28, 31, 32, 33, 34, 35, 37, 38, 39, 40, 41, 42, 43, 44, 45, 47, 48, 49, 50, 51, 52, 53, 54, 55, 56, 57, 59, 60, 61, 62, 63, 64, 65, 66, 68, 69, 72, 73, 74, 75, 76, 77, 78, 80, 81, 82, 83, 84, 85, 86, 87, 89, 90, 91, 92, 94, 95, 96, 97, 98, 99, 100, 101, 102, 103, 104, 105, 106, 107, 108, 110, 114, 115, 117, 118, 119, 120, 4000, 4003, 4004, 4005, 4006, 4007, 4008, 4009, 4010, 4011, 4012, 4014, 4015, 5000, 5003, 5004, 5005, 5006, 5007, 5008, 5009, 5010, 5011, 5012, 5014, 5015, 6000, 6003, 6004, 6005, 6006, 6007, 6008, 6009, 6010, 6011, 6012, 6014, 6015, 7000, 7003, 7004, 7005, 7006, 7007, 7008, 7009, 7010, 7011, 7012, 7014, 7015, 8000, 8003, 8004, 8005, 8006, 8007, 8008, 8009, 8010, 8011, 8012, 8014, 8015, 9000, 9003, 9004, 9005, 9006, 9007, 9008, 9009, 9010, 9011, 9012, 9014, 9015, 10000, 10003, 10004, 10005, 10006, 10007, 10008, 10009, 10010, 10011, 10012, 10014, 10015, 11000, 11003, 11004, 11005, 11006, 11007, 11008, 11009, 11010, 11011, 11012, 11014, 11015, 12000, 12003, 12004, 12005, 12006, 12007, 12008, 12009, 12010, 12011, 12012, 12014, 12015, 13000, 13003, 13004, 13005, 13006, 13007, 13008, 13009, 13010, 13011, 13012, 13014, 13015, 14000, 14003, 14004, 14005, 14006, 14007, 14008, 14009, 14010, 14011, 14012, 14014, 14015, 15000, 15003, 15004, 15005, 15006, 15007, 15008, 15009, 15010, 15011, 15012, 15014, 15015, 16000, 16003, 16004, 16005, 16006, 16007, 16008, 16009, 16010, 16011, 16012, 16014, 16015, 17000, 17003, 17004, 17005, 17006, 17007, 17008, 17009, 17010, 17011, 17012, 17014, 17015, 18000, 18003, 18004, 18005, 18006, 18007, 18008, 18009, 18010, 18011, 18012, 18014, 18015]
theorem nd13_ : xl13.Nodup := by decide +kernel
def xt13_0 : ow_Tb := pT mX_f_a 0 (9, 16, pfs mX_o13_a 0) (xl13.take 1)
def xt13_1 : ow_Tb := pT mX_f_a 0 (9, 16, pfs mX_o13_a 2) (xl13.take 2)
def xt13_2 : ow_Tb := pT mX_f_a 0 (9, 16, pfs mX_o13_a 4) (xl13.take 3)
def xt13_3 : ow_Tb := pT mX_f_a 0 (9, 16, pfs mX_o13_a 5) (xl13.take 4)
def xt13_4 : ow_Tb := pT mX_f_a 0 (9, 16, pfs mX_o13_a 6) (xl13.take 5)
def xt13_5 : ow_Tb := pT mX_f_a 0 (9, 16, pfs mX_o13_a 7) (xl13.take 6)
def xt13_6 : ow_Tb := pT mX_f_a 0 (9, 16, pfs mX_o13_a 8) (xl13.take 7)
def xt13_7 : ow_Tb := pT mX_f_a 0 (9, 16, pfs mX_o13_a 9) (xl13.take 8)
def xt13_8 : ow_Tb := pT mX_f_a 0 (9, 16, pfs mX_o13_a 10) (xl13.take 9)
def xt13_9 : ow_Tb := pT mX_f_a 0 (9, 16, pfs mX_o13_a 12) (xl13.take 10)
def xt13_10 : ow_Tb := pT mX_f_a 0 (9, 16, pfs mX_o13_a 13) (xl13.take 23)
def xt13_11 : ow_Tb := pT mX_f_a 0 (9, 16, pfs mX_o13_a 14) (xl13.take 36)
def xt13_12 : ow_Tb := pT mX_f_a 0 (9, 16, pfs mX_o13_a 15) (xl13.take 49)
def xt13_13 : ow_Tb := pT mX_f_a 0 (9, 16, pfs mX_o13_a 16) (xl13.take 50)
def xt13_14 : ow_Tb := pT mX_f_a 0 (9, 16, pfs mX_o13_a 17) (xl13.take 51)
def xt13_15 : ow_Tb := pT mX_f_a 0 (9, 16, pfs mX_o13_a 18) (xl13.take 52)
def xt13_16 : ow_Tb := pT mX_f_a 0 (9, 16, pfs mX_o13_a 19) (xl13.take 53)
def xt13_17 : ow_Tb := pT mX_f_a 0 (9, 16, pfs mX_o13_a 20) (xl13.take 54)
def xt13_18 : ow_Tb := pT mX_f_a 0 (9, 16, pfs mX_o13_a 21) (xl13.take 55)
def xt13_19 : ow_Tb := pT mX_f_a 0 (9, 16, pfs mX_o13_a 23) (xl13.take 56)
def xt13_20 : ow_Tb := pT mX_f_a 0 (9, 16, pfs mX_o13_a 25) (xl13.take 57)
def xt13_21 : ow_Tb := pT mX_f_a 0 (9, 16, pfs mX_o13_a 27) (xl13.take 58)
def xt13_22 : ow_Tb := pT mX_f_a 0 (9, 16, pfs mX_o13_a 28) (xl13.take 59)
def xt13_23 : ow_Tb := pT mX_f_a 0 (9, 16, pfs mX_o13_a 31) (xl13.take 60)
def xt13_24 : ow_Tb := pT mX_f_a 0 (9, 16, pfs mX_o13_a 32) (xl13.take 61)
def xt13_25 : ow_Tb := pT mX_f_a 0 (9, 16, pfs mX_o13_a 33) (xl13.take 62)
def xt13_26 : ow_Tb := pT mX_f_a 0 (9, 16, pfs mX_o13_a 34) (xl13.take 63)
def xt13_27 : ow_Tb := pT mX_f_a 0 (9, 16, pfs mX_o13_a 35) (xl13.take 64)
def xt13_28 : ow_Tb := pT mX_f_a 0 (9, 16, pfs mX_o13_a 37) (xl13.take 65)
def xt13_29 : ow_Tb := pT mX_f_a 0 (9, 16, pfs mX_o13_a 38) (xl13.take 66)
def xt13_30 : ow_Tb := pT mX_f_a 0 (9, 16, pfs mX_o13_a 39) (xl13.take 67)
def xt13_31 : ow_Tb := pT mX_f_a 0 (9, 16, pfs mX_o13_a 40) (xl13.take 68)
def xt13_32 : ow_Tb := pT mX_f_a 0 (9, 16, pfs mX_o13_a 41) (xl13.take 69)
def xt13_33 : ow_Tb := pT mX_f_a 0 (9, 16, pfs mX_o13_a 42) (xl13.take 70)
def xt13_34 : ow_Tb := pT mX_f_a 0 (9, 16, pfs mX_o13_a 43) (xl13.take 71)
def xt13_35 : ow_Tb := pT mX_f_a 0 (9, 16, pfs mX_o13_a 44) (xl13.take 72)
def xt13_36 : ow_Tb := pT mX_f_a 0 (9, 16, pfs mX_o13_a 45) (xl13.take 73)
def xt13_37 : ow_Tb := pT mX_f_a 0 (9, 16, pfs mX_o13_a 47) (xl13.take 74)
def xt13_38 : ow_Tb := pT mX_f_a 0 (9, 16, pfs mX_o13_a 48) (xl13.take 75)
def xt13_39 : ow_Tb := pT mX_f_a 0 (9, 16, pfs mX_o13_a 49) (xl13.take 76)
def xt13_40 : ow_Tb := pT mX_f_a 0 (9, 16, pfs mX_o13_a 50) (xl13.take 77)
def xt13_41 : ow_Tb := pT mX_f_a 0 (9, 16, pfs mX_o13_a 51) (xl13.take 78)
def xt13_42 : ow_Tb := pT mX_f_a 0 (9, 16, pfs mX_o13_a 52) (xl13.take 79)
def xt13_43 : ow_Tb := pT mX_f_a 0 (9, 16, pfs mX_o13_a 53) (xl13.take 80)
def xt13_44 : ow_Tb := pT mX_f_a 0 (9, 16, pfs mX_o13_a 54) (xl13.take 81)
def xt13_45 : ow_Tb := pT mX_f_a 0 (9, 16, pfs mX_o13_a 55) (xl13.take 82)
def xt13_46 : ow_Tb := pT mX_f_a 0 (9, 16, pfs mX_o13_a 56) (xl13.take 83)
def xt13_47 : ow_Tb := pT mX_f_a 0 (9, 16, pfs mX_o13_a 57) (xl13.take 84)
def xt13_48 : ow_Tb := pT mX_f_a 0 (9, 16, pfs mX_o13_a 59) (xl13.take 85)
def xt13_49 : ow_Tb := pT mX_f_a 0 (9, 16, pfs mX_o13_a 60) (xl13.take 86)
def xt13_50 : ow_Tb := pT mX_f_a 0 (9, 16, pfs mX_o13_a 61) (xl13.take 87)
def xt13_51 : ow_Tb := pT mX_f_a 0 (9, 16, pfs mX_o13_a 62) (xl13.take 88)
def xt13_52 : ow_Tb := pT mX_f_a 0 (9, 16, pfs mX_o13_a 63) (xl13.take 89)
def xt13_53 : ow_Tb := pT mX_f_a 0 (9, 16, pfs mX_o13_a 64) (xl13.take 90)
def xt13_54 : ow_Tb := pT mX_f_a 0 (9, 16, pfs mX_o13_a 65) (xl13.take 91)
def xt13_55 : ow_Tb := pT mX_f_a 0 (9, 16, pfs mX_o13_a 66) (xl13.take 92)
def xt13_56 : ow_Tb := pT mX_f_a 0 (9, 16, pfs mX_o13_a 68) (xl13.take 93)
def xt13_57 : ow_Tb := pT mX_f_a 0 (9, 16, pfs mX_o13_a 69) (xl13.take 94)
def xt13_58 : ow_Tb := pT mX_f_a 0 (9, 16, pfs mX_o13_a 72) (xl13.take 95)
def xt13_59 : ow_Tb := pT mX_f_a 0 (9, 16, pfs mX_o13_a 73) (xl13.take 96)
def xt13_60 : ow_Tb := pT mX_f_a 0 (9, 16, pfs mX_o13_a 74) (xl13.take 97)
def xt13_61 : ow_Tb := pT mX_f_a 0 (9, 16, pfs mX_o13_a 75) (xl13.take 98)
def xt13_62 : ow_Tb := pT mX_f_a 0 (9, 16, pfs mX_o13_a 76) (xl13.take 99)
def xt13_63 : ow_Tb := pT mX_f_a 0 (9, 16, pfs mX_o13_a 77) (xl13.take 100)
def xt13_64 : ow_Tb := pT mX_f_a 0 (9, 16, pfs mX_o13_a 78) (xl13.take 101)
def xt13_65 : ow_Tb := pT mX_f_a 0 (9, 16, pfs mX_o13_a 80) (xl13.take 102)
def xt13_66 : ow_Tb := pT mX_f_a 0 (9, 16, pfs mX_o13_a 81) (xl13.take 103)
def xt13_67 : ow_Tb := pT mX_f_a 0 (9, 16, pfs mX_o13_a 82) (xl13.take 104)
def xt13_68 : ow_Tb := pT mX_f_a 0 (9, 16, pfs mX_o13_a 83) (xl13.take 105)
def xt13_69 : ow_Tb := pT mX_f_a 0 (9, 16, pfs mX_o13_a 84) (xl13.take 106)
def xt13_70 : ow_Tb := pT mX_f_a 0 (9, 16, pfs mX_o13_a 85) (xl13.take 107)
def xt13_71 : ow_Tb := pT mX_f_a 0 (9, 16, pfs mX_o13_a 86) (xl13.take 108)
def xt13_72 : ow_Tb := pT mX_f_a 0 (9, 16, pfs mX_o13_a 87) (xl13.take 109)
def xt13_73 : ow_Tb := pT mX_f_a 0 (9, 16, pfs mX_o13_a 89) (xl13.take 110)
def xt13_74 : ow_Tb := pT mX_f_a 0 (9, 16, pfs mX_o13_a 90) (xl13.take 111)
def xt13_75 : ow_Tb := pT mX_f_a 0 (9, 16, pfs mX_o13_a 91) (xl13.take 112)
def xt13_76 : ow_Tb := pT mX_f_a 0 (9, 16, pfs mX_o13_a 92) (xl13.take 113)
def xt13_77 : ow_Tb := pT mX_f_a 0 (9, 16, pfs mX_o13_a 94) (xl13.take 114)
def xt13_78 : ow_Tb := pT mX_f_a 0 (9, 16, pfs mX_o13_a 95) (xl13.take 115)
def xt13_79 : ow_Tb := pT mX_f_a 0 (9, 16, pfs mX_o13_a 96) (xl13.take 116)
def xt13_80 : ow_Tb := pT mX_f_a 0 (9, 16, pfs mX_o13_a 97) (xl13.take 117)
def xt13_81 : ow_Tb := pT mX_f_a 0 (9, 16, pfs mX_o13_a 98) (xl13.take 118)
def xt13_82 : ow_Tb := pT mX_f_a 0 (9, 16, pfs mX_o13_a 99) (xl13.take 119)
def xt13_83 : ow_Tb := pT mX_f_a 0 (9, 16, pfs mX_o13_a 100) (xl13.take 120)
def xt13_84 : ow_Tb := pT mX_f_a 0 (9, 16, pfs mX_o13_a 101) (xl13.take 121)
def xt13_85 : ow_Tb := pT mX_f_a 0 (9, 16, pfs mX_o13_a 102) (xl13.take 122)
def xt13_86 : ow_Tb := pT mX_f_a 0 (9, 16, pfs mX_o13_a 103) (xl13.take 123)
def xt13_87 : ow_Tb := pT mX_f_a 0 (9, 16, pfs mX_o13_a 104) (xl13.take 124)
def xt13_88 : ow_Tb := pT mX_f_a 0 (9, 16, pfs mX_o13_a 105) (xl13.take 125)
def xt13_89 : ow_Tb := pT mX_f_a 0 (9, 16, pfs mX_o13_a 106) (xl13.take 126)
def xt13_90 : ow_Tb := pT mX_f_a 0 (9, 16, pfs mX_o13_a 107) (xl13.take 127)
def xt13_91 : ow_Tb := pT mX_f_a 0 (9, 16, pfs mX_o13_a 108) (xl13.take 128)
def xt13_92 : ow_Tb := pT mX_f_a 0 (9, 16, pfs mX_o13_a 110) (xl13.take 129)
def xt13_93 : ow_Tb := pT mX_f_a 0 (9, 16, pfs mX_o13_a 114) (xl13.take 130)
def xt13_94 : ow_Tb := pT mX_f_a 0 (9, 16, pfs mX_o13_a 115) (xl13.take 131)
def xt13_95 : ow_Tb := pT mX_f_a 0 (9, 16, pfs mX_o13_a 117) (xl13.take 132)
def xt13_96 : ow_Tb := pT mX_f_a 0 (9, 16, pfs mX_o13_a 118) (xl13.take 133)
def xt13_97 : ow_Tb := pT mX_f_a 0 (9, 16, pfs mX_o13_a 119) (xl13.take 134)
def xt13_98 : ow_Tb := pT mX_f_a 0 (9, 16, pfs mX_o13_a 120) (xl13.take 135)
theorem ck13_0 : (ax_chk xt13_0 xt13_1 0 1 2 [2] && ok_row xt13_0) = true := ax_fast nd13_ (by decide +kernel)
theorem ck13_1 : (ax_chk xt13_1 xt13_2 0 3 4 [4] && ok_row xt13_1) = true := ax_fast nd13_ (by decide +kernel)
theorem ck13_2 : (ax_chk xt13_2 xt13_3 0 4 5 [5] && ok_row xt13_2) = true := ax_fast nd13_ (by decide +kernel)
theorem ck13_3 : (ax_chk xt13_3 xt13_4 0 5 6 [6] && ok_row xt13_3) = true := ax_fast nd13_ (by decide +kernel)
theorem ck13_4 : (ax_chk xt13_4 xt13_5 0 6 7 [7] && ok_row xt13_4) = true := ax_fast nd13_ (by decide +kernel)
theorem ck13_5 : (ax_chk xt13_5 xt13_6 0 7 8 [8] && ok_row xt13_5) = true := ax_fast nd13_ (by decide +kernel)
theorem ck13_6 : (ax_chk xt13_6 xt13_7 0 8 9 [9] && ok_row xt13_6) = true := ax_fast nd13_ (by decide +kernel)
theorem ck13_7 : (ax_chk xt13_7 xt13_8 0 9 10 [10] && ok_row xt13_7) = true := ax_fast nd13_ (by decide +kernel)
theorem ck13_8 : (ax_chk xt13_8 xt13_9 0 11 12 [12] && ok_row xt13_8) = true := ax_fast nd13_ (by decide +kernel)
theorem ck13_9 : (ax_chk xt13_9 xt13_10 0 12 1000 [1000, 1003, 1004, 1005, 1006, 1007, 1008, 1009, 1010, 1011, 1012, 1014, 1015] && ok_row xt13_9) = true := ax_fast nd13_ (by decide +kernel)
theorem ck13_10 : (ax_chk xt13_10 xt13_11 0 13 2000 [2000, 2003, 2004, 2005, 2006, 2007, 2008, 2009, 2010, 2011, 2012, 2014, 2015] && ok_row xt13_10) = true := ax_fast nd13_ (by decide +kernel)
theorem ck13_11 : (ax_chk xt13_11 xt13_12 0 14 3000 [3000, 3003, 3004, 3005, 3006, 3007, 3008, 3009, 3010, 3011, 3012, 3014, 3015] && ok_row xt13_11) = true := ax_fast nd13_ (by decide +kernel)
theorem ck13_12 : (ax_chk xt13_12 xt13_13 0 15 16 [16] && ok_row xt13_12) = true := ax_fast nd13_ (by decide +kernel)
theorem ck13_13 : (ax_chk xt13_13 xt13_14 0 16 17 [17] && ok_row xt13_13) = true := ax_fast nd13_ (by decide +kernel)
theorem ck13_14 : (ax_chk xt13_14 xt13_15 0 17 18 [18] && ok_row xt13_14) = true := ax_fast nd13_ (by decide +kernel)
theorem ck13_15 : (ax_chk xt13_15 xt13_16 0 18 19 [19] && ok_row xt13_15) = true := ax_fast nd13_ (by decide +kernel)
theorem ck13_16 : (ax_chk xt13_16 xt13_17 0 19 20 [20] && ok_row xt13_16) = true := ax_fast nd13_ (by decide +kernel)
theorem ck13_17 : (ax_chk xt13_17 xt13_18 0 20 21 [21] && ok_row xt13_17) = true := ax_fast nd13_ (by decide +kernel)
theorem ck13_18 : (ax_chk xt13_18 xt13_19 0 22 23 [23] && ok_row xt13_18) = true := ax_fast nd13_ (by decide +kernel)
theorem ck13_19 : (ax_chk xt13_19 xt13_20 0 24 25 [25] && ok_row xt13_19) = true := ax_fast nd13_ (by decide +kernel)
theorem ck13_20 : (ax_chk xt13_20 xt13_21 0 26 27 [27] && ok_row xt13_20) = true := ax_fast nd13_ (by decide +kernel)
theorem ck13_21 : (ax_chk xt13_21 xt13_22 0 27 28 [28] && ok_row xt13_21) = true := ax_fast nd13_ (by decide +kernel)
theorem ck13_22 : (ax_chk xt13_22 xt13_23 0 30 31 [31] && ok_row xt13_22) = true := ax_fast nd13_ (by decide +kernel)
theorem ck13_23 : (ax_chk xt13_23 xt13_24 0 31 32 [32] && ok_row xt13_23) = true := ax_fast nd13_ (by decide +kernel)
theorem ck13_24 : (ax_chk xt13_24 xt13_25 0 32 33 [33] && ok_row xt13_24) = true := ax_fast nd13_ (by decide +kernel)
theorem ck13_25 : (ax_chk xt13_25 xt13_26 0 33 34 [34] && ok_row xt13_25) = true := ax_fast nd13_ (by decide +kernel)
theorem ck13_26 : (ax_chk xt13_26 xt13_27 0 34 35 [35] && ok_row xt13_26) = true := ax_fast nd13_ (by decide +kernel)
theorem ck13_27 : (ax_chk xt13_27 xt13_28 0 36 37 [37] && ok_row xt13_27) = true := ax_fast nd13_ (by decide +kernel)
theorem ck13_28 : (ax_chk xt13_28 xt13_29 0 37 38 [38] && ok_row xt13_28) = true := ax_fast nd13_ (by decide +kernel)
theorem ck13_29 : (ax_chk xt13_29 xt13_30 0 38 39 [39] && ok_row xt13_29) = true := ax_fast nd13_ (by decide +kernel)
theorem ck13_30 : (ax_chk xt13_30 xt13_31 0 39 40 [40] && ok_row xt13_30) = true := ax_fast nd13_ (by decide +kernel)
theorem ck13_31 : (ax_chk xt13_31 xt13_32 0 40 41 [41] && ok_row xt13_31) = true := ax_fast nd13_ (by decide +kernel)
theorem ck13_32 : (ax_chk xt13_32 xt13_33 0 41 42 [42] && ok_row xt13_32) = true := ax_fast nd13_ (by decide +kernel)
theorem ck13_33 : (ax_chk xt13_33 xt13_34 0 42 43 [43] && ok_row xt13_33) = true := ax_fast nd13_ (by decide +kernel)
theorem ck13_34 : (ax_chk xt13_34 xt13_35 0 43 44 [44] && ok_row xt13_34) = true := ax_fast nd13_ (by decide +kernel)
theorem ck13_35 : (ax_chk xt13_35 xt13_36 0 44 45 [45] && ok_row xt13_35) = true := ax_fast nd13_ (by decide +kernel)
theorem ck13_36 : (ax_chk xt13_36 xt13_37 0 46 47 [47] && ok_row xt13_36) = true := ax_fast nd13_ (by decide +kernel)
theorem ck13_37 : (ax_chk xt13_37 xt13_38 0 47 48 [48] && ok_row xt13_37) = true := ax_fast nd13_ (by decide +kernel)
theorem ck13_38 : (ax_chk xt13_38 xt13_39 0 48 49 [49] && ok_row xt13_38) = true := ax_fast nd13_ (by decide +kernel)
theorem ck13_39 : (ax_chk xt13_39 xt13_40 0 49 50 [50] && ok_row xt13_39) = true := ax_fast nd13_ (by decide +kernel)
theorem ck13_40 : (ax_chk xt13_40 xt13_41 0 50 51 [51] && ok_row xt13_40) = true := ax_fast nd13_ (by decide +kernel)
theorem ck13_41 : (ax_chk xt13_41 xt13_42 0 51 52 [52] && ok_row xt13_41) = true := ax_fast nd13_ (by decide +kernel)
theorem ck13_42 : (ax_chk xt13_42 xt13_43 0 52 53 [53] && ok_row xt13_42) = true := ax_fast nd13_ (by decide +kernel)
theorem ck13_43 : (ax_chk xt13_43 xt13_44 0 53 54 [54] && ok_row xt13_43) = true := ax_fast nd13_ (by decide +kernel)
theorem ck13_44 : (ax_chk xt13_44 xt13_45 0 54 55 [55] && ok_row xt13_44) = true := ax_fast nd13_ (by decide +kernel)
theorem ck13_45 : (ax_chk xt13_45 xt13_46 0 55 56 [56] && ok_row xt13_45) = true := ax_fast nd13_ (by decide +kernel)
theorem ck13_46 : (ax_chk xt13_46 xt13_47 0 56 57 [57] && ok_row xt13_46) = true := ax_fast nd13_ (by decide +kernel)
theorem ck13_47 : (ax_chk xt13_47 xt13_48 0 58 59 [59] && ok_row xt13_47) = true := ax_fast nd13_ (by decide +kernel)
theorem ck13_48 : (ax_chk xt13_48 xt13_49 0 59 60 [60] && ok_row xt13_48) = true := ax_fast nd13_ (by decide +kernel)
theorem ck13_49 : (ax_chk xt13_49 xt13_50 0 60 61 [61] && ok_row xt13_49) = true := ax_fast nd13_ (by decide +kernel)
theorem ck13_50 : (ax_chk xt13_50 xt13_51 0 61 62 [62] && ok_row xt13_50) = true := ax_fast nd13_ (by decide +kernel)
theorem ck13_51 : (ax_chk xt13_51 xt13_52 0 62 63 [63] && ok_row xt13_51) = true := ax_fast nd13_ (by decide +kernel)
theorem ck13_52 : (ax_chk xt13_52 xt13_53 0 63 64 [64] && ok_row xt13_52) = true := ax_fast nd13_ (by decide +kernel)
theorem ck13_53 : (ax_chk xt13_53 xt13_54 0 64 65 [65] && ok_row xt13_53) = true := ax_fast nd13_ (by decide +kernel)
theorem ck13_54 : (ax_chk xt13_54 xt13_55 0 65 66 [66] && ok_row xt13_54) = true := ax_fast nd13_ (by decide +kernel)
theorem ck13_55 : (ax_chk xt13_55 xt13_56 0 67 68 [68] && ok_row xt13_55) = true := ax_fast nd13_ (by decide +kernel)
theorem ck13_56 : (ax_chk xt13_56 xt13_57 0 68 69 [69] && ok_row xt13_56) = true := ax_fast nd13_ (by decide +kernel)
theorem ck13_57 : (ax_chk xt13_57 xt13_58 0 71 72 [72] && ok_row xt13_57) = true := ax_fast nd13_ (by decide +kernel)
theorem ck13_58 : (ax_chk xt13_58 xt13_59 0 72 73 [73] && ok_row xt13_58) = true := ax_fast nd13_ (by decide +kernel)
theorem ck13_59 : (ax_chk xt13_59 xt13_60 0 73 74 [74] && ok_row xt13_59) = true := ax_fast nd13_ (by decide +kernel)
theorem ck13_60 : (ax_chk xt13_60 xt13_61 0 74 75 [75] && ok_row xt13_60) = true := ax_fast nd13_ (by decide +kernel)
theorem ck13_61 : (ax_chk xt13_61 xt13_62 0 75 76 [76] && ok_row xt13_61) = true := ax_fast nd13_ (by decide +kernel)
theorem ck13_62 : (ax_chk xt13_62 xt13_63 0 76 77 [77] && ok_row xt13_62) = true := ax_fast nd13_ (by decide +kernel)
theorem ck13_63 : (ax_chk xt13_63 xt13_64 0 77 78 [78] && ok_row xt13_63) = true := ax_fast nd13_ (by decide +kernel)
theorem ck13_64 : (ax_chk xt13_64 xt13_65 0 79 80 [80] && ok_row xt13_64) = true := ax_fast nd13_ (by decide +kernel)
theorem ck13_65 : (ax_chk xt13_65 xt13_66 0 80 81 [81] && ok_row xt13_65) = true := ax_fast nd13_ (by decide +kernel)
theorem ck13_66 : (ax_chk xt13_66 xt13_67 0 81 82 [82] && ok_row xt13_66) = true := ax_fast nd13_ (by decide +kernel)
theorem ck13_67 : (ax_chk xt13_67 xt13_68 0 82 83 [83] && ok_row xt13_67) = true := ax_fast nd13_ (by decide +kernel)
theorem ck13_68 : (ax_chk xt13_68 xt13_69 0 83 84 [84] && ok_row xt13_68) = true := ax_fast nd13_ (by decide +kernel)
theorem ck13_69 : (ax_chk xt13_69 xt13_70 0 84 85 [85] && ok_row xt13_69) = true := ax_fast nd13_ (by decide +kernel)
theorem ck13_70 : (ax_chk xt13_70 xt13_71 0 85 86 [86] && ok_row xt13_70) = true := ax_fast nd13_ (by decide +kernel)
theorem ck13_71 : (ax_chk xt13_71 xt13_72 0 86 87 [87] && ok_row xt13_71) = true := ax_fast nd13_ (by decide +kernel)
theorem ck13_72 : (ax_chk xt13_72 xt13_73 0 88 89 [89] && ok_row xt13_72) = true := ax_fast nd13_ (by decide +kernel)
theorem ck13_73 : (ax_chk xt13_73 xt13_74 0 89 90 [90] && ok_row xt13_73) = true := ax_fast nd13_ (by decide +kernel)
theorem ck13_74 : (ax_chk xt13_74 xt13_75 0 90 91 [91] && ok_row xt13_74) = true := ax_fast nd13_ (by decide +kernel)
theorem ck13_75 : (ax_chk xt13_75 xt13_76 0 91 92 [92] && ok_row xt13_75) = true := ax_fast nd13_ (by decide +kernel)
theorem ck13_76 : (ax_chk xt13_76 xt13_77 0 93 94 [94] && ok_row xt13_76) = true := ax_fast nd13_ (by decide +kernel)
theorem ck13_77 : (ax_chk xt13_77 xt13_78 0 94 95 [95] && ok_row xt13_77) = true := ax_fast nd13_ (by decide +kernel)
theorem ck13_78 : (ax_chk xt13_78 xt13_79 0 95 96 [96] && ok_row xt13_78) = true := ax_fast nd13_ (by decide +kernel)
theorem ck13_79 : (ax_chk xt13_79 xt13_80 0 96 97 [97] && ok_row xt13_79) = true := ax_fast nd13_ (by decide +kernel)
theorem ck13_80 : (ax_chk xt13_80 xt13_81 0 97 98 [98] && ok_row xt13_80) = true := ax_fast nd13_ (by decide +kernel)
theorem ck13_81 : (ax_chk xt13_81 xt13_82 0 98 99 [99] && ok_row xt13_81) = true := ax_fast nd13_ (by decide +kernel)
theorem ck13_82 : (ax_chk xt13_82 xt13_83 0 99 100 [100] && ok_row xt13_82) = true := ax_fast nd13_ (by decide +kernel)
theorem ck13_83 : (ax_chk xt13_83 xt13_84 0 100 101 [101] && ok_row xt13_83) = true := ax_fast nd13_ (by decide +kernel)
theorem ck13_84 : (ax_chk xt13_84 xt13_85 0 101 102 [102] && ok_row xt13_84) = true := ax_fast nd13_ (by decide +kernel)
theorem ck13_85 : (ax_chk xt13_85 xt13_86 0 102 103 [103] && ok_row xt13_85) = true := ax_fast nd13_ (by decide +kernel)
theorem ck13_86 : (ax_chk xt13_86 xt13_87 0 103 104 [104] && ok_row xt13_86) = true := ax_fast nd13_ (by decide +kernel)
theorem ck13_87 : (ax_chk xt13_87 xt13_88 0 104 105 [105] && ok_row xt13_87) = true := ax_fast nd13_ (by decide +kernel)
theorem ck13_88 : (ax_chk xt13_88 xt13_89 0 105 106 [106] && ok_row xt13_88) = true := ax_fast nd13_ (by decide +kernel)
theorem ck13_89 : (ax_chk xt13_89 xt13_90 0 106 107 [107] && ok_row xt13_89) = true := ax_fast nd13_ (by decide +kernel)
theorem ck13_90 : (ax_chk xt13_90 xt13_91 0 107 108 [108] && ok_row xt13_90) = true := ax_fast nd13_ (by decide +kernel)
theorem ck13_91 : (ax_chk xt13_91 xt13_92 0 109 110 [110] && ok_row xt13_91) = true := ax_fast nd13_ (by decide +kernel)
theorem ck13_92 : (ax_chk xt13_92 xt13_93 0 113 114 [114] && ok_row xt13_92) = true := ax_fast nd13_ (by decide +kernel)
theorem ck13_93 : (ax_chk xt13_93 xt13_94 0 114 115 [115] && ok_row xt13_93) = true := ax_fast nd13_ (by decide +kernel)
theorem ck13_94 : (ax_chk xt13_94 xt13_95 0 116 117 [117] && ok_row xt13_94) = true := ax_fast nd13_ (by decide +kernel)
theorem ck13_95 : (ax_chk xt13_95 xt13_96 0 117 118 [118] && ok_row xt13_95) = true := ax_fast nd13_ (by decide +kernel)
theorem ck13_96 : (ax_chk xt13_96 xt13_97 0 118 119 [119] && ok_row xt13_96) = true := ax_fast nd13_ (by decide +kernel)
theorem ck13_97 : (ax_chk xt13_97 xt13_98 0 119 120 [120] && ok_row xt13_97) = true := ax_fast nd13_ (by decide +kernel)
def xv13_0 : ow_Tb := pT mX_f_a 40 (4, 15, []) (xl13.take 135)
def xv13_1 : ow_Tb := pT mX_f_a 40 (4, 15, [(1, 4000)]) (xl13.take 148)
def xv13_2 : ow_Tb := pT mX_f_a 40 (4, 15, [(1, 4000), (1, 5000)]) (xl13.take 161)
def xv13_3 : ow_Tb := pT mX_f_a 40 (4, 15, [(1, 4000), (1, 5000), (1, 6000)]) (xl13.take 174)
def xv13_4 : ow_Tb := pT mX_f_a 40 (4, 15, [(1, 4000), (1, 5000), (1, 6000), (1, 7000)]) (xl13.take 187)
def xv13_5 : ow_Tb := pT mX_f_a 40 (4, 15, [(1, 4000), (1, 5000), (1, 6000), (1, 7000), (1, 8000)]) (xl13.take 200)
def xv13_6 : ow_Tb := pT mX_f_a 40 (4, 15, [(1, 4000), (1, 5000), (1, 6000), (1, 7000), (1, 8000), (1, 9000)]) (xl13.take 213)
def xv13_7 : ow_Tb := pT mX_f_a 40 (4, 15, [(1, 4000), (1, 5000), (1, 6000), (1, 7000), (1, 8000), (1, 9000), (1, 10000)]) (xl13.take 226)
def xv13_8 : ow_Tb := pT mX_f_a 40 (4, 15, [(1, 4000), (1, 5000), (1, 6000), (1, 7000), (1, 8000), (1, 9000), (1, 10000), (1, 11000)]) (xl13.take 239)
def xv13_9 : ow_Tb := pT mX_f_a 40 (4, 15, [(1, 4000), (1, 5000), (1, 6000), (1, 7000), (1, 8000), (1, 9000), (1, 10000), (1, 11000), (1, 12000)]) (xl13.take 252)
def xv13_10 : ow_Tb := pT mX_f_a 40 (4, 15, [(1, 4000), (1, 5000), (1, 6000), (1, 7000), (1, 8000), (1, 9000), (1, 10000), (1, 11000), (1, 12000), (1, 13000)]) (xl13.take 265)
def xv13_11 : ow_Tb := pT mX_f_a 40 (4, 15, [(1, 4000), (1, 5000), (1, 6000), (1, 7000), (1, 8000), (1, 9000), (1, 10000), (1, 11000), (1, 12000), (1, 13000), (1, 14000)]) (xl13.take 278)
def xv13_12 : ow_Tb := pT mX_f_a 40 (4, 15, [(1, 4000), (1, 5000), (1, 6000), (1, 7000), (1, 8000), (1, 9000), (1, 10000), (1, 11000), (1, 12000), (1, 13000), (1, 14000), (1, 15000)]) (xl13.take 291)
def xv13_13 : ow_Tb := pT mX_f_a 40 (4, 15, [(1, 4000), (1, 5000), (1, 6000), (1, 7000), (1, 8000), (1, 9000), (1, 10000), (1, 11000), (1, 12000), (1, 13000), (1, 14000), (1, 15000), (1, 16000)]) (xl13.take 304)
def xv13_14 : ow_Tb := pT mX_f_a 40 (4, 15, [(1, 4000), (1, 5000), (1, 6000), (1, 7000), (1, 8000), (1, 9000), (1, 10000), (1, 11000), (1, 12000), (1, 13000), (1, 14000), (1, 15000), (1, 16000), (1, 17000)]) (xl13.take 317)
def xv13_15 : ow_Tb := pT mX_f_a 40 (4, 15, [(1, 4000), (1, 5000), (1, 6000), (1, 7000), (1, 8000), (1, 9000), (1, 10000), (1, 11000), (1, 12000), (1, 13000), (1, 14000), (1, 15000), (1, 16000), (1, 17000), (1, 18000)]) (xl13.take 330)
theorem cv13_0 : (ay_chk xv13_0 xv13_1 40 4000 [4000, 4003, 4004, 4005, 4006, 4007, 4008, 4009, 4010, 4011, 4012, 4014, 4015] && ok_row xv13_0) = true := ay_fast nd13_ (by decide +kernel)
theorem cv13_1 : (ay_chk xv13_1 xv13_2 40 5000 [5000, 5003, 5004, 5005, 5006, 5007, 5008, 5009, 5010, 5011, 5012, 5014, 5015] && ok_row xv13_1) = true := ay_fast nd13_ (by decide +kernel)
theorem cv13_2 : (ay_chk xv13_2 xv13_3 40 6000 [6000, 6003, 6004, 6005, 6006, 6007, 6008, 6009, 6010, 6011, 6012, 6014, 6015] && ok_row xv13_2) = true := ay_fast nd13_ (by decide +kernel)
theorem cv13_3 : (ay_chk xv13_3 xv13_4 40 7000 [7000, 7003, 7004, 7005, 7006, 7007, 7008, 7009, 7010, 7011, 7012, 7014, 7015] && ok_row xv13_3) = true := ay_fast nd13_ (by decide +kernel)
theorem cv13_4 : (ay_chk xv13_4 xv13_5 40 8000 [8000, 8003, 8004, 8005, 8006, 8007, 8008, 8009, 8010, 8011, 8012, 8014, 8015] && ok_row xv13_4) = true := ay_fast nd13_ (by decide +kernel)
theorem cv13_5 : (ay_chk xv13_5 xv13_6 40 9000 [9000, 9003, 9004, 9005, 9006, 9007, 9008, 9009, 9010, 9011, 9012, 9014, 9015] && ok_row xv13_5) = true := ay_fast nd13_ (by decide +kernel)
theorem cv13_6 : (ay_chk xv13_6 xv13_7 40 10000 [10000, 10003, 10004, 10005, 10006, 10007, 10008, 10009, 10010, 10011, 10012, 10014, 10015] && ok_row xv13_6) = true := ay_fast nd13_ (by decide +kernel)
theorem cv13_7 : (ay_chk xv13_7 xv13_8 40 11000 [11000, 11003, 11004, 11005, 11006, 11007, 11008, 11009, 11010, 11011, 11012, 11014, 11015] && ok_row xv13_7) = true := ay_fast nd13_ (by decide +kernel)
theorem cv13_8 : (ay_chk xv13_8 xv13_9 40 12000 [12000, 12003, 12004, 12005, 12006, 12007, 12008, 12009, 12010, 12011, 12012, 12014, 12015] && ok_row xv13_8) = true := ay_fast nd13_ (by decide +kernel)
theorem cv13_9 : (ay_chk xv13_9 xv13_10 40 13000 [13000, 13003, 13004, 13005, 13006, 13007, 13008, 13009, 13010, 13011, 13012, 13014, 13015] && ok_row xv13_9) = true := ay_fast nd13_ (by decide +kernel)
theorem cv13_10 : (ay_chk xv13_10 xv13_11 40 14000 [14000, 14003, 14004, 14005, 14006, 14007, 14008, 14009, 14010, 14011, 14012, 14014, 14015] && ok_row xv13_10) = true := ay_fast nd13_ (by decide +kernel)
theorem cv13_11 : (ay_chk xv13_11 xv13_12 40 15000 [15000, 15003, 15004, 15005, 15006, 15007, 15008, 15009, 15010, 15011, 15012, 15014, 15015] && ok_row xv13_11) = true := ay_fast nd13_ (by decide +kernel)
theorem cv13_12 : (ay_chk xv13_12 xv13_13 40 16000 [16000, 16003, 16004, 16005, 16006, 16007, 16008, 16009, 16010, 16011, 16012, 16014, 16015] && ok_row xv13_12) = true := ay_fast nd13_ (by decide +kernel)
theorem cv13_13 : (ay_chk xv13_13 xv13_14 40 17000 [17000, 17003, 17004, 17005, 17006, 17007, 17008, 17009, 17010, 17011, 17012, 17014, 17015] && ok_row xv13_13) = true := ay_fast nd13_ (by decide +kernel)
theorem cv13_14 : (ay_chk xv13_14 xv13_15 40 18000 [18000, 18003, 18004, 18005, 18006, 18007, 18008, 18009, 18010, 18011, 18012, 18014, 18015] && ok_row xv13_14) = true := ay_fast nd13_ (by decide +kernel)
def RI13 : Room := { frames := 3, cells := 329, slots := 1155585, locals := 120 }
