/-! printed by gen5.py: the law -/
theorem dL_0 : decode code 0 = .ok (.new 7, 3) := by decide +kernel
theorem dL_3 : decode code 3 = .ok (.dup, 1) := by decide +kernel
theorem dL_4 : decode code 4 = .ok (.invokespecial 9, 3) := by decide +kernel
theorem dL_7 : decode code 7 = .ok (.astore_n 1, 1) := by decide +kernel
theorem dL_8 : decode code 8 = .ok (.new 10, 3) := by decide +kernel
theorem dL_11 : decode code 11 = .ok (.dup, 1) := by decide +kernel
theorem dL_12 : decode code 12 = .ok (.invokespecial 12, 3) := by decide +kernel
theorem dL_15 : decode code 15 = .ok (.astore_n 2, 1) := by decide +kernel
theorem dL_16 : decode code 16 = .ok (.iconst 0, 1) := by decide +kernel
theorem dL_17 : decode code 17 = .ok (.istore_n 3, 1) := by decide +kernel
theorem dL_18 : decode code 18 = .ok (.iload_n 3, 1) := by decide +kernel
theorem dL_19 : decode code 19 = .ok (.aload_n 0, 1) := by decide +kernel
theorem dL_20 : decode code 20 = .ok (.arraylength, 1) := by decide +kernel
theorem dL_21 : decode code 21 = .ok (.iconst 3, 1) := by decide +kernel
theorem dL_22 : decode code 22 = .ok (.isub, 1) := by decide +kernel
theorem dL_23 : decode code 23 = .ok (.if_icmp .gt 623, 3) := by decide +kernel
theorem dL_26 : decode code 26 = .ok (.aload_n 0, 1) := by decide +kernel
theorem dL_27 : decode code 27 = .ok (.iload_n 3, 1) := by decide +kernel
theorem dL_28 : decode code 28 = .ok (.iaload, 1) := by decide +kernel
theorem dL_29 : decode code 29 = .ok (.bipush 31, 2) := by decide +kernel
theorem dL_31 : decode code 31 = .ok (.iand, 1) := by decide +kernel
theorem dL_32 : decode code 32 = .ok (.tableswitch 608 0 29 #[136, 159, 172, 185, 198, 211, 225, 238, 271, 284, 297, 310, 323, 346, 369, 392, 405, 418, 431, 444, 457, 470, 483, 496, 509, 522, 535, 548, 571, 594], 136) := by decide +kernel
theorem dL_168 : decode code 168 = .ok (.aload_n 1, 1) := by decide +kernel
theorem dL_169 : decode code 169 = .ok (.aload_n 0, 1) := by decide +kernel
theorem dL_170 : decode code 170 = .ok (.iload_n 3, 1) := by decide +kernel
theorem dL_171 : decode code 171 = .ok (.iconst 1, 1) := by decide +kernel
theorem dL_172 : decode code 172 = .ok (.iadd, 1) := by decide +kernel
theorem dL_173 : decode code 173 = .ok (.iaload, 1) := by decide +kernel
theorem dL_174 : decode code 174 = .ok (.invokevirtual 13, 3) := by decide +kernel
theorem dL_177 : decode code 177 = .ok (.aload_n 2, 1) := by decide +kernel
theorem dL_178 : decode code 178 = .ok (.aload_n 0, 1) := by decide +kernel
theorem dL_179 : decode code 179 = .ok (.iload_n 3, 1) := by decide +kernel
theorem dL_180 : decode code 180 = .ok (.iconst 1, 1) := by decide +kernel
theorem dL_181 : decode code 181 = .ok (.iadd, 1) := by decide +kernel
theorem dL_182 : decode code 182 = .ok (.iaload, 1) := by decide +kernel
theorem dL_183 : decode code 183 = .ok (.invokevirtual 17, 3) := by decide +kernel
theorem dL_186 : decode code 186 = .ok (.if_icmp .eq 454, 3) := by decide +kernel
theorem dL_189 : decode code 189 = .ok (.iconst 0, 1) := by decide +kernel
theorem dL_190 : decode code 190 = .ok (.ireturn, 1) := by decide +kernel
theorem dL_191 : decode code 191 = .ok (.aload_n 1, 1) := by decide +kernel
theorem dL_192 : decode code 192 = .ok (.invokevirtual 18, 3) := by decide +kernel
theorem dL_195 : decode code 195 = .ok (.aload_n 2, 1) := by decide +kernel
theorem dL_196 : decode code 196 = .ok (.invokevirtual 22, 3) := by decide +kernel
theorem dL_199 : decode code 199 = .ok (.if_icmp .eq 441, 3) := by decide +kernel
theorem dL_202 : decode code 202 = .ok (.iconst 0, 1) := by decide +kernel
theorem dL_203 : decode code 203 = .ok (.ireturn, 1) := by decide +kernel
theorem dL_204 : decode code 204 = .ok (.aload_n 1, 1) := by decide +kernel
theorem dL_205 : decode code 205 = .ok (.invokevirtual 23, 3) := by decide +kernel
theorem dL_208 : decode code 208 = .ok (.aload_n 2, 1) := by decide +kernel
theorem dL_209 : decode code 209 = .ok (.invokevirtual 26, 3) := by decide +kernel
theorem dL_212 : decode code 212 = .ok (.if_icmp .eq 428, 3) := by decide +kernel
theorem dL_215 : decode code 215 = .ok (.iconst 0, 1) := by decide +kernel
theorem dL_216 : decode code 216 = .ok (.ireturn, 1) := by decide +kernel
theorem dL_217 : decode code 217 = .ok (.aload_n 1, 1) := by decide +kernel
theorem dL_218 : decode code 218 = .ok (.invokevirtual 27, 3) := by decide +kernel
theorem dL_221 : decode code 221 = .ok (.aload_n 2, 1) := by decide +kernel
theorem dL_222 : decode code 222 = .ok (.invokevirtual 30, 3) := by decide +kernel
theorem dL_225 : decode code 225 = .ok (.if_icmp .eq 415, 3) := by decide +kernel
theorem dL_228 : decode code 228 = .ok (.iconst 0, 1) := by decide +kernel
theorem dL_229 : decode code 229 = .ok (.ireturn, 1) := by decide +kernel
theorem dL_230 : decode code 230 = .ok (.aload_n 1, 1) := by decide +kernel
theorem dL_231 : decode code 231 = .ok (.invokevirtual 31, 3) := by decide +kernel
theorem dL_234 : decode code 234 = .ok (.aload_n 2, 1) := by decide +kernel
theorem dL_235 : decode code 235 = .ok (.invokevirtual 34, 3) := by decide +kernel
theorem dL_238 : decode code 238 = .ok (.if_icmp .eq 402, 3) := by decide +kernel
theorem dL_241 : decode code 241 = .ok (.iconst 0, 1) := by decide +kernel
theorem dL_242 : decode code 242 = .ok (.ireturn, 1) := by decide +kernel
theorem dL_243 : decode code 243 = .ok (.aload_n 1, 1) := by decide +kernel
theorem dL_244 : decode code 244 = .ok (.invokevirtual 35, 3) := by decide +kernel
theorem dL_247 : decode code 247 = .ok (.aload_n 2, 1) := by decide +kernel
theorem dL_248 : decode code 248 = .ok (.invokevirtual 39, 3) := by decide +kernel
theorem dL_251 : decode code 251 = .ok (.lcmp, 1) := by decide +kernel
theorem dL_252 : decode code 252 = .ok (.ifCond .eq 388, 3) := by decide +kernel
theorem dL_255 : decode code 255 = .ok (.iconst 0, 1) := by decide +kernel
theorem dL_256 : decode code 256 = .ok (.ireturn, 1) := by decide +kernel
theorem dL_257 : decode code 257 = .ok (.aload_n 1, 1) := by decide +kernel
theorem dL_258 : decode code 258 = .ok (.invokevirtual 40, 3) := by decide +kernel
theorem dL_261 : decode code 261 = .ok (.aload_n 2, 1) := by decide +kernel
theorem dL_262 : decode code 262 = .ok (.invokevirtual 43, 3) := by decide +kernel
theorem dL_265 : decode code 265 = .ok (.if_icmp .eq 375, 3) := by decide +kernel
theorem dL_268 : decode code 268 = .ok (.iconst 0, 1) := by decide +kernel
theorem dL_269 : decode code 269 = .ok (.ireturn, 1) := by decide +kernel
theorem dL_270 : decode code 270 = .ok (.aload_n 1, 1) := by decide +kernel
theorem dL_271 : decode code 271 = .ok (.aload_n 0, 1) := by decide +kernel
theorem dL_272 : decode code 272 = .ok (.iload_n 3, 1) := by decide +kernel
theorem dL_273 : decode code 273 = .ok (.iconst 1, 1) := by decide +kernel
theorem dL_274 : decode code 274 = .ok (.iadd, 1) := by decide +kernel
theorem dL_275 : decode code 275 = .ok (.iaload, 1) := by decide +kernel
theorem dL_276 : decode code 276 = .ok (.aload_n 0, 1) := by decide +kernel
theorem dL_277 : decode code 277 = .ok (.iload_n 3, 1) := by decide +kernel
theorem dL_278 : decode code 278 = .ok (.iconst 2, 1) := by decide +kernel
theorem dL_279 : decode code 279 = .ok (.iadd, 1) := by decide +kernel
theorem dL_280 : decode code 280 = .ok (.iaload, 1) := by decide +kernel
theorem dL_281 : decode code 281 = .ok (.invokevirtual 44, 3) := by decide +kernel
theorem dL_284 : decode code 284 = .ok (.aload_n 2, 1) := by decide +kernel
theorem dL_285 : decode code 285 = .ok (.aload_n 0, 1) := by decide +kernel
theorem dL_286 : decode code 286 = .ok (.iload_n 3, 1) := by decide +kernel
theorem dL_287 : decode code 287 = .ok (.iconst 1, 1) := by decide +kernel
theorem dL_288 : decode code 288 = .ok (.iadd, 1) := by decide +kernel
theorem dL_289 : decode code 289 = .ok (.iaload, 1) := by decide +kernel
theorem dL_290 : decode code 290 = .ok (.aload_n 0, 1) := by decide +kernel
theorem dL_291 : decode code 291 = .ok (.iload_n 3, 1) := by decide +kernel
theorem dL_292 : decode code 292 = .ok (.iconst 2, 1) := by decide +kernel
theorem dL_293 : decode code 293 = .ok (.iadd, 1) := by decide +kernel
theorem dL_294 : decode code 294 = .ok (.iaload, 1) := by decide +kernel
theorem dL_295 : decode code 295 = .ok (.invokevirtual 48, 3) := by decide +kernel
theorem dL_298 : decode code 298 = .ok (.if_icmp .eq 342, 3) := by decide +kernel
theorem dL_301 : decode code 301 = .ok (.iconst 0, 1) := by decide +kernel
theorem dL_302 : decode code 302 = .ok (.ireturn, 1) := by decide +kernel
theorem dL_303 : decode code 303 = .ok (.aload_n 1, 1) := by decide +kernel
theorem dL_304 : decode code 304 = .ok (.invokevirtual 49, 3) := by decide +kernel
theorem dL_307 : decode code 307 = .ok (.aload_n 2, 1) := by decide +kernel
theorem dL_308 : decode code 308 = .ok (.invokevirtual 52, 3) := by decide +kernel
theorem dL_311 : decode code 311 = .ok (.if_icmp .eq 329, 3) := by decide +kernel
theorem dL_314 : decode code 314 = .ok (.iconst 0, 1) := by decide +kernel
theorem dL_315 : decode code 315 = .ok (.ireturn, 1) := by decide +kernel
theorem dL_316 : decode code 316 = .ok (.aload_n 1, 1) := by decide +kernel
theorem dL_317 : decode code 317 = .ok (.invokevirtual 53, 3) := by decide +kernel
theorem dL_320 : decode code 320 = .ok (.aload_n 2, 1) := by decide +kernel
theorem dL_321 : decode code 321 = .ok (.invokevirtual 56, 3) := by decide +kernel
theorem dL_324 : decode code 324 = .ok (.if_icmp .eq 316, 3) := by decide +kernel
theorem dL_327 : decode code 327 = .ok (.iconst 0, 1) := by decide +kernel
theorem dL_328 : decode code 328 = .ok (.ireturn, 1) := by decide +kernel
theorem dL_329 : decode code 329 = .ok (.aload_n 1, 1) := by decide +kernel
theorem dL_330 : decode code 330 = .ok (.invokevirtual 57, 3) := by decide +kernel
theorem dL_333 : decode code 333 = .ok (.aload_n 2, 1) := by decide +kernel
theorem dL_334 : decode code 334 = .ok (.invokevirtual 60, 3) := by decide +kernel
theorem dL_337 : decode code 337 = .ok (.if_icmp .eq 303, 3) := by decide +kernel
theorem dL_340 : decode code 340 = .ok (.iconst 0, 1) := by decide +kernel
theorem dL_341 : decode code 341 = .ok (.ireturn, 1) := by decide +kernel
theorem dL_342 : decode code 342 = .ok (.aload_n 1, 1) := by decide +kernel
theorem dL_343 : decode code 343 = .ok (.invokevirtual 61, 3) := by decide +kernel
theorem dL_346 : decode code 346 = .ok (.aload_n 2, 1) := by decide +kernel
theorem dL_347 : decode code 347 = .ok (.invokevirtual 64, 3) := by decide +kernel
theorem dL_350 : decode code 350 = .ok (.if_icmp .eq 290, 3) := by decide +kernel
theorem dL_353 : decode code 353 = .ok (.iconst 0, 1) := by decide +kernel
theorem dL_354 : decode code 354 = .ok (.ireturn, 1) := by decide +kernel
theorem dL_355 : decode code 355 = .ok (.aload_n 1, 1) := by decide +kernel
theorem dL_356 : decode code 356 = .ok (.aload_n 0, 1) := by decide +kernel
theorem dL_357 : decode code 357 = .ok (.iload_n 3, 1) := by decide +kernel
theorem dL_358 : decode code 358 = .ok (.iconst 1, 1) := by decide +kernel
theorem dL_359 : decode code 359 = .ok (.iadd, 1) := by decide +kernel
theorem dL_360 : decode code 360 = .ok (.iaload, 1) := by decide +kernel
theorem dL_361 : decode code 361 = .ok (.invokevirtual 65, 3) := by decide +kernel
theorem dL_364 : decode code 364 = .ok (.aload_n 2, 1) := by decide +kernel
theorem dL_365 : decode code 365 = .ok (.aload_n 0, 1) := by decide +kernel
theorem dL_366 : decode code 366 = .ok (.iload_n 3, 1) := by decide +kernel
theorem dL_367 : decode code 367 = .ok (.iconst 1, 1) := by decide +kernel
theorem dL_368 : decode code 368 = .ok (.iadd, 1) := by decide +kernel
theorem dL_369 : decode code 369 = .ok (.iaload, 1) := by decide +kernel
theorem dL_370 : decode code 370 = .ok (.invokevirtual 68, 3) := by decide +kernel
theorem dL_373 : decode code 373 = .ok (.if_icmp .eq 267, 3) := by decide +kernel
theorem dL_376 : decode code 376 = .ok (.iconst 0, 1) := by decide +kernel
theorem dL_377 : decode code 377 = .ok (.ireturn, 1) := by decide +kernel
theorem dL_378 : decode code 378 = .ok (.aload_n 1, 1) := by decide +kernel
theorem dL_379 : decode code 379 = .ok (.aload_n 0, 1) := by decide +kernel
theorem dL_380 : decode code 380 = .ok (.iload_n 3, 1) := by decide +kernel
theorem dL_381 : decode code 381 = .ok (.iconst 1, 1) := by decide +kernel
theorem dL_382 : decode code 382 = .ok (.iadd, 1) := by decide +kernel
theorem dL_383 : decode code 383 = .ok (.iaload, 1) := by decide +kernel
theorem dL_384 : decode code 384 = .ok (.invokevirtual 69, 3) := by decide +kernel
theorem dL_387 : decode code 387 = .ok (.aload_n 2, 1) := by decide +kernel
theorem dL_388 : decode code 388 = .ok (.aload_n 0, 1) := by decide +kernel
theorem dL_389 : decode code 389 = .ok (.iload_n 3, 1) := by decide +kernel
theorem dL_390 : decode code 390 = .ok (.iconst 1, 1) := by decide +kernel
theorem dL_391 : decode code 391 = .ok (.iadd, 1) := by decide +kernel
theorem dL_392 : decode code 392 = .ok (.iaload, 1) := by decide +kernel
theorem dL_393 : decode code 393 = .ok (.invokevirtual 72, 3) := by decide +kernel
theorem dL_396 : decode code 396 = .ok (.if_icmp .eq 244, 3) := by decide +kernel
theorem dL_399 : decode code 399 = .ok (.iconst 0, 1) := by decide +kernel
theorem dL_400 : decode code 400 = .ok (.ireturn, 1) := by decide +kernel
theorem dL_401 : decode code 401 = .ok (.aload_n 1, 1) := by decide +kernel
theorem dL_402 : decode code 402 = .ok (.aload_n 0, 1) := by decide +kernel
theorem dL_403 : decode code 403 = .ok (.iload_n 3, 1) := by decide +kernel
theorem dL_404 : decode code 404 = .ok (.iconst 1, 1) := by decide +kernel
theorem dL_405 : decode code 405 = .ok (.iadd, 1) := by decide +kernel
theorem dL_406 : decode code 406 = .ok (.iaload, 1) := by decide +kernel
theorem dL_407 : decode code 407 = .ok (.invokevirtual 73, 3) := by decide +kernel
theorem dL_410 : decode code 410 = .ok (.aload_n 2, 1) := by decide +kernel
theorem dL_411 : decode code 411 = .ok (.aload_n 0, 1) := by decide +kernel
theorem dL_412 : decode code 412 = .ok (.iload_n 3, 1) := by decide +kernel
theorem dL_413 : decode code 413 = .ok (.iconst 1, 1) := by decide +kernel
theorem dL_414 : decode code 414 = .ok (.iadd, 1) := by decide +kernel
theorem dL_415 : decode code 415 = .ok (.iaload, 1) := by decide +kernel
theorem dL_416 : decode code 416 = .ok (.invokevirtual 76, 3) := by decide +kernel
theorem dL_419 : decode code 419 = .ok (.if_icmp .eq 221, 3) := by decide +kernel
theorem dL_422 : decode code 422 = .ok (.iconst 0, 1) := by decide +kernel
theorem dL_423 : decode code 423 = .ok (.ireturn, 1) := by decide +kernel
theorem dL_424 : decode code 424 = .ok (.aload_n 1, 1) := by decide +kernel
theorem dL_425 : decode code 425 = .ok (.invokevirtual 77, 3) := by decide +kernel
theorem dL_428 : decode code 428 = .ok (.aload_n 2, 1) := by decide +kernel
theorem dL_429 : decode code 429 = .ok (.invokevirtual 80, 3) := by decide +kernel
theorem dL_432 : decode code 432 = .ok (.if_icmp .eq 208, 3) := by decide +kernel
theorem dL_435 : decode code 435 = .ok (.iconst 0, 1) := by decide +kernel
theorem dL_436 : decode code 436 = .ok (.ireturn, 1) := by decide +kernel
theorem dL_437 : decode code 437 = .ok (.aload_n 1, 1) := by decide +kernel
theorem dL_438 : decode code 438 = .ok (.invokevirtual 81, 3) := by decide +kernel
theorem dL_441 : decode code 441 = .ok (.aload_n 2, 1) := by decide +kernel
theorem dL_442 : decode code 442 = .ok (.invokevirtual 84, 3) := by decide +kernel
theorem dL_445 : decode code 445 = .ok (.if_icmp .eq 195, 3) := by decide +kernel
theorem dL_448 : decode code 448 = .ok (.iconst 0, 1) := by decide +kernel
theorem dL_449 : decode code 449 = .ok (.ireturn, 1) := by decide +kernel
theorem dL_450 : decode code 450 = .ok (.aload_n 1, 1) := by decide +kernel
theorem dL_451 : decode code 451 = .ok (.invokevirtual 85, 3) := by decide +kernel
theorem dL_454 : decode code 454 = .ok (.aload_n 2, 1) := by decide +kernel
theorem dL_455 : decode code 455 = .ok (.invokevirtual 88, 3) := by decide +kernel
theorem dL_458 : decode code 458 = .ok (.if_icmp .eq 182, 3) := by decide +kernel
theorem dL_461 : decode code 461 = .ok (.iconst 0, 1) := by decide +kernel
theorem dL_462 : decode code 462 = .ok (.ireturn, 1) := by decide +kernel
theorem dL_463 : decode code 463 = .ok (.aload_n 1, 1) := by decide +kernel
theorem dL_464 : decode code 464 = .ok (.invokevirtual 89, 3) := by decide +kernel
theorem dL_467 : decode code 467 = .ok (.aload_n 2, 1) := by decide +kernel
theorem dL_468 : decode code 468 = .ok (.invokevirtual 92, 3) := by decide +kernel
theorem dL_471 : decode code 471 = .ok (.if_icmp .eq 169, 3) := by decide +kernel
theorem dL_474 : decode code 474 = .ok (.iconst 0, 1) := by decide +kernel
theorem dL_475 : decode code 475 = .ok (.ireturn, 1) := by decide +kernel
theorem dL_476 : decode code 476 = .ok (.aload_n 1, 1) := by decide +kernel
theorem dL_477 : decode code 477 = .ok (.invokevirtual 93, 3) := by decide +kernel
theorem dL_480 : decode code 480 = .ok (.aload_n 2, 1) := by decide +kernel
theorem dL_481 : decode code 481 = .ok (.invokevirtual 96, 3) := by decide +kernel
theorem dL_484 : decode code 484 = .ok (.if_icmp .eq 156, 3) := by decide +kernel
theorem dL_487 : decode code 487 = .ok (.iconst 0, 1) := by decide +kernel
theorem dL_488 : decode code 488 = .ok (.ireturn, 1) := by decide +kernel
theorem dL_489 : decode code 489 = .ok (.aload_n 1, 1) := by decide +kernel
theorem dL_490 : decode code 490 = .ok (.invokevirtual 97, 3) := by decide +kernel
theorem dL_493 : decode code 493 = .ok (.aload_n 2, 1) := by decide +kernel
theorem dL_494 : decode code 494 = .ok (.invokevirtual 100, 3) := by decide +kernel
theorem dL_497 : decode code 497 = .ok (.if_icmp .eq 143, 3) := by decide +kernel
theorem dL_500 : decode code 500 = .ok (.iconst 0, 1) := by decide +kernel
theorem dL_501 : decode code 501 = .ok (.ireturn, 1) := by decide +kernel
theorem dL_502 : decode code 502 = .ok (.aload_n 1, 1) := by decide +kernel
theorem dL_503 : decode code 503 = .ok (.invokevirtual 101, 3) := by decide +kernel
theorem dL_506 : decode code 506 = .ok (.aload_n 2, 1) := by decide +kernel
theorem dL_507 : decode code 507 = .ok (.invokevirtual 104, 3) := by decide +kernel
theorem dL_510 : decode code 510 = .ok (.if_icmp .eq 130, 3) := by decide +kernel
theorem dL_513 : decode code 513 = .ok (.iconst 0, 1) := by decide +kernel
theorem dL_514 : decode code 514 = .ok (.ireturn, 1) := by decide +kernel
theorem dL_515 : decode code 515 = .ok (.aload_n 1, 1) := by decide +kernel
theorem dL_516 : decode code 516 = .ok (.invokevirtual 105, 3) := by decide +kernel
theorem dL_519 : decode code 519 = .ok (.aload_n 2, 1) := by decide +kernel
theorem dL_520 : decode code 520 = .ok (.invokevirtual 108, 3) := by decide +kernel
theorem dL_523 : decode code 523 = .ok (.if_icmp .eq 117, 3) := by decide +kernel
theorem dL_526 : decode code 526 = .ok (.iconst 0, 1) := by decide +kernel
theorem dL_527 : decode code 527 = .ok (.ireturn, 1) := by decide +kernel
theorem dL_528 : decode code 528 = .ok (.aload_n 1, 1) := by decide +kernel
theorem dL_529 : decode code 529 = .ok (.invokevirtual 109, 3) := by decide +kernel
theorem dL_532 : decode code 532 = .ok (.aload_n 2, 1) := by decide +kernel
theorem dL_533 : decode code 533 = .ok (.invokevirtual 112, 3) := by decide +kernel
theorem dL_536 : decode code 536 = .ok (.if_icmp .eq 104, 3) := by decide +kernel
theorem dL_539 : decode code 539 = .ok (.iconst 0, 1) := by decide +kernel
theorem dL_540 : decode code 540 = .ok (.ireturn, 1) := by decide +kernel
theorem dL_541 : decode code 541 = .ok (.aload_n 1, 1) := by decide +kernel
theorem dL_542 : decode code 542 = .ok (.invokevirtual 113, 3) := by decide +kernel
theorem dL_545 : decode code 545 = .ok (.aload_n 2, 1) := by decide +kernel
theorem dL_546 : decode code 546 = .ok (.invokevirtual 116, 3) := by decide +kernel
theorem dL_549 : decode code 549 = .ok (.if_icmp .eq 91, 3) := by decide +kernel
theorem dL_552 : decode code 552 = .ok (.iconst 0, 1) := by decide +kernel
theorem dL_553 : decode code 553 = .ok (.ireturn, 1) := by decide +kernel
theorem dL_554 : decode code 554 = .ok (.aload_n 1, 1) := by decide +kernel
theorem dL_555 : decode code 555 = .ok (.invokevirtual 117, 3) := by decide +kernel
theorem dL_558 : decode code 558 = .ok (.aload_n 2, 1) := by decide +kernel
theorem dL_559 : decode code 559 = .ok (.invokevirtual 120, 3) := by decide +kernel
theorem dL_562 : decode code 562 = .ok (.if_icmp .eq 78, 3) := by decide +kernel
theorem dL_565 : decode code 565 = .ok (.iconst 0, 1) := by decide +kernel
theorem dL_566 : decode code 566 = .ok (.ireturn, 1) := by decide +kernel
theorem dL_567 : decode code 567 = .ok (.aload_n 1, 1) := by decide +kernel
theorem dL_568 : decode code 568 = .ok (.invokevirtual 121, 3) := by decide +kernel
theorem dL_571 : decode code 571 = .ok (.aload_n 2, 1) := by decide +kernel
theorem dL_572 : decode code 572 = .ok (.invokevirtual 124, 3) := by decide +kernel
theorem dL_575 : decode code 575 = .ok (.if_icmp .eq 65, 3) := by decide +kernel
theorem dL_578 : decode code 578 = .ok (.iconst 0, 1) := by decide +kernel
theorem dL_579 : decode code 579 = .ok (.ireturn, 1) := by decide +kernel
theorem dL_580 : decode code 580 = .ok (.aload_n 1, 1) := by decide +kernel
theorem dL_581 : decode code 581 = .ok (.aload_n 0, 1) := by decide +kernel
theorem dL_582 : decode code 582 = .ok (.iload_n 3, 1) := by decide +kernel
theorem dL_583 : decode code 583 = .ok (.iconst 1, 1) := by decide +kernel
theorem dL_584 : decode code 584 = .ok (.iadd, 1) := by decide +kernel
theorem dL_585 : decode code 585 = .ok (.iaload, 1) := by decide +kernel
theorem dL_586 : decode code 586 = .ok (.invokevirtual 125, 3) := by decide +kernel
theorem dL_589 : decode code 589 = .ok (.aload_n 2, 1) := by decide +kernel
theorem dL_590 : decode code 590 = .ok (.aload_n 0, 1) := by decide +kernel
theorem dL_591 : decode code 591 = .ok (.iload_n 3, 1) := by decide +kernel
theorem dL_592 : decode code 592 = .ok (.iconst 1, 1) := by decide +kernel
theorem dL_593 : decode code 593 = .ok (.iadd, 1) := by decide +kernel
theorem dL_594 : decode code 594 = .ok (.iaload, 1) := by decide +kernel
theorem dL_595 : decode code 595 = .ok (.invokevirtual 128, 3) := by decide +kernel
theorem dL_598 : decode code 598 = .ok (.if_icmp .eq 42, 3) := by decide +kernel
theorem dL_601 : decode code 601 = .ok (.iconst 0, 1) := by decide +kernel
theorem dL_602 : decode code 602 = .ok (.ireturn, 1) := by decide +kernel
theorem dL_603 : decode code 603 = .ok (.aload_n 1, 1) := by decide +kernel
theorem dL_604 : decode code 604 = .ok (.aload_n 0, 1) := by decide +kernel
theorem dL_605 : decode code 605 = .ok (.iload_n 3, 1) := by decide +kernel
theorem dL_606 : decode code 606 = .ok (.iconst 1, 1) := by decide +kernel
theorem dL_607 : decode code 607 = .ok (.iadd, 1) := by decide +kernel
theorem dL_608 : decode code 608 = .ok (.iaload, 1) := by decide +kernel
theorem dL_609 : decode code 609 = .ok (.invokevirtual 129, 3) := by decide +kernel
theorem dL_612 : decode code 612 = .ok (.aload_n 2, 1) := by decide +kernel
theorem dL_613 : decode code 613 = .ok (.aload_n 0, 1) := by decide +kernel
theorem dL_614 : decode code 614 = .ok (.iload_n 3, 1) := by decide +kernel
theorem dL_615 : decode code 615 = .ok (.iconst 1, 1) := by decide +kernel
theorem dL_616 : decode code 616 = .ok (.iadd, 1) := by decide +kernel
theorem dL_617 : decode code 617 = .ok (.iaload, 1) := by decide +kernel
theorem dL_618 : decode code 618 = .ok (.invokevirtual 132, 3) := by decide +kernel
theorem dL_621 : decode code 621 = .ok (.if_icmp .eq 19, 3) := by decide +kernel
theorem dL_624 : decode code 624 = .ok (.iconst 0, 1) := by decide +kernel
theorem dL_625 : decode code 625 = .ok (.ireturn, 1) := by decide +kernel
theorem dL_626 : decode code 626 = .ok (.aload_n 1, 1) := by decide +kernel
theorem dL_627 : decode code 627 = .ok (.invokevirtual 133, 3) := by decide +kernel
theorem dL_630 : decode code 630 = .ok (.aload_n 2, 1) := by decide +kernel
theorem dL_631 : decode code 631 = .ok (.invokevirtual 136, 3) := by decide +kernel
theorem dL_634 : decode code 634 = .ok (.lcmp, 1) := by decide +kernel
theorem dL_635 : decode code 635 = .ok (.ifCond .eq 5, 3) := by decide +kernel
theorem dL_638 : decode code 638 = .ok (.iconst 0, 1) := by decide +kernel
theorem dL_639 : decode code 639 = .ok (.ireturn, 1) := by decide +kernel
theorem dL_640 : decode code 640 = .ok (.iinc 3 3, 3) := by decide +kernel
theorem dL_643 : decode code 643 = .ok (.goto ((-625)), 3) := by decide +kernel
theorem dL_646 : decode code 646 = .ok (.iconst 1, 1) := by decide +kernel
theorem dL_647 : decode code 647 = .ok (.ireturn, 1) := by decide +kernel
