theorem dL_law_0 : decode code 0 = .ok (.new 7, 3) := by decide +kernel
theorem dL_law_3 : decode code 3 = .ok (.dup, 1) := by decide +kernel
theorem dL_law_4 : decode code 4 = .ok (.invokespecial 9, 3) := by decide +kernel
theorem dL_law_7 : decode code 7 = .ok (.astore_n 1, 1) := by decide +kernel
theorem dL_law_8 : decode code 8 = .ok (.new 10, 3) := by decide +kernel
theorem dL_law_11 : decode code 11 = .ok (.dup, 1) := by decide +kernel
theorem dL_law_12 : decode code 12 = .ok (.invokespecial 12, 3) := by decide +kernel
theorem dL_law_15 : decode code 15 = .ok (.astore_n 2, 1) := by decide +kernel
theorem dL_law_16 : decode code 16 = .ok (.iconst 0, 1) := by decide +kernel
theorem dL_law_17 : decode code 17 = .ok (.istore_n 3, 1) := by decide +kernel
theorem dL_law_18 : decode code 18 = .ok (.iload_n 3, 1) := by decide +kernel
theorem dL_law_19 : decode code 19 = .ok (.aload_n 0, 1) := by decide +kernel
theorem dL_law_20 : decode code 20 = .ok (.arraylength, 1) := by decide +kernel
theorem dL_law_21 : decode code 21 = .ok (.iconst 5, 1) := by decide +kernel
theorem dL_law_22 : decode code 22 = .ok (.isub, 1) := by decide +kernel
theorem dL_law_23 : decode code 23 = .ok (.if_icmp .gt 1252, 3) := by decide +kernel
theorem dL_law_26 : decode code 26 = .ok (.aload_n 0, 1) := by decide +kernel
theorem dL_law_27 : decode code 27 = .ok (.iload_n 3, 1) := by decide +kernel
theorem dL_law_28 : decode code 28 = .ok (.iaload, 1) := by decide +kernel
theorem dL_law_29 : decode code 29 = .ok (.bipush 63, 2) := by decide +kernel
theorem dL_law_31 : decode code 31 = .ok (.iand, 1) := by decide +kernel
theorem dL_law_32 : decode code 32 = .ok (.tableswitch 1237 0 39 #[176, 199, 222, 235, 248, 271, 304, 337, 390, 413, 426, 449, 482, 515, 549, 572, 595, 628, 661, 674, 687, 700, 723, 746, 779, 812, 865, 878, 901, 914, 937, 950, 973, 1006, 1029, 1052, 1075, 1118, 1161, 1204], 176) := by decide +kernel
theorem dL_law_208 : decode code 208 = .ok (.aload_n 1, 1) := by decide +kernel
theorem dL_law_209 : decode code 209 = .ok (.aload_n 0, 1) := by decide +kernel
theorem dL_law_210 : decode code 210 = .ok (.iload_n 3, 1) := by decide +kernel
theorem dL_law_211 : decode code 211 = .ok (.iconst 1, 1) := by decide +kernel
theorem dL_law_212 : decode code 212 = .ok (.iadd, 1) := by decide +kernel
theorem dL_law_213 : decode code 213 = .ok (.iaload, 1) := by decide +kernel
theorem dL_law_214 : decode code 214 = .ok (.invokevirtual 13, 3) := by decide +kernel
theorem dL_law_217 : decode code 217 = .ok (.aload_n 2, 1) := by decide +kernel
theorem dL_law_218 : decode code 218 = .ok (.aload_n 0, 1) := by decide +kernel
theorem dL_law_219 : decode code 219 = .ok (.iload_n 3, 1) := by decide +kernel
theorem dL_law_220 : decode code 220 = .ok (.iconst 1, 1) := by decide +kernel
theorem dL_law_221 : decode code 221 = .ok (.iadd, 1) := by decide +kernel
theorem dL_law_222 : decode code 222 = .ok (.iaload, 1) := by decide +kernel
theorem dL_law_223 : decode code 223 = .ok (.invokevirtual 17, 3) := by decide +kernel
theorem dL_law_226 : decode code 226 = .ok (.if_icmp .eq 1043, 3) := by decide +kernel
theorem dL_law_229 : decode code 229 = .ok (.iconst 0, 1) := by decide +kernel
theorem dL_law_230 : decode code 230 = .ok (.ireturn, 1) := by decide +kernel
theorem dL_law_231 : decode code 231 = .ok (.aload_n 1, 1) := by decide +kernel
theorem dL_law_232 : decode code 232 = .ok (.aload_n 0, 1) := by decide +kernel
theorem dL_law_233 : decode code 233 = .ok (.iload_n 3, 1) := by decide +kernel
theorem dL_law_234 : decode code 234 = .ok (.iconst 1, 1) := by decide +kernel
theorem dL_law_235 : decode code 235 = .ok (.iadd, 1) := by decide +kernel
theorem dL_law_236 : decode code 236 = .ok (.iaload, 1) := by decide +kernel
theorem dL_law_237 : decode code 237 = .ok (.invokevirtual 18, 3) := by decide +kernel
theorem dL_law_240 : decode code 240 = .ok (.aload_n 2, 1) := by decide +kernel
theorem dL_law_241 : decode code 241 = .ok (.aload_n 0, 1) := by decide +kernel
theorem dL_law_242 : decode code 242 = .ok (.iload_n 3, 1) := by decide +kernel
theorem dL_law_243 : decode code 243 = .ok (.iconst 1, 1) := by decide +kernel
theorem dL_law_244 : decode code 244 = .ok (.iadd, 1) := by decide +kernel
theorem dL_law_245 : decode code 245 = .ok (.iaload, 1) := by decide +kernel
theorem dL_law_246 : decode code 246 = .ok (.invokevirtual 21, 3) := by decide +kernel
theorem dL_law_249 : decode code 249 = .ok (.if_icmp .eq 1020, 3) := by decide +kernel
theorem dL_law_252 : decode code 252 = .ok (.iconst 0, 1) := by decide +kernel
theorem dL_law_253 : decode code 253 = .ok (.ireturn, 1) := by decide +kernel
theorem dL_law_254 : decode code 254 = .ok (.aload_n 1, 1) := by decide +kernel
theorem dL_law_255 : decode code 255 = .ok (.invokevirtual 22, 3) := by decide +kernel
theorem dL_law_258 : decode code 258 = .ok (.aload_n 2, 1) := by decide +kernel
theorem dL_law_259 : decode code 259 = .ok (.invokevirtual 26, 3) := by decide +kernel
theorem dL_law_262 : decode code 262 = .ok (.if_icmp .eq 1007, 3) := by decide +kernel
theorem dL_law_265 : decode code 265 = .ok (.iconst 0, 1) := by decide +kernel
theorem dL_law_266 : decode code 266 = .ok (.ireturn, 1) := by decide +kernel
theorem dL_law_267 : decode code 267 = .ok (.aload_n 1, 1) := by decide +kernel
theorem dL_law_268 : decode code 268 = .ok (.invokevirtual 27, 3) := by decide +kernel
theorem dL_law_271 : decode code 271 = .ok (.aload_n 2, 1) := by decide +kernel
theorem dL_law_272 : decode code 272 = .ok (.invokevirtual 30, 3) := by decide +kernel
theorem dL_law_275 : decode code 275 = .ok (.if_icmp .eq 994, 3) := by decide +kernel
theorem dL_law_278 : decode code 278 = .ok (.iconst 0, 1) := by decide +kernel
theorem dL_law_279 : decode code 279 = .ok (.ireturn, 1) := by decide +kernel
theorem dL_law_280 : decode code 280 = .ok (.aload_n 1, 1) := by decide +kernel
theorem dL_law_281 : decode code 281 = .ok (.aload_n 0, 1) := by decide +kernel
theorem dL_law_282 : decode code 282 = .ok (.iload_n 3, 1) := by decide +kernel
theorem dL_law_283 : decode code 283 = .ok (.iconst 1, 1) := by decide +kernel
theorem dL_law_284 : decode code 284 = .ok (.iadd, 1) := by decide +kernel
theorem dL_law_285 : decode code 285 = .ok (.iaload, 1) := by decide +kernel
theorem dL_law_286 : decode code 286 = .ok (.invokevirtual 31, 3) := by decide +kernel
theorem dL_law_289 : decode code 289 = .ok (.aload_n 2, 1) := by decide +kernel
theorem dL_law_290 : decode code 290 = .ok (.aload_n 0, 1) := by decide +kernel
theorem dL_law_291 : decode code 291 = .ok (.iload_n 3, 1) := by decide +kernel
theorem dL_law_292 : decode code 292 = .ok (.iconst 1, 1) := by decide +kernel
theorem dL_law_293 : decode code 293 = .ok (.iadd, 1) := by decide +kernel
theorem dL_law_294 : decode code 294 = .ok (.iaload, 1) := by decide +kernel
theorem dL_law_295 : decode code 295 = .ok (.invokevirtual 34, 3) := by decide +kernel
theorem dL_law_298 : decode code 298 = .ok (.if_icmp .eq 971, 3) := by decide +kernel
theorem dL_law_301 : decode code 301 = .ok (.iconst 0, 1) := by decide +kernel
theorem dL_law_302 : decode code 302 = .ok (.ireturn, 1) := by decide +kernel
theorem dL_law_303 : decode code 303 = .ok (.aload_n 1, 1) := by decide +kernel
theorem dL_law_304 : decode code 304 = .ok (.aload_n 0, 1) := by decide +kernel
theorem dL_law_305 : decode code 305 = .ok (.iload_n 3, 1) := by decide +kernel
theorem dL_law_306 : decode code 306 = .ok (.iconst 1, 1) := by decide +kernel
theorem dL_law_307 : decode code 307 = .ok (.iadd, 1) := by decide +kernel
theorem dL_law_308 : decode code 308 = .ok (.iaload, 1) := by decide +kernel
theorem dL_law_309 : decode code 309 = .ok (.aload_n 0, 1) := by decide +kernel
theorem dL_law_310 : decode code 310 = .ok (.iload_n 3, 1) := by decide +kernel
theorem dL_law_311 : decode code 311 = .ok (.iconst 2, 1) := by decide +kernel
theorem dL_law_312 : decode code 312 = .ok (.iadd, 1) := by decide +kernel
theorem dL_law_313 : decode code 313 = .ok (.iaload, 1) := by decide +kernel
theorem dL_law_314 : decode code 314 = .ok (.invokevirtual 35, 3) := by decide +kernel
theorem dL_law_317 : decode code 317 = .ok (.aload_n 2, 1) := by decide +kernel
theorem dL_law_318 : decode code 318 = .ok (.aload_n 0, 1) := by decide +kernel
theorem dL_law_319 : decode code 319 = .ok (.iload_n 3, 1) := by decide +kernel
theorem dL_law_320 : decode code 320 = .ok (.iconst 1, 1) := by decide +kernel
theorem dL_law_321 : decode code 321 = .ok (.iadd, 1) := by decide +kernel
theorem dL_law_322 : decode code 322 = .ok (.iaload, 1) := by decide +kernel
theorem dL_law_323 : decode code 323 = .ok (.aload_n 0, 1) := by decide +kernel
theorem dL_law_324 : decode code 324 = .ok (.iload_n 3, 1) := by decide +kernel
theorem dL_law_325 : decode code 325 = .ok (.iconst 2, 1) := by decide +kernel
theorem dL_law_326 : decode code 326 = .ok (.iadd, 1) := by decide +kernel
theorem dL_law_327 : decode code 327 = .ok (.iaload, 1) := by decide +kernel
theorem dL_law_328 : decode code 328 = .ok (.invokevirtual 39, 3) := by decide +kernel
theorem dL_law_331 : decode code 331 = .ok (.if_icmp .eq 938, 3) := by decide +kernel
theorem dL_law_334 : decode code 334 = .ok (.iconst 0, 1) := by decide +kernel
theorem dL_law_335 : decode code 335 = .ok (.ireturn, 1) := by decide +kernel
theorem dL_law_336 : decode code 336 = .ok (.aload_n 1, 1) := by decide +kernel
theorem dL_law_337 : decode code 337 = .ok (.aload_n 0, 1) := by decide +kernel
theorem dL_law_338 : decode code 338 = .ok (.iload_n 3, 1) := by decide +kernel
theorem dL_law_339 : decode code 339 = .ok (.iconst 1, 1) := by decide +kernel
theorem dL_law_340 : decode code 340 = .ok (.iadd, 1) := by decide +kernel
theorem dL_law_341 : decode code 341 = .ok (.iaload, 1) := by decide +kernel
theorem dL_law_342 : decode code 342 = .ok (.aload_n 0, 1) := by decide +kernel
theorem dL_law_343 : decode code 343 = .ok (.iload_n 3, 1) := by decide +kernel
theorem dL_law_344 : decode code 344 = .ok (.iconst 2, 1) := by decide +kernel
theorem dL_law_345 : decode code 345 = .ok (.iadd, 1) := by decide +kernel
theorem dL_law_346 : decode code 346 = .ok (.iaload, 1) := by decide +kernel
theorem dL_law_347 : decode code 347 = .ok (.invokevirtual 40, 3) := by decide +kernel
theorem dL_law_350 : decode code 350 = .ok (.aload_n 2, 1) := by decide +kernel
theorem dL_law_351 : decode code 351 = .ok (.aload_n 0, 1) := by decide +kernel
theorem dL_law_352 : decode code 352 = .ok (.iload_n 3, 1) := by decide +kernel
theorem dL_law_353 : decode code 353 = .ok (.iconst 1, 1) := by decide +kernel
theorem dL_law_354 : decode code 354 = .ok (.iadd, 1) := by decide +kernel
theorem dL_law_355 : decode code 355 = .ok (.iaload, 1) := by decide +kernel
theorem dL_law_356 : decode code 356 = .ok (.aload_n 0, 1) := by decide +kernel
theorem dL_law_357 : decode code 357 = .ok (.iload_n 3, 1) := by decide +kernel
theorem dL_law_358 : decode code 358 = .ok (.iconst 2, 1) := by decide +kernel
theorem dL_law_359 : decode code 359 = .ok (.iadd, 1) := by decide +kernel
theorem dL_law_360 : decode code 360 = .ok (.iaload, 1) := by decide +kernel
theorem dL_law_361 : decode code 361 = .ok (.invokevirtual 43, 3) := by decide +kernel
theorem dL_law_364 : decode code 364 = .ok (.if_icmp .eq 905, 3) := by decide +kernel
theorem dL_law_367 : decode code 367 = .ok (.iconst 0, 1) := by decide +kernel
theorem dL_law_368 : decode code 368 = .ok (.ireturn, 1) := by decide +kernel
theorem dL_law_369 : decode code 369 = .ok (.aload_n 1, 1) := by decide +kernel
theorem dL_law_370 : decode code 370 = .ok (.aload_n 0, 1) := by decide +kernel
theorem dL_law_371 : decode code 371 = .ok (.iload_n 3, 1) := by decide +kernel
theorem dL_law_372 : decode code 372 = .ok (.iconst 1, 1) := by decide +kernel
theorem dL_law_373 : decode code 373 = .ok (.iadd, 1) := by decide +kernel
theorem dL_law_374 : decode code 374 = .ok (.iaload, 1) := by decide +kernel
theorem dL_law_375 : decode code 375 = .ok (.aload_n 0, 1) := by decide +kernel
theorem dL_law_376 : decode code 376 = .ok (.iload_n 3, 1) := by decide +kernel
theorem dL_law_377 : decode code 377 = .ok (.iconst 2, 1) := by decide +kernel
theorem dL_law_378 : decode code 378 = .ok (.iadd, 1) := by decide +kernel
theorem dL_law_379 : decode code 379 = .ok (.iaload, 1) := by decide +kernel
theorem dL_law_380 : decode code 380 = .ok (.aload_n 0, 1) := by decide +kernel
theorem dL_law_381 : decode code 381 = .ok (.iload_n 3, 1) := by decide +kernel
theorem dL_law_382 : decode code 382 = .ok (.iconst 3, 1) := by decide +kernel
theorem dL_law_383 : decode code 383 = .ok (.iadd, 1) := by decide +kernel
theorem dL_law_384 : decode code 384 = .ok (.iaload, 1) := by decide +kernel
theorem dL_law_385 : decode code 385 = .ok (.aload_n 0, 1) := by decide +kernel
theorem dL_law_386 : decode code 386 = .ok (.iload_n 3, 1) := by decide +kernel
theorem dL_law_387 : decode code 387 = .ok (.iconst 4, 1) := by decide +kernel
theorem dL_law_388 : decode code 388 = .ok (.iadd, 1) := by decide +kernel
theorem dL_law_389 : decode code 389 = .ok (.iaload, 1) := by decide +kernel
theorem dL_law_390 : decode code 390 = .ok (.invokevirtual 44, 3) := by decide +kernel
theorem dL_law_393 : decode code 393 = .ok (.aload_n 2, 1) := by decide +kernel
theorem dL_law_394 : decode code 394 = .ok (.aload_n 0, 1) := by decide +kernel
theorem dL_law_395 : decode code 395 = .ok (.iload_n 3, 1) := by decide +kernel
theorem dL_law_396 : decode code 396 = .ok (.iconst 1, 1) := by decide +kernel
theorem dL_law_397 : decode code 397 = .ok (.iadd, 1) := by decide +kernel
theorem dL_law_398 : decode code 398 = .ok (.iaload, 1) := by decide +kernel
theorem dL_law_399 : decode code 399 = .ok (.aload_n 0, 1) := by decide +kernel
theorem dL_law_400 : decode code 400 = .ok (.iload_n 3, 1) := by decide +kernel
theorem dL_law_401 : decode code 401 = .ok (.iconst 2, 1) := by decide +kernel
theorem dL_law_402 : decode code 402 = .ok (.iadd, 1) := by decide +kernel
theorem dL_law_403 : decode code 403 = .ok (.iaload, 1) := by decide +kernel
theorem dL_law_404 : decode code 404 = .ok (.aload_n 0, 1) := by decide +kernel
theorem dL_law_405 : decode code 405 = .ok (.iload_n 3, 1) := by decide +kernel
theorem dL_law_406 : decode code 406 = .ok (.iconst 3, 1) := by decide +kernel
theorem dL_law_407 : decode code 407 = .ok (.iadd, 1) := by decide +kernel
theorem dL_law_408 : decode code 408 = .ok (.iaload, 1) := by decide +kernel
theorem dL_law_409 : decode code 409 = .ok (.aload_n 0, 1) := by decide +kernel
theorem dL_law_410 : decode code 410 = .ok (.iload_n 3, 1) := by decide +kernel
theorem dL_law_411 : decode code 411 = .ok (.iconst 4, 1) := by decide +kernel
theorem dL_law_412 : decode code 412 = .ok (.iadd, 1) := by decide +kernel
theorem dL_law_413 : decode code 413 = .ok (.iaload, 1) := by decide +kernel
theorem dL_law_414 : decode code 414 = .ok (.invokevirtual 48, 3) := by decide +kernel
theorem dL_law_417 : decode code 417 = .ok (.if_icmp .eq 852, 3) := by decide +kernel
theorem dL_law_420 : decode code 420 = .ok (.iconst 0, 1) := by decide +kernel
theorem dL_law_421 : decode code 421 = .ok (.ireturn, 1) := by decide +kernel
theorem dL_law_422 : decode code 422 = .ok (.aload_n 1, 1) := by decide +kernel
theorem dL_law_423 : decode code 423 = .ok (.aload_n 0, 1) := by decide +kernel
theorem dL_law_424 : decode code 424 = .ok (.iload_n 3, 1) := by decide +kernel
theorem dL_law_425 : decode code 425 = .ok (.iconst 1, 1) := by decide +kernel
theorem dL_law_426 : decode code 426 = .ok (.iadd, 1) := by decide +kernel
theorem dL_law_427 : decode code 427 = .ok (.iaload, 1) := by decide +kernel
theorem dL_law_428 : decode code 428 = .ok (.invokevirtual 49, 3) := by decide +kernel
theorem dL_law_431 : decode code 431 = .ok (.aload_n 2, 1) := by decide +kernel
theorem dL_law_432 : decode code 432 = .ok (.aload_n 0, 1) := by decide +kernel
theorem dL_law_433 : decode code 433 = .ok (.iload_n 3, 1) := by decide +kernel
theorem dL_law_434 : decode code 434 = .ok (.iconst 1, 1) := by decide +kernel
theorem dL_law_435 : decode code 435 = .ok (.iadd, 1) := by decide +kernel
theorem dL_law_436 : decode code 436 = .ok (.iaload, 1) := by decide +kernel
theorem dL_law_437 : decode code 437 = .ok (.invokevirtual 52, 3) := by decide +kernel
theorem dL_law_440 : decode code 440 = .ok (.if_icmp .eq 829, 3) := by decide +kernel
theorem dL_law_443 : decode code 443 = .ok (.iconst 0, 1) := by decide +kernel
theorem dL_law_444 : decode code 444 = .ok (.ireturn, 1) := by decide +kernel
theorem dL_law_445 : decode code 445 = .ok (.aload_n 1, 1) := by decide +kernel
theorem dL_law_446 : decode code 446 = .ok (.invokevirtual 53, 3) := by decide +kernel
theorem dL_law_449 : decode code 449 = .ok (.aload_n 2, 1) := by decide +kernel
theorem dL_law_450 : decode code 450 = .ok (.invokevirtual 56, 3) := by decide +kernel
theorem dL_law_453 : decode code 453 = .ok (.if_icmp .eq 816, 3) := by decide +kernel
theorem dL_law_456 : decode code 456 = .ok (.iconst 0, 1) := by decide +kernel
theorem dL_law_457 : decode code 457 = .ok (.ireturn, 1) := by decide +kernel
theorem dL_law_458 : decode code 458 = .ok (.aload_n 1, 1) := by decide +kernel
theorem dL_law_459 : decode code 459 = .ok (.aload_n 0, 1) := by decide +kernel
theorem dL_law_460 : decode code 460 = .ok (.iload_n 3, 1) := by decide +kernel
theorem dL_law_461 : decode code 461 = .ok (.iconst 1, 1) := by decide +kernel
theorem dL_law_462 : decode code 462 = .ok (.iadd, 1) := by decide +kernel
theorem dL_law_463 : decode code 463 = .ok (.iaload, 1) := by decide +kernel
theorem dL_law_464 : decode code 464 = .ok (.invokevirtual 57, 3) := by decide +kernel
theorem dL_law_467 : decode code 467 = .ok (.aload_n 2, 1) := by decide +kernel
theorem dL_law_468 : decode code 468 = .ok (.aload_n 0, 1) := by decide +kernel
theorem dL_law_469 : decode code 469 = .ok (.iload_n 3, 1) := by decide +kernel
theorem dL_law_470 : decode code 470 = .ok (.iconst 1, 1) := by decide +kernel
theorem dL_law_471 : decode code 471 = .ok (.iadd, 1) := by decide +kernel
theorem dL_law_472 : decode code 472 = .ok (.iaload, 1) := by decide +kernel
theorem dL_law_473 : decode code 473 = .ok (.invokevirtual 60, 3) := by decide +kernel
theorem dL_law_476 : decode code 476 = .ok (.if_icmp .eq 793, 3) := by decide +kernel
theorem dL_law_479 : decode code 479 = .ok (.iconst 0, 1) := by decide +kernel
theorem dL_law_480 : decode code 480 = .ok (.ireturn, 1) := by decide +kernel
theorem dL_law_481 : decode code 481 = .ok (.aload_n 1, 1) := by decide +kernel
theorem dL_law_482 : decode code 482 = .ok (.aload_n 0, 1) := by decide +kernel
theorem dL_law_483 : decode code 483 = .ok (.iload_n 3, 1) := by decide +kernel
theorem dL_law_484 : decode code 484 = .ok (.iconst 1, 1) := by decide +kernel
theorem dL_law_485 : decode code 485 = .ok (.iadd, 1) := by decide +kernel
theorem dL_law_486 : decode code 486 = .ok (.iaload, 1) := by decide +kernel
theorem dL_law_487 : decode code 487 = .ok (.aload_n 0, 1) := by decide +kernel
theorem dL_law_488 : decode code 488 = .ok (.iload_n 3, 1) := by decide +kernel
theorem dL_law_489 : decode code 489 = .ok (.iconst 2, 1) := by decide +kernel
theorem dL_law_490 : decode code 490 = .ok (.iadd, 1) := by decide +kernel
theorem dL_law_491 : decode code 491 = .ok (.iaload, 1) := by decide +kernel
theorem dL_law_492 : decode code 492 = .ok (.invokevirtual 61, 3) := by decide +kernel
theorem dL_law_495 : decode code 495 = .ok (.aload_n 2, 1) := by decide +kernel
theorem dL_law_496 : decode code 496 = .ok (.aload_n 0, 1) := by decide +kernel
theorem dL_law_497 : decode code 497 = .ok (.iload_n 3, 1) := by decide +kernel
theorem dL_law_498 : decode code 498 = .ok (.iconst 1, 1) := by decide +kernel
theorem dL_law_499 : decode code 499 = .ok (.iadd, 1) := by decide +kernel
theorem dL_law_500 : decode code 500 = .ok (.iaload, 1) := by decide +kernel
theorem dL_law_501 : decode code 501 = .ok (.aload_n 0, 1) := by decide +kernel
theorem dL_law_502 : decode code 502 = .ok (.iload_n 3, 1) := by decide +kernel
theorem dL_law_503 : decode code 503 = .ok (.iconst 2, 1) := by decide +kernel
theorem dL_law_504 : decode code 504 = .ok (.iadd, 1) := by decide +kernel
theorem dL_law_505 : decode code 505 = .ok (.iaload, 1) := by decide +kernel
theorem dL_law_506 : decode code 506 = .ok (.invokevirtual 64, 3) := by decide +kernel
theorem dL_law_509 : decode code 509 = .ok (.if_icmp .eq 760, 3) := by decide +kernel
theorem dL_law_512 : decode code 512 = .ok (.iconst 0, 1) := by decide +kernel
theorem dL_law_513 : decode code 513 = .ok (.ireturn, 1) := by decide +kernel
theorem dL_law_514 : decode code 514 = .ok (.aload_n 1, 1) := by decide +kernel
theorem dL_law_515 : decode code 515 = .ok (.aload_n 0, 1) := by decide +kernel
theorem dL_law_516 : decode code 516 = .ok (.iload_n 3, 1) := by decide +kernel
theorem dL_law_517 : decode code 517 = .ok (.iconst 1, 1) := by decide +kernel
theorem dL_law_518 : decode code 518 = .ok (.iadd, 1) := by decide +kernel
theorem dL_law_519 : decode code 519 = .ok (.iaload, 1) := by decide +kernel
theorem dL_law_520 : decode code 520 = .ok (.aload_n 0, 1) := by decide +kernel
theorem dL_law_521 : decode code 521 = .ok (.iload_n 3, 1) := by decide +kernel
theorem dL_law_522 : decode code 522 = .ok (.iconst 2, 1) := by decide +kernel
theorem dL_law_523 : decode code 523 = .ok (.iadd, 1) := by decide +kernel
theorem dL_law_524 : decode code 524 = .ok (.iaload, 1) := by decide +kernel
theorem dL_law_525 : decode code 525 = .ok (.invokevirtual 65, 3) := by decide +kernel
theorem dL_law_528 : decode code 528 = .ok (.aload_n 2, 1) := by decide +kernel
theorem dL_law_529 : decode code 529 = .ok (.aload_n 0, 1) := by decide +kernel
theorem dL_law_530 : decode code 530 = .ok (.iload_n 3, 1) := by decide +kernel
theorem dL_law_531 : decode code 531 = .ok (.iconst 1, 1) := by decide +kernel
theorem dL_law_532 : decode code 532 = .ok (.iadd, 1) := by decide +kernel
theorem dL_law_533 : decode code 533 = .ok (.iaload, 1) := by decide +kernel
theorem dL_law_534 : decode code 534 = .ok (.aload_n 0, 1) := by decide +kernel
theorem dL_law_535 : decode code 535 = .ok (.iload_n 3, 1) := by decide +kernel
theorem dL_law_536 : decode code 536 = .ok (.iconst 2, 1) := by decide +kernel
theorem dL_law_537 : decode code 537 = .ok (.iadd, 1) := by decide +kernel
theorem dL_law_538 : decode code 538 = .ok (.iaload, 1) := by decide +kernel
theorem dL_law_539 : decode code 539 = .ok (.invokevirtual 68, 3) := by decide +kernel
theorem dL_law_542 : decode code 542 = .ok (.if_icmp .eq 727, 3) := by decide +kernel
theorem dL_law_545 : decode code 545 = .ok (.iconst 0, 1) := by decide +kernel
theorem dL_law_546 : decode code 546 = .ok (.ireturn, 1) := by decide +kernel
theorem dL_law_547 : decode code 547 = .ok (.aload_n 1, 1) := by decide +kernel
theorem dL_law_548 : decode code 548 = .ok (.aload_n 0, 1) := by decide +kernel
theorem dL_law_549 : decode code 549 = .ok (.iload_n 3, 1) := by decide +kernel
theorem dL_law_550 : decode code 550 = .ok (.iconst 1, 1) := by decide +kernel
theorem dL_law_551 : decode code 551 = .ok (.iadd, 1) := by decide +kernel
theorem dL_law_552 : decode code 552 = .ok (.iaload, 1) := by decide +kernel
theorem dL_law_553 : decode code 553 = .ok (.aload_n 0, 1) := by decide +kernel
theorem dL_law_554 : decode code 554 = .ok (.iload_n 3, 1) := by decide +kernel
theorem dL_law_555 : decode code 555 = .ok (.iconst 2, 1) := by decide +kernel
theorem dL_law_556 : decode code 556 = .ok (.iadd, 1) := by decide +kernel
theorem dL_law_557 : decode code 557 = .ok (.iaload, 1) := by decide +kernel
theorem dL_law_558 : decode code 558 = .ok (.invokevirtual 69, 3) := by decide +kernel
theorem dL_law_561 : decode code 561 = .ok (.aload_n 2, 1) := by decide +kernel
theorem dL_law_562 : decode code 562 = .ok (.aload_n 0, 1) := by decide +kernel
theorem dL_law_563 : decode code 563 = .ok (.iload_n 3, 1) := by decide +kernel
theorem dL_law_564 : decode code 564 = .ok (.iconst 1, 1) := by decide +kernel
theorem dL_law_565 : decode code 565 = .ok (.iadd, 1) := by decide +kernel
theorem dL_law_566 : decode code 566 = .ok (.iaload, 1) := by decide +kernel
theorem dL_law_567 : decode code 567 = .ok (.aload_n 0, 1) := by decide +kernel
theorem dL_law_568 : decode code 568 = .ok (.iload_n 3, 1) := by decide +kernel
theorem dL_law_569 : decode code 569 = .ok (.iconst 2, 1) := by decide +kernel
theorem dL_law_570 : decode code 570 = .ok (.iadd, 1) := by decide +kernel
theorem dL_law_571 : decode code 571 = .ok (.iaload, 1) := by decide +kernel
theorem dL_law_572 : decode code 572 = .ok (.invokevirtual 73, 3) := by decide +kernel
theorem dL_law_575 : decode code 575 = .ok (.lcmp, 1) := by decide +kernel
theorem dL_law_576 : decode code 576 = .ok (.ifCond .eq 693, 3) := by decide +kernel
theorem dL_law_579 : decode code 579 = .ok (.iconst 0, 1) := by decide +kernel
theorem dL_law_580 : decode code 580 = .ok (.ireturn, 1) := by decide +kernel
theorem dL_law_581 : decode code 581 = .ok (.aload_n 1, 1) := by decide +kernel
theorem dL_law_582 : decode code 582 = .ok (.aload_n 0, 1) := by decide +kernel
theorem dL_law_583 : decode code 583 = .ok (.iload_n 3, 1) := by decide +kernel
theorem dL_law_584 : decode code 584 = .ok (.iconst 1, 1) := by decide +kernel
theorem dL_law_585 : decode code 585 = .ok (.iadd, 1) := by decide +kernel
theorem dL_law_586 : decode code 586 = .ok (.iaload, 1) := by decide +kernel
theorem dL_law_587 : decode code 587 = .ok (.invokevirtual 74, 3) := by decide +kernel
theorem dL_law_590 : decode code 590 = .ok (.aload_n 2, 1) := by decide +kernel
theorem dL_law_591 : decode code 591 = .ok (.aload_n 0, 1) := by decide +kernel
theorem dL_law_592 : decode code 592 = .ok (.iload_n 3, 1) := by decide +kernel
theorem dL_law_593 : decode code 593 = .ok (.iconst 1, 1) := by decide +kernel
theorem dL_law_594 : decode code 594 = .ok (.iadd, 1) := by decide +kernel
theorem dL_law_595 : decode code 595 = .ok (.iaload, 1) := by decide +kernel
theorem dL_law_596 : decode code 596 = .ok (.invokevirtual 77, 3) := by decide +kernel
theorem dL_law_599 : decode code 599 = .ok (.if_icmp .eq 670, 3) := by decide +kernel
theorem dL_law_602 : decode code 602 = .ok (.iconst 0, 1) := by decide +kernel
theorem dL_law_603 : decode code 603 = .ok (.ireturn, 1) := by decide +kernel
theorem dL_law_604 : decode code 604 = .ok (.aload_n 1, 1) := by decide +kernel
theorem dL_law_605 : decode code 605 = .ok (.aload_n 0, 1) := by decide +kernel
theorem dL_law_606 : decode code 606 = .ok (.iload_n 3, 1) := by decide +kernel
theorem dL_law_607 : decode code 607 = .ok (.iconst 1, 1) := by decide +kernel
theorem dL_law_608 : decode code 608 = .ok (.iadd, 1) := by decide +kernel
theorem dL_law_609 : decode code 609 = .ok (.iaload, 1) := by decide +kernel
theorem dL_law_610 : decode code 610 = .ok (.invokevirtual 78, 3) := by decide +kernel
theorem dL_law_613 : decode code 613 = .ok (.aload_n 2, 1) := by decide +kernel
theorem dL_law_614 : decode code 614 = .ok (.aload_n 0, 1) := by decide +kernel
theorem dL_law_615 : decode code 615 = .ok (.iload_n 3, 1) := by decide +kernel
theorem dL_law_616 : decode code 616 = .ok (.iconst 1, 1) := by decide +kernel
theorem dL_law_617 : decode code 617 = .ok (.iadd, 1) := by decide +kernel
theorem dL_law_618 : decode code 618 = .ok (.iaload, 1) := by decide +kernel
theorem dL_law_619 : decode code 619 = .ok (.invokevirtual 81, 3) := by decide +kernel
theorem dL_law_622 : decode code 622 = .ok (.if_icmp .eq 647, 3) := by decide +kernel
theorem dL_law_625 : decode code 625 = .ok (.iconst 0, 1) := by decide +kernel
theorem dL_law_626 : decode code 626 = .ok (.ireturn, 1) := by decide +kernel
theorem dL_law_627 : decode code 627 = .ok (.aload_n 1, 1) := by decide +kernel
theorem dL_law_628 : decode code 628 = .ok (.aload_n 0, 1) := by decide +kernel
theorem dL_law_629 : decode code 629 = .ok (.iload_n 3, 1) := by decide +kernel
theorem dL_law_630 : decode code 630 = .ok (.iconst 1, 1) := by decide +kernel
theorem dL_law_631 : decode code 631 = .ok (.iadd, 1) := by decide +kernel
theorem dL_law_632 : decode code 632 = .ok (.iaload, 1) := by decide +kernel
theorem dL_law_633 : decode code 633 = .ok (.aload_n 0, 1) := by decide +kernel
theorem dL_law_634 : decode code 634 = .ok (.iload_n 3, 1) := by decide +kernel
theorem dL_law_635 : decode code 635 = .ok (.iconst 2, 1) := by decide +kernel
theorem dL_law_636 : decode code 636 = .ok (.iadd, 1) := by decide +kernel
theorem dL_law_637 : decode code 637 = .ok (.iaload, 1) := by decide +kernel
theorem dL_law_638 : decode code 638 = .ok (.invokevirtual 82, 3) := by decide +kernel
theorem dL_law_641 : decode code 641 = .ok (.aload_n 2, 1) := by decide +kernel
theorem dL_law_642 : decode code 642 = .ok (.aload_n 0, 1) := by decide +kernel
theorem dL_law_643 : decode code 643 = .ok (.iload_n 3, 1) := by decide +kernel
theorem dL_law_644 : decode code 644 = .ok (.iconst 1, 1) := by decide +kernel
theorem dL_law_645 : decode code 645 = .ok (.iadd, 1) := by decide +kernel
theorem dL_law_646 : decode code 646 = .ok (.iaload, 1) := by decide +kernel
theorem dL_law_647 : decode code 647 = .ok (.aload_n 0, 1) := by decide +kernel
theorem dL_law_648 : decode code 648 = .ok (.iload_n 3, 1) := by decide +kernel
theorem dL_law_649 : decode code 649 = .ok (.iconst 2, 1) := by decide +kernel
theorem dL_law_650 : decode code 650 = .ok (.iadd, 1) := by decide +kernel
theorem dL_law_651 : decode code 651 = .ok (.iaload, 1) := by decide +kernel
theorem dL_law_652 : decode code 652 = .ok (.invokevirtual 85, 3) := by decide +kernel
theorem dL_law_655 : decode code 655 = .ok (.if_icmp .eq 614, 3) := by decide +kernel
theorem dL_law_658 : decode code 658 = .ok (.iconst 0, 1) := by decide +kernel
theorem dL_law_659 : decode code 659 = .ok (.ireturn, 1) := by decide +kernel
theorem dL_law_660 : decode code 660 = .ok (.aload_n 1, 1) := by decide +kernel
theorem dL_law_661 : decode code 661 = .ok (.aload_n 0, 1) := by decide +kernel
theorem dL_law_662 : decode code 662 = .ok (.iload_n 3, 1) := by decide +kernel
theorem dL_law_663 : decode code 663 = .ok (.iconst 1, 1) := by decide +kernel
theorem dL_law_664 : decode code 664 = .ok (.iadd, 1) := by decide +kernel
theorem dL_law_665 : decode code 665 = .ok (.iaload, 1) := by decide +kernel
theorem dL_law_666 : decode code 666 = .ok (.aload_n 0, 1) := by decide +kernel
theorem dL_law_667 : decode code 667 = .ok (.iload_n 3, 1) := by decide +kernel
theorem dL_law_668 : decode code 668 = .ok (.iconst 2, 1) := by decide +kernel
theorem dL_law_669 : decode code 669 = .ok (.iadd, 1) := by decide +kernel
theorem dL_law_670 : decode code 670 = .ok (.iaload, 1) := by decide +kernel
theorem dL_law_671 : decode code 671 = .ok (.invokevirtual 86, 3) := by decide +kernel
theorem dL_law_674 : decode code 674 = .ok (.aload_n 2, 1) := by decide +kernel
theorem dL_law_675 : decode code 675 = .ok (.aload_n 0, 1) := by decide +kernel
theorem dL_law_676 : decode code 676 = .ok (.iload_n 3, 1) := by decide +kernel
theorem dL_law_677 : decode code 677 = .ok (.iconst 1, 1) := by decide +kernel
theorem dL_law_678 : decode code 678 = .ok (.iadd, 1) := by decide +kernel
theorem dL_law_679 : decode code 679 = .ok (.iaload, 1) := by decide +kernel
theorem dL_law_680 : decode code 680 = .ok (.aload_n 0, 1) := by decide +kernel
theorem dL_law_681 : decode code 681 = .ok (.iload_n 3, 1) := by decide +kernel
theorem dL_law_682 : decode code 682 = .ok (.iconst 2, 1) := by decide +kernel
theorem dL_law_683 : decode code 683 = .ok (.iadd, 1) := by decide +kernel
theorem dL_law_684 : decode code 684 = .ok (.iaload, 1) := by decide +kernel
theorem dL_law_685 : decode code 685 = .ok (.invokevirtual 89, 3) := by decide +kernel
theorem dL_law_688 : decode code 688 = .ok (.if_icmp .eq 581, 3) := by decide +kernel
theorem dL_law_691 : decode code 691 = .ok (.iconst 0, 1) := by decide +kernel
theorem dL_law_692 : decode code 692 = .ok (.ireturn, 1) := by decide +kernel
theorem dL_law_693 : decode code 693 = .ok (.aload_n 1, 1) := by decide +kernel
theorem dL_law_694 : decode code 694 = .ok (.invokevirtual 90, 3) := by decide +kernel
theorem dL_law_697 : decode code 697 = .ok (.aload_n 2, 1) := by decide +kernel
theorem dL_law_698 : decode code 698 = .ok (.invokevirtual 93, 3) := by decide +kernel
theorem dL_law_701 : decode code 701 = .ok (.if_icmp .eq 568, 3) := by decide +kernel
theorem dL_law_704 : decode code 704 = .ok (.iconst 0, 1) := by decide +kernel
theorem dL_law_705 : decode code 705 = .ok (.ireturn, 1) := by decide +kernel
theorem dL_law_706 : decode code 706 = .ok (.aload_n 1, 1) := by decide +kernel
theorem dL_law_707 : decode code 707 = .ok (.invokevirtual 94, 3) := by decide +kernel
theorem dL_law_710 : decode code 710 = .ok (.aload_n 2, 1) := by decide +kernel
theorem dL_law_711 : decode code 711 = .ok (.invokevirtual 97, 3) := by decide +kernel
theorem dL_law_714 : decode code 714 = .ok (.if_icmp .eq 555, 3) := by decide +kernel
theorem dL_law_717 : decode code 717 = .ok (.iconst 0, 1) := by decide +kernel
theorem dL_law_718 : decode code 718 = .ok (.ireturn, 1) := by decide +kernel
theorem dL_law_719 : decode code 719 = .ok (.aload_n 1, 1) := by decide +kernel
theorem dL_law_720 : decode code 720 = .ok (.invokevirtual 98, 3) := by decide +kernel
theorem dL_law_723 : decode code 723 = .ok (.aload_n 2, 1) := by decide +kernel
theorem dL_law_724 : decode code 724 = .ok (.invokevirtual 101, 3) := by decide +kernel
theorem dL_law_727 : decode code 727 = .ok (.if_icmp .eq 542, 3) := by decide +kernel
theorem dL_law_730 : decode code 730 = .ok (.iconst 0, 1) := by decide +kernel
theorem dL_law_731 : decode code 731 = .ok (.ireturn, 1) := by decide +kernel
theorem dL_law_732 : decode code 732 = .ok (.aload_n 1, 1) := by decide +kernel
theorem dL_law_733 : decode code 733 = .ok (.aload_n 0, 1) := by decide +kernel
theorem dL_law_734 : decode code 734 = .ok (.iload_n 3, 1) := by decide +kernel
theorem dL_law_735 : decode code 735 = .ok (.iconst 1, 1) := by decide +kernel
theorem dL_law_736 : decode code 736 = .ok (.iadd, 1) := by decide +kernel
theorem dL_law_737 : decode code 737 = .ok (.iaload, 1) := by decide +kernel
theorem dL_law_738 : decode code 738 = .ok (.invokevirtual 102, 3) := by decide +kernel
theorem dL_law_741 : decode code 741 = .ok (.aload_n 2, 1) := by decide +kernel
theorem dL_law_742 : decode code 742 = .ok (.aload_n 0, 1) := by decide +kernel
theorem dL_law_743 : decode code 743 = .ok (.iload_n 3, 1) := by decide +kernel
theorem dL_law_744 : decode code 744 = .ok (.iconst 1, 1) := by decide +kernel
theorem dL_law_745 : decode code 745 = .ok (.iadd, 1) := by decide +kernel
theorem dL_law_746 : decode code 746 = .ok (.iaload, 1) := by decide +kernel
theorem dL_law_747 : decode code 747 = .ok (.invokevirtual 105, 3) := by decide +kernel
theorem dL_law_750 : decode code 750 = .ok (.if_icmp .eq 519, 3) := by decide +kernel
theorem dL_law_753 : decode code 753 = .ok (.iconst 0, 1) := by decide +kernel
theorem dL_law_754 : decode code 754 = .ok (.ireturn, 1) := by decide +kernel
theorem dL_law_755 : decode code 755 = .ok (.aload_n 1, 1) := by decide +kernel
theorem dL_law_756 : decode code 756 = .ok (.aload_n 0, 1) := by decide +kernel
theorem dL_law_757 : decode code 757 = .ok (.iload_n 3, 1) := by decide +kernel
theorem dL_law_758 : decode code 758 = .ok (.iconst 1, 1) := by decide +kernel
theorem dL_law_759 : decode code 759 = .ok (.iadd, 1) := by decide +kernel
theorem dL_law_760 : decode code 760 = .ok (.iaload, 1) := by decide +kernel
theorem dL_law_761 : decode code 761 = .ok (.invokevirtual 106, 3) := by decide +kernel
theorem dL_law_764 : decode code 764 = .ok (.aload_n 2, 1) := by decide +kernel
theorem dL_law_765 : decode code 765 = .ok (.aload_n 0, 1) := by decide +kernel
theorem dL_law_766 : decode code 766 = .ok (.iload_n 3, 1) := by decide +kernel
theorem dL_law_767 : decode code 767 = .ok (.iconst 1, 1) := by decide +kernel
theorem dL_law_768 : decode code 768 = .ok (.iadd, 1) := by decide +kernel
theorem dL_law_769 : decode code 769 = .ok (.iaload, 1) := by decide +kernel
theorem dL_law_770 : decode code 770 = .ok (.invokevirtual 109, 3) := by decide +kernel
theorem dL_law_773 : decode code 773 = .ok (.if_icmp .eq 496, 3) := by decide +kernel
theorem dL_law_776 : decode code 776 = .ok (.iconst 0, 1) := by decide +kernel
theorem dL_law_777 : decode code 777 = .ok (.ireturn, 1) := by decide +kernel
theorem dL_law_778 : decode code 778 = .ok (.aload_n 1, 1) := by decide +kernel
theorem dL_law_779 : decode code 779 = .ok (.aload_n 0, 1) := by decide +kernel
theorem dL_law_780 : decode code 780 = .ok (.iload_n 3, 1) := by decide +kernel
theorem dL_law_781 : decode code 781 = .ok (.iconst 1, 1) := by decide +kernel
theorem dL_law_782 : decode code 782 = .ok (.iadd, 1) := by decide +kernel
theorem dL_law_783 : decode code 783 = .ok (.iaload, 1) := by decide +kernel
theorem dL_law_784 : decode code 784 = .ok (.aload_n 0, 1) := by decide +kernel
theorem dL_law_785 : decode code 785 = .ok (.iload_n 3, 1) := by decide +kernel
theorem dL_law_786 : decode code 786 = .ok (.iconst 2, 1) := by decide +kernel
theorem dL_law_787 : decode code 787 = .ok (.iadd, 1) := by decide +kernel
theorem dL_law_788 : decode code 788 = .ok (.iaload, 1) := by decide +kernel
theorem dL_law_789 : decode code 789 = .ok (.invokevirtual 110, 3) := by decide +kernel
theorem dL_law_792 : decode code 792 = .ok (.aload_n 2, 1) := by decide +kernel
theorem dL_law_793 : decode code 793 = .ok (.aload_n 0, 1) := by decide +kernel
theorem dL_law_794 : decode code 794 = .ok (.iload_n 3, 1) := by decide +kernel
theorem dL_law_795 : decode code 795 = .ok (.iconst 1, 1) := by decide +kernel
theorem dL_law_796 : decode code 796 = .ok (.iadd, 1) := by decide +kernel
theorem dL_law_797 : decode code 797 = .ok (.iaload, 1) := by decide +kernel
theorem dL_law_798 : decode code 798 = .ok (.aload_n 0, 1) := by decide +kernel
theorem dL_law_799 : decode code 799 = .ok (.iload_n 3, 1) := by decide +kernel
theorem dL_law_800 : decode code 800 = .ok (.iconst 2, 1) := by decide +kernel
theorem dL_law_801 : decode code 801 = .ok (.iadd, 1) := by decide +kernel
theorem dL_law_802 : decode code 802 = .ok (.iaload, 1) := by decide +kernel
theorem dL_law_803 : decode code 803 = .ok (.invokevirtual 113, 3) := by decide +kernel
theorem dL_law_806 : decode code 806 = .ok (.if_icmp .eq 463, 3) := by decide +kernel
theorem dL_law_809 : decode code 809 = .ok (.iconst 0, 1) := by decide +kernel
theorem dL_law_810 : decode code 810 = .ok (.ireturn, 1) := by decide +kernel
theorem dL_law_811 : decode code 811 = .ok (.aload_n 1, 1) := by decide +kernel
theorem dL_law_812 : decode code 812 = .ok (.aload_n 0, 1) := by decide +kernel
theorem dL_law_813 : decode code 813 = .ok (.iload_n 3, 1) := by decide +kernel
theorem dL_law_814 : decode code 814 = .ok (.iconst 1, 1) := by decide +kernel
theorem dL_law_815 : decode code 815 = .ok (.iadd, 1) := by decide +kernel
theorem dL_law_816 : decode code 816 = .ok (.iaload, 1) := by decide +kernel
theorem dL_law_817 : decode code 817 = .ok (.aload_n 0, 1) := by decide +kernel
theorem dL_law_818 : decode code 818 = .ok (.iload_n 3, 1) := by decide +kernel
theorem dL_law_819 : decode code 819 = .ok (.iconst 2, 1) := by decide +kernel
theorem dL_law_820 : decode code 820 = .ok (.iadd, 1) := by decide +kernel
theorem dL_law_821 : decode code 821 = .ok (.iaload, 1) := by decide +kernel
theorem dL_law_822 : decode code 822 = .ok (.invokevirtual 114, 3) := by decide +kernel
theorem dL_law_825 : decode code 825 = .ok (.aload_n 2, 1) := by decide +kernel
theorem dL_law_826 : decode code 826 = .ok (.aload_n 0, 1) := by decide +kernel
theorem dL_law_827 : decode code 827 = .ok (.iload_n 3, 1) := by decide +kernel
theorem dL_law_828 : decode code 828 = .ok (.iconst 1, 1) := by decide +kernel
theorem dL_law_829 : decode code 829 = .ok (.iadd, 1) := by decide +kernel
theorem dL_law_830 : decode code 830 = .ok (.iaload, 1) := by decide +kernel
theorem dL_law_831 : decode code 831 = .ok (.aload_n 0, 1) := by decide +kernel
theorem dL_law_832 : decode code 832 = .ok (.iload_n 3, 1) := by decide +kernel
theorem dL_law_833 : decode code 833 = .ok (.iconst 2, 1) := by decide +kernel
theorem dL_law_834 : decode code 834 = .ok (.iadd, 1) := by decide +kernel
theorem dL_law_835 : decode code 835 = .ok (.iaload, 1) := by decide +kernel
theorem dL_law_836 : decode code 836 = .ok (.invokevirtual 117, 3) := by decide +kernel
theorem dL_law_839 : decode code 839 = .ok (.if_icmp .eq 430, 3) := by decide +kernel
theorem dL_law_842 : decode code 842 = .ok (.iconst 0, 1) := by decide +kernel
theorem dL_law_843 : decode code 843 = .ok (.ireturn, 1) := by decide +kernel
theorem dL_law_844 : decode code 844 = .ok (.aload_n 1, 1) := by decide +kernel
theorem dL_law_845 : decode code 845 = .ok (.aload_n 0, 1) := by decide +kernel
theorem dL_law_846 : decode code 846 = .ok (.iload_n 3, 1) := by decide +kernel
theorem dL_law_847 : decode code 847 = .ok (.iconst 1, 1) := by decide +kernel
theorem dL_law_848 : decode code 848 = .ok (.iadd, 1) := by decide +kernel
theorem dL_law_849 : decode code 849 = .ok (.iaload, 1) := by decide +kernel
theorem dL_law_850 : decode code 850 = .ok (.aload_n 0, 1) := by decide +kernel
theorem dL_law_851 : decode code 851 = .ok (.iload_n 3, 1) := by decide +kernel
theorem dL_law_852 : decode code 852 = .ok (.iconst 2, 1) := by decide +kernel
theorem dL_law_853 : decode code 853 = .ok (.iadd, 1) := by decide +kernel
theorem dL_law_854 : decode code 854 = .ok (.iaload, 1) := by decide +kernel
theorem dL_law_855 : decode code 855 = .ok (.aload_n 0, 1) := by decide +kernel
theorem dL_law_856 : decode code 856 = .ok (.iload_n 3, 1) := by decide +kernel
theorem dL_law_857 : decode code 857 = .ok (.iconst 3, 1) := by decide +kernel
theorem dL_law_858 : decode code 858 = .ok (.iadd, 1) := by decide +kernel
theorem dL_law_859 : decode code 859 = .ok (.iaload, 1) := by decide +kernel
theorem dL_law_860 : decode code 860 = .ok (.aload_n 0, 1) := by decide +kernel
theorem dL_law_861 : decode code 861 = .ok (.iload_n 3, 1) := by decide +kernel
theorem dL_law_862 : decode code 862 = .ok (.iconst 4, 1) := by decide +kernel
theorem dL_law_863 : decode code 863 = .ok (.iadd, 1) := by decide +kernel
theorem dL_law_864 : decode code 864 = .ok (.iaload, 1) := by decide +kernel
theorem dL_law_865 : decode code 865 = .ok (.invokevirtual 118, 3) := by decide +kernel
theorem dL_law_868 : decode code 868 = .ok (.aload_n 2, 1) := by decide +kernel
theorem dL_law_869 : decode code 869 = .ok (.aload_n 0, 1) := by decide +kernel
theorem dL_law_870 : decode code 870 = .ok (.iload_n 3, 1) := by decide +kernel
theorem dL_law_871 : decode code 871 = .ok (.iconst 1, 1) := by decide +kernel
theorem dL_law_872 : decode code 872 = .ok (.iadd, 1) := by decide +kernel
theorem dL_law_873 : decode code 873 = .ok (.iaload, 1) := by decide +kernel
theorem dL_law_874 : decode code 874 = .ok (.aload_n 0, 1) := by decide +kernel
theorem dL_law_875 : decode code 875 = .ok (.iload_n 3, 1) := by decide +kernel
theorem dL_law_876 : decode code 876 = .ok (.iconst 2, 1) := by decide +kernel
theorem dL_law_877 : decode code 877 = .ok (.iadd, 1) := by decide +kernel
theorem dL_law_878 : decode code 878 = .ok (.iaload, 1) := by decide +kernel
theorem dL_law_879 : decode code 879 = .ok (.aload_n 0, 1) := by decide +kernel
theorem dL_law_880 : decode code 880 = .ok (.iload_n 3, 1) := by decide +kernel
theorem dL_law_881 : decode code 881 = .ok (.iconst 3, 1) := by decide +kernel
theorem dL_law_882 : decode code 882 = .ok (.iadd, 1) := by decide +kernel
theorem dL_law_883 : decode code 883 = .ok (.iaload, 1) := by decide +kernel
theorem dL_law_884 : decode code 884 = .ok (.aload_n 0, 1) := by decide +kernel
theorem dL_law_885 : decode code 885 = .ok (.iload_n 3, 1) := by decide +kernel
theorem dL_law_886 : decode code 886 = .ok (.iconst 4, 1) := by decide +kernel
theorem dL_law_887 : decode code 887 = .ok (.iadd, 1) := by decide +kernel
theorem dL_law_888 : decode code 888 = .ok (.iaload, 1) := by decide +kernel
theorem dL_law_889 : decode code 889 = .ok (.invokevirtual 121, 3) := by decide +kernel
theorem dL_law_892 : decode code 892 = .ok (.if_icmp .eq 377, 3) := by decide +kernel
theorem dL_law_895 : decode code 895 = .ok (.iconst 0, 1) := by decide +kernel
theorem dL_law_896 : decode code 896 = .ok (.ireturn, 1) := by decide +kernel
theorem dL_law_897 : decode code 897 = .ok (.aload_n 1, 1) := by decide +kernel
theorem dL_law_898 : decode code 898 = .ok (.invokevirtual 122, 3) := by decide +kernel
theorem dL_law_901 : decode code 901 = .ok (.aload_n 2, 1) := by decide +kernel
theorem dL_law_902 : decode code 902 = .ok (.invokevirtual 125, 3) := by decide +kernel
theorem dL_law_905 : decode code 905 = .ok (.if_icmp .eq 364, 3) := by decide +kernel
theorem dL_law_908 : decode code 908 = .ok (.iconst 0, 1) := by decide +kernel
theorem dL_law_909 : decode code 909 = .ok (.ireturn, 1) := by decide +kernel
theorem dL_law_910 : decode code 910 = .ok (.aload_n 1, 1) := by decide +kernel
theorem dL_law_911 : decode code 911 = .ok (.aload_n 0, 1) := by decide +kernel
theorem dL_law_912 : decode code 912 = .ok (.iload_n 3, 1) := by decide +kernel
theorem dL_law_913 : decode code 913 = .ok (.iconst 1, 1) := by decide +kernel
theorem dL_law_914 : decode code 914 = .ok (.iadd, 1) := by decide +kernel
theorem dL_law_915 : decode code 915 = .ok (.iaload, 1) := by decide +kernel
theorem dL_law_916 : decode code 916 = .ok (.invokevirtual 126, 3) := by decide +kernel
theorem dL_law_919 : decode code 919 = .ok (.aload_n 2, 1) := by decide +kernel
theorem dL_law_920 : decode code 920 = .ok (.aload_n 0, 1) := by decide +kernel
theorem dL_law_921 : decode code 921 = .ok (.iload_n 3, 1) := by decide +kernel
theorem dL_law_922 : decode code 922 = .ok (.iconst 1, 1) := by decide +kernel
theorem dL_law_923 : decode code 923 = .ok (.iadd, 1) := by decide +kernel
theorem dL_law_924 : decode code 924 = .ok (.iaload, 1) := by decide +kernel
theorem dL_law_925 : decode code 925 = .ok (.invokevirtual 129, 3) := by decide +kernel
theorem dL_law_928 : decode code 928 = .ok (.if_icmp .eq 341, 3) := by decide +kernel
theorem dL_law_931 : decode code 931 = .ok (.iconst 0, 1) := by decide +kernel
theorem dL_law_932 : decode code 932 = .ok (.ireturn, 1) := by decide +kernel
theorem dL_law_933 : decode code 933 = .ok (.aload_n 1, 1) := by decide +kernel
theorem dL_law_934 : decode code 934 = .ok (.invokevirtual 130, 3) := by decide +kernel
theorem dL_law_937 : decode code 937 = .ok (.aload_n 2, 1) := by decide +kernel
theorem dL_law_938 : decode code 938 = .ok (.invokevirtual 133, 3) := by decide +kernel
theorem dL_law_941 : decode code 941 = .ok (.if_icmp .eq 328, 3) := by decide +kernel
theorem dL_law_944 : decode code 944 = .ok (.iconst 0, 1) := by decide +kernel
theorem dL_law_945 : decode code 945 = .ok (.ireturn, 1) := by decide +kernel
theorem dL_law_946 : decode code 946 = .ok (.aload_n 1, 1) := by decide +kernel
theorem dL_law_947 : decode code 947 = .ok (.aload_n 0, 1) := by decide +kernel
theorem dL_law_948 : decode code 948 = .ok (.iload_n 3, 1) := by decide +kernel
theorem dL_law_949 : decode code 949 = .ok (.iconst 1, 1) := by decide +kernel
theorem dL_law_950 : decode code 950 = .ok (.iadd, 1) := by decide +kernel
theorem dL_law_951 : decode code 951 = .ok (.iaload, 1) := by decide +kernel
theorem dL_law_952 : decode code 952 = .ok (.invokevirtual 134, 3) := by decide +kernel
theorem dL_law_955 : decode code 955 = .ok (.aload_n 2, 1) := by decide +kernel
theorem dL_law_956 : decode code 956 = .ok (.aload_n 0, 1) := by decide +kernel
theorem dL_law_957 : decode code 957 = .ok (.iload_n 3, 1) := by decide +kernel
theorem dL_law_958 : decode code 958 = .ok (.iconst 1, 1) := by decide +kernel
theorem dL_law_959 : decode code 959 = .ok (.iadd, 1) := by decide +kernel
theorem dL_law_960 : decode code 960 = .ok (.iaload, 1) := by decide +kernel
theorem dL_law_961 : decode code 961 = .ok (.invokevirtual 137, 3) := by decide +kernel
theorem dL_law_964 : decode code 964 = .ok (.if_icmp .eq 305, 3) := by decide +kernel
theorem dL_law_967 : decode code 967 = .ok (.iconst 0, 1) := by decide +kernel
theorem dL_law_968 : decode code 968 = .ok (.ireturn, 1) := by decide +kernel
theorem dL_law_969 : decode code 969 = .ok (.aload_n 1, 1) := by decide +kernel
theorem dL_law_970 : decode code 970 = .ok (.invokevirtual 138, 3) := by decide +kernel
theorem dL_law_973 : decode code 973 = .ok (.aload_n 2, 1) := by decide +kernel
theorem dL_law_974 : decode code 974 = .ok (.invokevirtual 141, 3) := by decide +kernel
theorem dL_law_977 : decode code 977 = .ok (.if_icmp .eq 292, 3) := by decide +kernel
theorem dL_law_980 : decode code 980 = .ok (.iconst 0, 1) := by decide +kernel
theorem dL_law_981 : decode code 981 = .ok (.ireturn, 1) := by decide +kernel
theorem dL_law_982 : decode code 982 = .ok (.aload_n 1, 1) := by decide +kernel
theorem dL_law_983 : decode code 983 = .ok (.aload_n 0, 1) := by decide +kernel
theorem dL_law_984 : decode code 984 = .ok (.iload_n 3, 1) := by decide +kernel
theorem dL_law_985 : decode code 985 = .ok (.iconst 1, 1) := by decide +kernel
theorem dL_law_986 : decode code 986 = .ok (.iadd, 1) := by decide +kernel
theorem dL_law_987 : decode code 987 = .ok (.iaload, 1) := by decide +kernel
theorem dL_law_988 : decode code 988 = .ok (.invokevirtual 142, 3) := by decide +kernel
theorem dL_law_991 : decode code 991 = .ok (.aload_n 2, 1) := by decide +kernel
theorem dL_law_992 : decode code 992 = .ok (.aload_n 0, 1) := by decide +kernel
theorem dL_law_993 : decode code 993 = .ok (.iload_n 3, 1) := by decide +kernel
theorem dL_law_994 : decode code 994 = .ok (.iconst 1, 1) := by decide +kernel
theorem dL_law_995 : decode code 995 = .ok (.iadd, 1) := by decide +kernel
theorem dL_law_996 : decode code 996 = .ok (.iaload, 1) := by decide +kernel
theorem dL_law_997 : decode code 997 = .ok (.invokevirtual 145, 3) := by decide +kernel
theorem dL_law_1000 : decode code 1000 = .ok (.if_icmp .eq 269, 3) := by decide +kernel
theorem dL_law_1003 : decode code 1003 = .ok (.iconst 0, 1) := by decide +kernel
theorem dL_law_1004 : decode code 1004 = .ok (.ireturn, 1) := by decide +kernel
theorem dL_law_1005 : decode code 1005 = .ok (.aload_n 1, 1) := by decide +kernel
theorem dL_law_1006 : decode code 1006 = .ok (.aload_n 0, 1) := by decide +kernel
theorem dL_law_1007 : decode code 1007 = .ok (.iload_n 3, 1) := by decide +kernel
theorem dL_law_1008 : decode code 1008 = .ok (.iconst 1, 1) := by decide +kernel
theorem dL_law_1009 : decode code 1009 = .ok (.iadd, 1) := by decide +kernel
theorem dL_law_1010 : decode code 1010 = .ok (.iaload, 1) := by decide +kernel
theorem dL_law_1011 : decode code 1011 = .ok (.aload_n 0, 1) := by decide +kernel
theorem dL_law_1012 : decode code 1012 = .ok (.iload_n 3, 1) := by decide +kernel
theorem dL_law_1013 : decode code 1013 = .ok (.iconst 2, 1) := by decide +kernel
theorem dL_law_1014 : decode code 1014 = .ok (.iadd, 1) := by decide +kernel
theorem dL_law_1015 : decode code 1015 = .ok (.iaload, 1) := by decide +kernel
theorem dL_law_1016 : decode code 1016 = .ok (.invokevirtual 146, 3) := by decide +kernel
theorem dL_law_1019 : decode code 1019 = .ok (.aload_n 2, 1) := by decide +kernel
theorem dL_law_1020 : decode code 1020 = .ok (.aload_n 0, 1) := by decide +kernel
theorem dL_law_1021 : decode code 1021 = .ok (.iload_n 3, 1) := by decide +kernel
theorem dL_law_1022 : decode code 1022 = .ok (.iconst 1, 1) := by decide +kernel
theorem dL_law_1023 : decode code 1023 = .ok (.iadd, 1) := by decide +kernel
theorem dL_law_1024 : decode code 1024 = .ok (.iaload, 1) := by decide +kernel
theorem dL_law_1025 : decode code 1025 = .ok (.aload_n 0, 1) := by decide +kernel
theorem dL_law_1026 : decode code 1026 = .ok (.iload_n 3, 1) := by decide +kernel
theorem dL_law_1027 : decode code 1027 = .ok (.iconst 2, 1) := by decide +kernel
theorem dL_law_1028 : decode code 1028 = .ok (.iadd, 1) := by decide +kernel
theorem dL_law_1029 : decode code 1029 = .ok (.iaload, 1) := by decide +kernel
theorem dL_law_1030 : decode code 1030 = .ok (.invokevirtual 149, 3) := by decide +kernel
theorem dL_law_1033 : decode code 1033 = .ok (.if_icmp .eq 236, 3) := by decide +kernel
theorem dL_law_1036 : decode code 1036 = .ok (.iconst 0, 1) := by decide +kernel
theorem dL_law_1037 : decode code 1037 = .ok (.ireturn, 1) := by decide +kernel
theorem dL_law_1038 : decode code 1038 = .ok (.aload_n 1, 1) := by decide +kernel
theorem dL_law_1039 : decode code 1039 = .ok (.aload_n 0, 1) := by decide +kernel
theorem dL_law_1040 : decode code 1040 = .ok (.iload_n 3, 1) := by decide +kernel
theorem dL_law_1041 : decode code 1041 = .ok (.iconst 1, 1) := by decide +kernel
theorem dL_law_1042 : decode code 1042 = .ok (.iadd, 1) := by decide +kernel
theorem dL_law_1043 : decode code 1043 = .ok (.iaload, 1) := by decide +kernel
theorem dL_law_1044 : decode code 1044 = .ok (.invokevirtual 150, 3) := by decide +kernel
theorem dL_law_1047 : decode code 1047 = .ok (.aload_n 2, 1) := by decide +kernel
theorem dL_law_1048 : decode code 1048 = .ok (.aload_n 0, 1) := by decide +kernel
theorem dL_law_1049 : decode code 1049 = .ok (.iload_n 3, 1) := by decide +kernel
theorem dL_law_1050 : decode code 1050 = .ok (.iconst 1, 1) := by decide +kernel
theorem dL_law_1051 : decode code 1051 = .ok (.iadd, 1) := by decide +kernel
theorem dL_law_1052 : decode code 1052 = .ok (.iaload, 1) := by decide +kernel
theorem dL_law_1053 : decode code 1053 = .ok (.invokevirtual 153, 3) := by decide +kernel
theorem dL_law_1056 : decode code 1056 = .ok (.if_icmp .eq 213, 3) := by decide +kernel
theorem dL_law_1059 : decode code 1059 = .ok (.iconst 0, 1) := by decide +kernel
theorem dL_law_1060 : decode code 1060 = .ok (.ireturn, 1) := by decide +kernel
theorem dL_law_1061 : decode code 1061 = .ok (.aload_n 1, 1) := by decide +kernel
theorem dL_law_1062 : decode code 1062 = .ok (.aload_n 0, 1) := by decide +kernel
theorem dL_law_1063 : decode code 1063 = .ok (.iload_n 3, 1) := by decide +kernel
theorem dL_law_1064 : decode code 1064 = .ok (.iconst 1, 1) := by decide +kernel
theorem dL_law_1065 : decode code 1065 = .ok (.iadd, 1) := by decide +kernel
theorem dL_law_1066 : decode code 1066 = .ok (.iaload, 1) := by decide +kernel
theorem dL_law_1067 : decode code 1067 = .ok (.invokevirtual 154, 3) := by decide +kernel
theorem dL_law_1070 : decode code 1070 = .ok (.aload_n 2, 1) := by decide +kernel
theorem dL_law_1071 : decode code 1071 = .ok (.aload_n 0, 1) := by decide +kernel
theorem dL_law_1072 : decode code 1072 = .ok (.iload_n 3, 1) := by decide +kernel
theorem dL_law_1073 : decode code 1073 = .ok (.iconst 1, 1) := by decide +kernel
theorem dL_law_1074 : decode code 1074 = .ok (.iadd, 1) := by decide +kernel
theorem dL_law_1075 : decode code 1075 = .ok (.iaload, 1) := by decide +kernel
theorem dL_law_1076 : decode code 1076 = .ok (.invokevirtual 157, 3) := by decide +kernel
theorem dL_law_1079 : decode code 1079 = .ok (.if_icmp .eq 190, 3) := by decide +kernel
theorem dL_law_1082 : decode code 1082 = .ok (.iconst 0, 1) := by decide +kernel
theorem dL_law_1083 : decode code 1083 = .ok (.ireturn, 1) := by decide +kernel
theorem dL_law_1084 : decode code 1084 = .ok (.aload_n 1, 1) := by decide +kernel
theorem dL_law_1085 : decode code 1085 = .ok (.aload_n 0, 1) := by decide +kernel
theorem dL_law_1086 : decode code 1086 = .ok (.iload_n 3, 1) := by decide +kernel
theorem dL_law_1087 : decode code 1087 = .ok (.iconst 1, 1) := by decide +kernel
theorem dL_law_1088 : decode code 1088 = .ok (.iadd, 1) := by decide +kernel
theorem dL_law_1089 : decode code 1089 = .ok (.iaload, 1) := by decide +kernel
theorem dL_law_1090 : decode code 1090 = .ok (.invokevirtual 158, 3) := by decide +kernel
theorem dL_law_1093 : decode code 1093 = .ok (.aload_n 2, 1) := by decide +kernel
theorem dL_law_1094 : decode code 1094 = .ok (.aload_n 0, 1) := by decide +kernel
theorem dL_law_1095 : decode code 1095 = .ok (.iload_n 3, 1) := by decide +kernel
theorem dL_law_1096 : decode code 1096 = .ok (.iconst 1, 1) := by decide +kernel
theorem dL_law_1097 : decode code 1097 = .ok (.iadd, 1) := by decide +kernel
theorem dL_law_1098 : decode code 1098 = .ok (.iaload, 1) := by decide +kernel
theorem dL_law_1099 : decode code 1099 = .ok (.invokevirtual 161, 3) := by decide +kernel
theorem dL_law_1102 : decode code 1102 = .ok (.if_icmp .eq 167, 3) := by decide +kernel
theorem dL_law_1105 : decode code 1105 = .ok (.iconst 0, 1) := by decide +kernel
theorem dL_law_1106 : decode code 1106 = .ok (.ireturn, 1) := by decide +kernel
theorem dL_law_1107 : decode code 1107 = .ok (.aload_n 1, 1) := by decide +kernel
theorem dL_law_1108 : decode code 1108 = .ok (.aload_n 0, 1) := by decide +kernel
theorem dL_law_1109 : decode code 1109 = .ok (.iload_n 3, 1) := by decide +kernel
theorem dL_law_1110 : decode code 1110 = .ok (.iconst 1, 1) := by decide +kernel
theorem dL_law_1111 : decode code 1111 = .ok (.iadd, 1) := by decide +kernel
theorem dL_law_1112 : decode code 1112 = .ok (.iaload, 1) := by decide +kernel
theorem dL_law_1113 : decode code 1113 = .ok (.aload_n 0, 1) := by decide +kernel
theorem dL_law_1114 : decode code 1114 = .ok (.iload_n 3, 1) := by decide +kernel
theorem dL_law_1115 : decode code 1115 = .ok (.iconst 2, 1) := by decide +kernel
theorem dL_law_1116 : decode code 1116 = .ok (.iadd, 1) := by decide +kernel
theorem dL_law_1117 : decode code 1117 = .ok (.iaload, 1) := by decide +kernel
theorem dL_law_1118 : decode code 1118 = .ok (.aload_n 0, 1) := by decide +kernel
theorem dL_law_1119 : decode code 1119 = .ok (.iload_n 3, 1) := by decide +kernel
theorem dL_law_1120 : decode code 1120 = .ok (.iconst 3, 1) := by decide +kernel
theorem dL_law_1121 : decode code 1121 = .ok (.iadd, 1) := by decide +kernel
theorem dL_law_1122 : decode code 1122 = .ok (.iaload, 1) := by decide +kernel
theorem dL_law_1123 : decode code 1123 = .ok (.invokevirtual 162, 3) := by decide +kernel
theorem dL_law_1126 : decode code 1126 = .ok (.aload_n 2, 1) := by decide +kernel
theorem dL_law_1127 : decode code 1127 = .ok (.aload_n 0, 1) := by decide +kernel
theorem dL_law_1128 : decode code 1128 = .ok (.iload_n 3, 1) := by decide +kernel
theorem dL_law_1129 : decode code 1129 = .ok (.iconst 1, 1) := by decide +kernel
theorem dL_law_1130 : decode code 1130 = .ok (.iadd, 1) := by decide +kernel
theorem dL_law_1131 : decode code 1131 = .ok (.iaload, 1) := by decide +kernel
theorem dL_law_1132 : decode code 1132 = .ok (.aload_n 0, 1) := by decide +kernel
theorem dL_law_1133 : decode code 1133 = .ok (.iload_n 3, 1) := by decide +kernel
theorem dL_law_1134 : decode code 1134 = .ok (.iconst 2, 1) := by decide +kernel
theorem dL_law_1135 : decode code 1135 = .ok (.iadd, 1) := by decide +kernel
theorem dL_law_1136 : decode code 1136 = .ok (.iaload, 1) := by decide +kernel
theorem dL_law_1137 : decode code 1137 = .ok (.aload_n 0, 1) := by decide +kernel
theorem dL_law_1138 : decode code 1138 = .ok (.iload_n 3, 1) := by decide +kernel
theorem dL_law_1139 : decode code 1139 = .ok (.iconst 3, 1) := by decide +kernel
theorem dL_law_1140 : decode code 1140 = .ok (.iadd, 1) := by decide +kernel
theorem dL_law_1141 : decode code 1141 = .ok (.iaload, 1) := by decide +kernel
theorem dL_law_1142 : decode code 1142 = .ok (.invokevirtual 166, 3) := by decide +kernel
theorem dL_law_1145 : decode code 1145 = .ok (.if_icmp .eq 124, 3) := by decide +kernel
theorem dL_law_1148 : decode code 1148 = .ok (.iconst 0, 1) := by decide +kernel
theorem dL_law_1149 : decode code 1149 = .ok (.ireturn, 1) := by decide +kernel
theorem dL_law_1150 : decode code 1150 = .ok (.aload_n 1, 1) := by decide +kernel
theorem dL_law_1151 : decode code 1151 = .ok (.aload_n 0, 1) := by decide +kernel
theorem dL_law_1152 : decode code 1152 = .ok (.iload_n 3, 1) := by decide +kernel
theorem dL_law_1153 : decode code 1153 = .ok (.iconst 1, 1) := by decide +kernel
theorem dL_law_1154 : decode code 1154 = .ok (.iadd, 1) := by decide +kernel
theorem dL_law_1155 : decode code 1155 = .ok (.iaload, 1) := by decide +kernel
theorem dL_law_1156 : decode code 1156 = .ok (.aload_n 0, 1) := by decide +kernel
theorem dL_law_1157 : decode code 1157 = .ok (.iload_n 3, 1) := by decide +kernel
theorem dL_law_1158 : decode code 1158 = .ok (.iconst 2, 1) := by decide +kernel
theorem dL_law_1159 : decode code 1159 = .ok (.iadd, 1) := by decide +kernel
theorem dL_law_1160 : decode code 1160 = .ok (.iaload, 1) := by decide +kernel
theorem dL_law_1161 : decode code 1161 = .ok (.aload_n 0, 1) := by decide +kernel
theorem dL_law_1162 : decode code 1162 = .ok (.iload_n 3, 1) := by decide +kernel
theorem dL_law_1163 : decode code 1163 = .ok (.iconst 3, 1) := by decide +kernel
theorem dL_law_1164 : decode code 1164 = .ok (.iadd, 1) := by decide +kernel
theorem dL_law_1165 : decode code 1165 = .ok (.iaload, 1) := by decide +kernel
theorem dL_law_1166 : decode code 1166 = .ok (.invokevirtual 167, 3) := by decide +kernel
theorem dL_law_1169 : decode code 1169 = .ok (.aload_n 2, 1) := by decide +kernel
theorem dL_law_1170 : decode code 1170 = .ok (.aload_n 0, 1) := by decide +kernel
theorem dL_law_1171 : decode code 1171 = .ok (.iload_n 3, 1) := by decide +kernel
theorem dL_law_1172 : decode code 1172 = .ok (.iconst 1, 1) := by decide +kernel
theorem dL_law_1173 : decode code 1173 = .ok (.iadd, 1) := by decide +kernel
theorem dL_law_1174 : decode code 1174 = .ok (.iaload, 1) := by decide +kernel
theorem dL_law_1175 : decode code 1175 = .ok (.aload_n 0, 1) := by decide +kernel
theorem dL_law_1176 : decode code 1176 = .ok (.iload_n 3, 1) := by decide +kernel
theorem dL_law_1177 : decode code 1177 = .ok (.iconst 2, 1) := by decide +kernel
theorem dL_law_1178 : decode code 1178 = .ok (.iadd, 1) := by decide +kernel
theorem dL_law_1179 : decode code 1179 = .ok (.iaload, 1) := by decide +kernel
theorem dL_law_1180 : decode code 1180 = .ok (.aload_n 0, 1) := by decide +kernel
theorem dL_law_1181 : decode code 1181 = .ok (.iload_n 3, 1) := by decide +kernel
theorem dL_law_1182 : decode code 1182 = .ok (.iconst 3, 1) := by decide +kernel
theorem dL_law_1183 : decode code 1183 = .ok (.iadd, 1) := by decide +kernel
theorem dL_law_1184 : decode code 1184 = .ok (.iaload, 1) := by decide +kernel
theorem dL_law_1185 : decode code 1185 = .ok (.invokevirtual 170, 3) := by decide +kernel
theorem dL_law_1188 : decode code 1188 = .ok (.if_icmp .eq 81, 3) := by decide +kernel
theorem dL_law_1191 : decode code 1191 = .ok (.iconst 0, 1) := by decide +kernel
theorem dL_law_1192 : decode code 1192 = .ok (.ireturn, 1) := by decide +kernel
theorem dL_law_1193 : decode code 1193 = .ok (.aload_n 1, 1) := by decide +kernel
theorem dL_law_1194 : decode code 1194 = .ok (.aload_n 0, 1) := by decide +kernel
theorem dL_law_1195 : decode code 1195 = .ok (.iload_n 3, 1) := by decide +kernel
theorem dL_law_1196 : decode code 1196 = .ok (.iconst 1, 1) := by decide +kernel
theorem dL_law_1197 : decode code 1197 = .ok (.iadd, 1) := by decide +kernel
theorem dL_law_1198 : decode code 1198 = .ok (.iaload, 1) := by decide +kernel
theorem dL_law_1199 : decode code 1199 = .ok (.aload_n 0, 1) := by decide +kernel
theorem dL_law_1200 : decode code 1200 = .ok (.iload_n 3, 1) := by decide +kernel
theorem dL_law_1201 : decode code 1201 = .ok (.iconst 2, 1) := by decide +kernel
theorem dL_law_1202 : decode code 1202 = .ok (.iadd, 1) := by decide +kernel
theorem dL_law_1203 : decode code 1203 = .ok (.iaload, 1) := by decide +kernel
theorem dL_law_1204 : decode code 1204 = .ok (.aload_n 0, 1) := by decide +kernel
theorem dL_law_1205 : decode code 1205 = .ok (.iload_n 3, 1) := by decide +kernel
theorem dL_law_1206 : decode code 1206 = .ok (.iconst 3, 1) := by decide +kernel
theorem dL_law_1207 : decode code 1207 = .ok (.iadd, 1) := by decide +kernel
theorem dL_law_1208 : decode code 1208 = .ok (.iaload, 1) := by decide +kernel
theorem dL_law_1209 : decode code 1209 = .ok (.invokevirtual 171, 3) := by decide +kernel
theorem dL_law_1212 : decode code 1212 = .ok (.aload_n 2, 1) := by decide +kernel
theorem dL_law_1213 : decode code 1213 = .ok (.aload_n 0, 1) := by decide +kernel
theorem dL_law_1214 : decode code 1214 = .ok (.iload_n 3, 1) := by decide +kernel
theorem dL_law_1215 : decode code 1215 = .ok (.iconst 1, 1) := by decide +kernel
theorem dL_law_1216 : decode code 1216 = .ok (.iadd, 1) := by decide +kernel
theorem dL_law_1217 : decode code 1217 = .ok (.iaload, 1) := by decide +kernel
theorem dL_law_1218 : decode code 1218 = .ok (.aload_n 0, 1) := by decide +kernel
theorem dL_law_1219 : decode code 1219 = .ok (.iload_n 3, 1) := by decide +kernel
theorem dL_law_1220 : decode code 1220 = .ok (.iconst 2, 1) := by decide +kernel
theorem dL_law_1221 : decode code 1221 = .ok (.iadd, 1) := by decide +kernel
theorem dL_law_1222 : decode code 1222 = .ok (.iaload, 1) := by decide +kernel
theorem dL_law_1223 : decode code 1223 = .ok (.aload_n 0, 1) := by decide +kernel
theorem dL_law_1224 : decode code 1224 = .ok (.iload_n 3, 1) := by decide +kernel
theorem dL_law_1225 : decode code 1225 = .ok (.iconst 3, 1) := by decide +kernel
theorem dL_law_1226 : decode code 1226 = .ok (.iadd, 1) := by decide +kernel
theorem dL_law_1227 : decode code 1227 = .ok (.iaload, 1) := by decide +kernel
theorem dL_law_1228 : decode code 1228 = .ok (.invokevirtual 174, 3) := by decide +kernel
theorem dL_law_1231 : decode code 1231 = .ok (.if_icmp .eq 38, 3) := by decide +kernel
theorem dL_law_1234 : decode code 1234 = .ok (.iconst 0, 1) := by decide +kernel
theorem dL_law_1235 : decode code 1235 = .ok (.ireturn, 1) := by decide +kernel
theorem dL_law_1236 : decode code 1236 = .ok (.aload_n 1, 1) := by decide +kernel
theorem dL_law_1237 : decode code 1237 = .ok (.aload_n 0, 1) := by decide +kernel
theorem dL_law_1238 : decode code 1238 = .ok (.iload_n 3, 1) := by decide +kernel
theorem dL_law_1239 : decode code 1239 = .ok (.iconst 1, 1) := by decide +kernel
theorem dL_law_1240 : decode code 1240 = .ok (.iadd, 1) := by decide +kernel
theorem dL_law_1241 : decode code 1241 = .ok (.iaload, 1) := by decide +kernel
theorem dL_law_1242 : decode code 1242 = .ok (.aload_n 0, 1) := by decide +kernel
theorem dL_law_1243 : decode code 1243 = .ok (.iload_n 3, 1) := by decide +kernel
theorem dL_law_1244 : decode code 1244 = .ok (.iconst 2, 1) := by decide +kernel
theorem dL_law_1245 : decode code 1245 = .ok (.iadd, 1) := by decide +kernel
theorem dL_law_1246 : decode code 1246 = .ok (.iaload, 1) := by decide +kernel
theorem dL_law_1247 : decode code 1247 = .ok (.invokevirtual 175, 3) := by decide +kernel
theorem dL_law_1250 : decode code 1250 = .ok (.aload_n 2, 1) := by decide +kernel
theorem dL_law_1251 : decode code 1251 = .ok (.aload_n 0, 1) := by decide +kernel
theorem dL_law_1252 : decode code 1252 = .ok (.iload_n 3, 1) := by decide +kernel
theorem dL_law_1253 : decode code 1253 = .ok (.iconst 1, 1) := by decide +kernel
theorem dL_law_1254 : decode code 1254 = .ok (.iadd, 1) := by decide +kernel
theorem dL_law_1255 : decode code 1255 = .ok (.iaload, 1) := by decide +kernel
theorem dL_law_1256 : decode code 1256 = .ok (.aload_n 0, 1) := by decide +kernel
theorem dL_law_1257 : decode code 1257 = .ok (.iload_n 3, 1) := by decide +kernel
theorem dL_law_1258 : decode code 1258 = .ok (.iconst 2, 1) := by decide +kernel
theorem dL_law_1259 : decode code 1259 = .ok (.iadd, 1) := by decide +kernel
theorem dL_law_1260 : decode code 1260 = .ok (.iaload, 1) := by decide +kernel
theorem dL_law_1261 : decode code 1261 = .ok (.invokevirtual 178, 3) := by decide +kernel
theorem dL_law_1264 : decode code 1264 = .ok (.if_icmp .eq 5, 3) := by decide +kernel
theorem dL_law_1267 : decode code 1267 = .ok (.iconst 0, 1) := by decide +kernel
theorem dL_law_1268 : decode code 1268 = .ok (.ireturn, 1) := by decide +kernel
theorem dL_law_1269 : decode code 1269 = .ok (.iinc 3 5, 3) := by decide +kernel
theorem dL_law_1272 : decode code 1272 = .ok (.goto (-1254), 3) := by decide +kernel
theorem dL_law_1275 : decode code 1275 = .ok (.iconst 1, 1) := by decide +kernel
theorem dL_law_1276 : decode code 1276 = .ok (.ireturn, 1) := by decide +kernel
