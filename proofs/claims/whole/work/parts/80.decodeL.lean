/-! decode rows of the law (by program: wip/whole/gen_law.py) -/
theorem d_law_0 : decode code 0 = .ok (.new 7, 3) := by decide +kernel
theorem d_law_3 : decode code 3 = .ok (.dup, 1) := by decide +kernel
theorem d_law_4 : decode code 4 = .ok (.invokespecial 9, 3) := by decide +kernel
theorem d_law_7 : decode code 7 = .ok (.astore_n 1, 1) := by decide +kernel
theorem d_law_8 : decode code 8 = .ok (.new 10, 3) := by decide +kernel
theorem d_law_11 : decode code 11 = .ok (.dup, 1) := by decide +kernel
theorem d_law_12 : decode code 12 = .ok (.invokespecial 12, 3) := by decide +kernel
theorem d_law_15 : decode code 15 = .ok (.astore_n 2, 1) := by decide +kernel
theorem d_law_16 : decode code 16 = .ok (.iconst 0, 1) := by decide +kernel
theorem d_law_17 : decode code 17 = .ok (.istore_n 3, 1) := by decide +kernel
theorem d_law_18 : decode code 18 = .ok (.iload_n 3, 1) := by decide +kernel
theorem d_law_19 : decode code 19 = .ok (.aload_n 0, 1) := by decide +kernel
theorem d_law_20 : decode code 20 = .ok (.arraylength, 1) := by decide +kernel
theorem d_law_21 : decode code 21 = .ok (.bipush 6, 2) := by decide +kernel
theorem d_law_23 : decode code 23 = .ok (.isub, 1) := by decide +kernel
theorem d_law_24 : decode code 24 = .ok (.if_icmp .gt 1368, 3) := by decide +kernel
theorem d_law_27 : decode code 27 = .ok (.aload_n 0, 1) := by decide +kernel
theorem d_law_28 : decode code 28 = .ok (.iload_n 3, 1) := by decide +kernel
theorem d_law_29 : decode code 29 = .ok (.iaload, 1) := by decide +kernel
theorem d_law_30 : decode code 30 = .ok (.bipush 63, 2) := by decide +kernel
theorem d_law_32 : decode code 32 = .ok (.iand, 1) := by decide +kernel
theorem d_law_33 : decode code 33 = .ok (.tableswitch 1353 0 44 #[195, 228, 271, 304, 327, 390, 413, 446, 489, 512, 535, 568, 601, 634, 667, 700, 723, 756, 769, 792, 815, 838, 881, 904, 937, 960, 983, 1006, 1019, 1052, 1065, 1078, 1091, 1114, 1147, 1170, 1193, 1206, 1239, 1252, 1266, 1280, 1303, 1316, 1339], 195) := by decide +kernel
theorem d_law_228 : decode code 228 = .ok (.aload_n 1, 1) := by decide +kernel
theorem d_law_229 : decode code 229 = .ok (.aload_n 0, 1) := by decide +kernel
theorem d_law_230 : decode code 230 = .ok (.iload_n 3, 1) := by decide +kernel
theorem d_law_231 : decode code 231 = .ok (.iconst 1, 1) := by decide +kernel
theorem d_law_232 : decode code 232 = .ok (.iadd, 1) := by decide +kernel
theorem d_law_233 : decode code 233 = .ok (.iaload, 1) := by decide +kernel
theorem d_law_234 : decode code 234 = .ok (.aload_n 0, 1) := by decide +kernel
theorem d_law_235 : decode code 235 = .ok (.iload_n 3, 1) := by decide +kernel
theorem d_law_236 : decode code 236 = .ok (.iconst 2, 1) := by decide +kernel
theorem d_law_237 : decode code 237 = .ok (.iadd, 1) := by decide +kernel
theorem d_law_238 : decode code 238 = .ok (.iaload, 1) := by decide +kernel
theorem d_law_239 : decode code 239 = .ok (.invokevirtual 13, 3) := by decide +kernel
theorem d_law_242 : decode code 242 = .ok (.aload_n 2, 1) := by decide +kernel
theorem d_law_243 : decode code 243 = .ok (.aload_n 0, 1) := by decide +kernel
theorem d_law_244 : decode code 244 = .ok (.iload_n 3, 1) := by decide +kernel
theorem d_law_245 : decode code 245 = .ok (.iconst 1, 1) := by decide +kernel
theorem d_law_246 : decode code 246 = .ok (.iadd, 1) := by decide +kernel
theorem d_law_247 : decode code 247 = .ok (.iaload, 1) := by decide +kernel
theorem d_law_248 : decode code 248 = .ok (.aload_n 0, 1) := by decide +kernel
theorem d_law_249 : decode code 249 = .ok (.iload_n 3, 1) := by decide +kernel
theorem d_law_250 : decode code 250 = .ok (.iconst 2, 1) := by decide +kernel
theorem d_law_251 : decode code 251 = .ok (.iadd, 1) := by decide +kernel
theorem d_law_252 : decode code 252 = .ok (.iaload, 1) := by decide +kernel
theorem d_law_253 : decode code 253 = .ok (.invokevirtual 17, 3) := by decide +kernel
theorem d_law_256 : decode code 256 = .ok (.if_icmp .eq 1130, 3) := by decide +kernel
theorem d_law_259 : decode code 259 = .ok (.iconst 0, 1) := by decide +kernel
theorem d_law_260 : decode code 260 = .ok (.ireturn, 1) := by decide +kernel
theorem d_law_261 : decode code 261 = .ok (.aload_n 1, 1) := by decide +kernel
theorem d_law_262 : decode code 262 = .ok (.aload_n 0, 1) := by decide +kernel
theorem d_law_263 : decode code 263 = .ok (.iload_n 3, 1) := by decide +kernel
theorem d_law_264 : decode code 264 = .ok (.iconst 1, 1) := by decide +kernel
theorem d_law_265 : decode code 265 = .ok (.iadd, 1) := by decide +kernel
theorem d_law_266 : decode code 266 = .ok (.iaload, 1) := by decide +kernel
theorem d_law_267 : decode code 267 = .ok (.aload_n 0, 1) := by decide +kernel
theorem d_law_268 : decode code 268 = .ok (.iload_n 3, 1) := by decide +kernel
theorem d_law_269 : decode code 269 = .ok (.iconst 2, 1) := by decide +kernel
theorem d_law_270 : decode code 270 = .ok (.iadd, 1) := by decide +kernel
theorem d_law_271 : decode code 271 = .ok (.iaload, 1) := by decide +kernel
theorem d_law_272 : decode code 272 = .ok (.aload_n 0, 1) := by decide +kernel
theorem d_law_273 : decode code 273 = .ok (.iload_n 3, 1) := by decide +kernel
theorem d_law_274 : decode code 274 = .ok (.iconst 3, 1) := by decide +kernel
theorem d_law_275 : decode code 275 = .ok (.iadd, 1) := by decide +kernel
theorem d_law_276 : decode code 276 = .ok (.iaload, 1) := by decide +kernel
theorem d_law_277 : decode code 277 = .ok (.invokevirtual 18, 3) := by decide +kernel
theorem d_law_280 : decode code 280 = .ok (.aload_n 2, 1) := by decide +kernel
theorem d_law_281 : decode code 281 = .ok (.aload_n 0, 1) := by decide +kernel
theorem d_law_282 : decode code 282 = .ok (.iload_n 3, 1) := by decide +kernel
theorem d_law_283 : decode code 283 = .ok (.iconst 1, 1) := by decide +kernel
theorem d_law_284 : decode code 284 = .ok (.iadd, 1) := by decide +kernel
theorem d_law_285 : decode code 285 = .ok (.iaload, 1) := by decide +kernel
theorem d_law_286 : decode code 286 = .ok (.aload_n 0, 1) := by decide +kernel
theorem d_law_287 : decode code 287 = .ok (.iload_n 3, 1) := by decide +kernel
theorem d_law_288 : decode code 288 = .ok (.iconst 2, 1) := by decide +kernel
theorem d_law_289 : decode code 289 = .ok (.iadd, 1) := by decide +kernel
theorem d_law_290 : decode code 290 = .ok (.iaload, 1) := by decide +kernel
theorem d_law_291 : decode code 291 = .ok (.aload_n 0, 1) := by decide +kernel
theorem d_law_292 : decode code 292 = .ok (.iload_n 3, 1) := by decide +kernel
theorem d_law_293 : decode code 293 = .ok (.iconst 3, 1) := by decide +kernel
theorem d_law_294 : decode code 294 = .ok (.iadd, 1) := by decide +kernel
theorem d_law_295 : decode code 295 = .ok (.iaload, 1) := by decide +kernel
theorem d_law_296 : decode code 296 = .ok (.invokevirtual 22, 3) := by decide +kernel
theorem d_law_299 : decode code 299 = .ok (.if_icmp .eq 1087, 3) := by decide +kernel
theorem d_law_302 : decode code 302 = .ok (.iconst 0, 1) := by decide +kernel
theorem d_law_303 : decode code 303 = .ok (.ireturn, 1) := by decide +kernel
theorem d_law_304 : decode code 304 = .ok (.aload_n 1, 1) := by decide +kernel
theorem d_law_305 : decode code 305 = .ok (.aload_n 0, 1) := by decide +kernel
theorem d_law_306 : decode code 306 = .ok (.iload_n 3, 1) := by decide +kernel
theorem d_law_307 : decode code 307 = .ok (.iconst 1, 1) := by decide +kernel
theorem d_law_308 : decode code 308 = .ok (.iadd, 1) := by decide +kernel
theorem d_law_309 : decode code 309 = .ok (.iaload, 1) := by decide +kernel
theorem d_law_310 : decode code 310 = .ok (.aload_n 0, 1) := by decide +kernel
theorem d_law_311 : decode code 311 = .ok (.iload_n 3, 1) := by decide +kernel
theorem d_law_312 : decode code 312 = .ok (.iconst 2, 1) := by decide +kernel
theorem d_law_313 : decode code 313 = .ok (.iadd, 1) := by decide +kernel
theorem d_law_314 : decode code 314 = .ok (.iaload, 1) := by decide +kernel
theorem d_law_315 : decode code 315 = .ok (.invokevirtual 23, 3) := by decide +kernel
theorem d_law_318 : decode code 318 = .ok (.aload_n 2, 1) := by decide +kernel
theorem d_law_319 : decode code 319 = .ok (.aload_n 0, 1) := by decide +kernel
theorem d_law_320 : decode code 320 = .ok (.iload_n 3, 1) := by decide +kernel
theorem d_law_321 : decode code 321 = .ok (.iconst 1, 1) := by decide +kernel
theorem d_law_322 : decode code 322 = .ok (.iadd, 1) := by decide +kernel
theorem d_law_323 : decode code 323 = .ok (.iaload, 1) := by decide +kernel
theorem d_law_324 : decode code 324 = .ok (.aload_n 0, 1) := by decide +kernel
theorem d_law_325 : decode code 325 = .ok (.iload_n 3, 1) := by decide +kernel
theorem d_law_326 : decode code 326 = .ok (.iconst 2, 1) := by decide +kernel
theorem d_law_327 : decode code 327 = .ok (.iadd, 1) := by decide +kernel
theorem d_law_328 : decode code 328 = .ok (.iaload, 1) := by decide +kernel
theorem d_law_329 : decode code 329 = .ok (.invokevirtual 26, 3) := by decide +kernel
theorem d_law_332 : decode code 332 = .ok (.if_icmp .eq 1054, 3) := by decide +kernel
theorem d_law_335 : decode code 335 = .ok (.iconst 0, 1) := by decide +kernel
theorem d_law_336 : decode code 336 = .ok (.ireturn, 1) := by decide +kernel
theorem d_law_337 : decode code 337 = .ok (.aload_n 1, 1) := by decide +kernel
theorem d_law_338 : decode code 338 = .ok (.aload_n 0, 1) := by decide +kernel
theorem d_law_339 : decode code 339 = .ok (.iload_n 3, 1) := by decide +kernel
theorem d_law_340 : decode code 340 = .ok (.iconst 1, 1) := by decide +kernel
theorem d_law_341 : decode code 341 = .ok (.iadd, 1) := by decide +kernel
theorem d_law_342 : decode code 342 = .ok (.iaload, 1) := by decide +kernel
theorem d_law_343 : decode code 343 = .ok (.invokevirtual 27, 3) := by decide +kernel
theorem d_law_346 : decode code 346 = .ok (.aload_n 2, 1) := by decide +kernel
theorem d_law_347 : decode code 347 = .ok (.aload_n 0, 1) := by decide +kernel
theorem d_law_348 : decode code 348 = .ok (.iload_n 3, 1) := by decide +kernel
theorem d_law_349 : decode code 349 = .ok (.iconst 1, 1) := by decide +kernel
theorem d_law_350 : decode code 350 = .ok (.iadd, 1) := by decide +kernel
theorem d_law_351 : decode code 351 = .ok (.iaload, 1) := by decide +kernel
theorem d_law_352 : decode code 352 = .ok (.invokevirtual 31, 3) := by decide +kernel
theorem d_law_355 : decode code 355 = .ok (.if_icmp .eq 1031, 3) := by decide +kernel
theorem d_law_358 : decode code 358 = .ok (.iconst 0, 1) := by decide +kernel
theorem d_law_359 : decode code 359 = .ok (.ireturn, 1) := by decide +kernel
theorem d_law_360 : decode code 360 = .ok (.aload_n 1, 1) := by decide +kernel
theorem d_law_361 : decode code 361 = .ok (.aload_n 0, 1) := by decide +kernel
theorem d_law_362 : decode code 362 = .ok (.iload_n 3, 1) := by decide +kernel
theorem d_law_363 : decode code 363 = .ok (.iconst 1, 1) := by decide +kernel
theorem d_law_364 : decode code 364 = .ok (.iadd, 1) := by decide +kernel
theorem d_law_365 : decode code 365 = .ok (.iaload, 1) := by decide +kernel
theorem d_law_366 : decode code 366 = .ok (.aload_n 0, 1) := by decide +kernel
theorem d_law_367 : decode code 367 = .ok (.iload_n 3, 1) := by decide +kernel
theorem d_law_368 : decode code 368 = .ok (.iconst 2, 1) := by decide +kernel
theorem d_law_369 : decode code 369 = .ok (.iadd, 1) := by decide +kernel
theorem d_law_370 : decode code 370 = .ok (.iaload, 1) := by decide +kernel
theorem d_law_371 : decode code 371 = .ok (.aload_n 0, 1) := by decide +kernel
theorem d_law_372 : decode code 372 = .ok (.iload_n 3, 1) := by decide +kernel
theorem d_law_373 : decode code 373 = .ok (.iconst 3, 1) := by decide +kernel
theorem d_law_374 : decode code 374 = .ok (.iadd, 1) := by decide +kernel
theorem d_law_375 : decode code 375 = .ok (.iaload, 1) := by decide +kernel
theorem d_law_376 : decode code 376 = .ok (.aload_n 0, 1) := by decide +kernel
theorem d_law_377 : decode code 377 = .ok (.iload_n 3, 1) := by decide +kernel
theorem d_law_378 : decode code 378 = .ok (.iconst 4, 1) := by decide +kernel
theorem d_law_379 : decode code 379 = .ok (.iadd, 1) := by decide +kernel
theorem d_law_380 : decode code 380 = .ok (.iaload, 1) := by decide +kernel
theorem d_law_381 : decode code 381 = .ok (.aload_n 0, 1) := by decide +kernel
theorem d_law_382 : decode code 382 = .ok (.iload_n 3, 1) := by decide +kernel
theorem d_law_383 : decode code 383 = .ok (.iconst 5, 1) := by decide +kernel
theorem d_law_384 : decode code 384 = .ok (.iadd, 1) := by decide +kernel
theorem d_law_385 : decode code 385 = .ok (.iaload, 1) := by decide +kernel
theorem d_law_386 : decode code 386 = .ok (.invokevirtual 32, 3) := by decide +kernel
theorem d_law_389 : decode code 389 = .ok (.aload_n 2, 1) := by decide +kernel
theorem d_law_390 : decode code 390 = .ok (.aload_n 0, 1) := by decide +kernel
theorem d_law_391 : decode code 391 = .ok (.iload_n 3, 1) := by decide +kernel
theorem d_law_392 : decode code 392 = .ok (.iconst 1, 1) := by decide +kernel
theorem d_law_393 : decode code 393 = .ok (.iadd, 1) := by decide +kernel
theorem d_law_394 : decode code 394 = .ok (.iaload, 1) := by decide +kernel
theorem d_law_395 : decode code 395 = .ok (.aload_n 0, 1) := by decide +kernel
theorem d_law_396 : decode code 396 = .ok (.iload_n 3, 1) := by decide +kernel
theorem d_law_397 : decode code 397 = .ok (.iconst 2, 1) := by decide +kernel
theorem d_law_398 : decode code 398 = .ok (.iadd, 1) := by decide +kernel
theorem d_law_399 : decode code 399 = .ok (.iaload, 1) := by decide +kernel
theorem d_law_400 : decode code 400 = .ok (.aload_n 0, 1) := by decide +kernel
theorem d_law_401 : decode code 401 = .ok (.iload_n 3, 1) := by decide +kernel
theorem d_law_402 : decode code 402 = .ok (.iconst 3, 1) := by decide +kernel
theorem d_law_403 : decode code 403 = .ok (.iadd, 1) := by decide +kernel
theorem d_law_404 : decode code 404 = .ok (.iaload, 1) := by decide +kernel
theorem d_law_405 : decode code 405 = .ok (.aload_n 0, 1) := by decide +kernel
theorem d_law_406 : decode code 406 = .ok (.iload_n 3, 1) := by decide +kernel
theorem d_law_407 : decode code 407 = .ok (.iconst 4, 1) := by decide +kernel
theorem d_law_408 : decode code 408 = .ok (.iadd, 1) := by decide +kernel
theorem d_law_409 : decode code 409 = .ok (.iaload, 1) := by decide +kernel
theorem d_law_410 : decode code 410 = .ok (.aload_n 0, 1) := by decide +kernel
theorem d_law_411 : decode code 411 = .ok (.iload_n 3, 1) := by decide +kernel
theorem d_law_412 : decode code 412 = .ok (.iconst 5, 1) := by decide +kernel
theorem d_law_413 : decode code 413 = .ok (.iadd, 1) := by decide +kernel
theorem d_law_414 : decode code 414 = .ok (.iaload, 1) := by decide +kernel
theorem d_law_415 : decode code 415 = .ok (.invokevirtual 36, 3) := by decide +kernel
theorem d_law_418 : decode code 418 = .ok (.if_icmp .eq 968, 3) := by decide +kernel
theorem d_law_421 : decode code 421 = .ok (.iconst 0, 1) := by decide +kernel
theorem d_law_422 : decode code 422 = .ok (.ireturn, 1) := by decide +kernel
theorem d_law_423 : decode code 423 = .ok (.aload_n 1, 1) := by decide +kernel
theorem d_law_424 : decode code 424 = .ok (.aload_n 0, 1) := by decide +kernel
theorem d_law_425 : decode code 425 = .ok (.iload_n 3, 1) := by decide +kernel
theorem d_law_426 : decode code 426 = .ok (.iconst 1, 1) := by decide +kernel
theorem d_law_427 : decode code 427 = .ok (.iadd, 1) := by decide +kernel
theorem d_law_428 : decode code 428 = .ok (.iaload, 1) := by decide +kernel
theorem d_law_429 : decode code 429 = .ok (.invokevirtual 37, 3) := by decide +kernel
theorem d_law_432 : decode code 432 = .ok (.aload_n 2, 1) := by decide +kernel
theorem d_law_433 : decode code 433 = .ok (.aload_n 0, 1) := by decide +kernel
theorem d_law_434 : decode code 434 = .ok (.iload_n 3, 1) := by decide +kernel
theorem d_law_435 : decode code 435 = .ok (.iconst 1, 1) := by decide +kernel
theorem d_law_436 : decode code 436 = .ok (.iadd, 1) := by decide +kernel
theorem d_law_437 : decode code 437 = .ok (.iaload, 1) := by decide +kernel
theorem d_law_438 : decode code 438 = .ok (.invokevirtual 40, 3) := by decide +kernel
theorem d_law_441 : decode code 441 = .ok (.if_icmp .eq 945, 3) := by decide +kernel
theorem d_law_444 : decode code 444 = .ok (.iconst 0, 1) := by decide +kernel
theorem d_law_445 : decode code 445 = .ok (.ireturn, 1) := by decide +kernel
theorem d_law_446 : decode code 446 = .ok (.aload_n 1, 1) := by decide +kernel
theorem d_law_447 : decode code 447 = .ok (.aload_n 0, 1) := by decide +kernel
theorem d_law_448 : decode code 448 = .ok (.iload_n 3, 1) := by decide +kernel
theorem d_law_449 : decode code 449 = .ok (.iconst 1, 1) := by decide +kernel
theorem d_law_450 : decode code 450 = .ok (.iadd, 1) := by decide +kernel
theorem d_law_451 : decode code 451 = .ok (.iaload, 1) := by decide +kernel
theorem d_law_452 : decode code 452 = .ok (.aload_n 0, 1) := by decide +kernel
theorem d_law_453 : decode code 453 = .ok (.iload_n 3, 1) := by decide +kernel
theorem d_law_454 : decode code 454 = .ok (.iconst 2, 1) := by decide +kernel
theorem d_law_455 : decode code 455 = .ok (.iadd, 1) := by decide +kernel
theorem d_law_456 : decode code 456 = .ok (.iaload, 1) := by decide +kernel
theorem d_law_457 : decode code 457 = .ok (.invokevirtual 41, 3) := by decide +kernel
theorem d_law_460 : decode code 460 = .ok (.aload_n 2, 1) := by decide +kernel
theorem d_law_461 : decode code 461 = .ok (.aload_n 0, 1) := by decide +kernel
theorem d_law_462 : decode code 462 = .ok (.iload_n 3, 1) := by decide +kernel
theorem d_law_463 : decode code 463 = .ok (.iconst 1, 1) := by decide +kernel
theorem d_law_464 : decode code 464 = .ok (.iadd, 1) := by decide +kernel
theorem d_law_465 : decode code 465 = .ok (.iaload, 1) := by decide +kernel
theorem d_law_466 : decode code 466 = .ok (.aload_n 0, 1) := by decide +kernel
theorem d_law_467 : decode code 467 = .ok (.iload_n 3, 1) := by decide +kernel
theorem d_law_468 : decode code 468 = .ok (.iconst 2, 1) := by decide +kernel
theorem d_law_469 : decode code 469 = .ok (.iadd, 1) := by decide +kernel
theorem d_law_470 : decode code 470 = .ok (.iaload, 1) := by decide +kernel
theorem d_law_471 : decode code 471 = .ok (.invokevirtual 44, 3) := by decide +kernel
theorem d_law_474 : decode code 474 = .ok (.if_icmp .eq 912, 3) := by decide +kernel
theorem d_law_477 : decode code 477 = .ok (.iconst 0, 1) := by decide +kernel
theorem d_law_478 : decode code 478 = .ok (.ireturn, 1) := by decide +kernel
theorem d_law_479 : decode code 479 = .ok (.aload_n 1, 1) := by decide +kernel
theorem d_law_480 : decode code 480 = .ok (.aload_n 0, 1) := by decide +kernel
theorem d_law_481 : decode code 481 = .ok (.iload_n 3, 1) := by decide +kernel
theorem d_law_482 : decode code 482 = .ok (.iconst 1, 1) := by decide +kernel
theorem d_law_483 : decode code 483 = .ok (.iadd, 1) := by decide +kernel
theorem d_law_484 : decode code 484 = .ok (.iaload, 1) := by decide +kernel
theorem d_law_485 : decode code 485 = .ok (.aload_n 0, 1) := by decide +kernel
theorem d_law_486 : decode code 486 = .ok (.iload_n 3, 1) := by decide +kernel
theorem d_law_487 : decode code 487 = .ok (.iconst 2, 1) := by decide +kernel
theorem d_law_488 : decode code 488 = .ok (.iadd, 1) := by decide +kernel
theorem d_law_489 : decode code 489 = .ok (.iaload, 1) := by decide +kernel
theorem d_law_490 : decode code 490 = .ok (.aload_n 0, 1) := by decide +kernel
theorem d_law_491 : decode code 491 = .ok (.iload_n 3, 1) := by decide +kernel
theorem d_law_492 : decode code 492 = .ok (.iconst 3, 1) := by decide +kernel
theorem d_law_493 : decode code 493 = .ok (.iadd, 1) := by decide +kernel
theorem d_law_494 : decode code 494 = .ok (.iaload, 1) := by decide +kernel
theorem d_law_495 : decode code 495 = .ok (.invokevirtual 45, 3) := by decide +kernel
theorem d_law_498 : decode code 498 = .ok (.aload_n 2, 1) := by decide +kernel
theorem d_law_499 : decode code 499 = .ok (.aload_n 0, 1) := by decide +kernel
theorem d_law_500 : decode code 500 = .ok (.iload_n 3, 1) := by decide +kernel
theorem d_law_501 : decode code 501 = .ok (.iconst 1, 1) := by decide +kernel
theorem d_law_502 : decode code 502 = .ok (.iadd, 1) := by decide +kernel
theorem d_law_503 : decode code 503 = .ok (.iaload, 1) := by decide +kernel
theorem d_law_504 : decode code 504 = .ok (.aload_n 0, 1) := by decide +kernel
theorem d_law_505 : decode code 505 = .ok (.iload_n 3, 1) := by decide +kernel
theorem d_law_506 : decode code 506 = .ok (.iconst 2, 1) := by decide +kernel
theorem d_law_507 : decode code 507 = .ok (.iadd, 1) := by decide +kernel
theorem d_law_508 : decode code 508 = .ok (.iaload, 1) := by decide +kernel
theorem d_law_509 : decode code 509 = .ok (.aload_n 0, 1) := by decide +kernel
theorem d_law_510 : decode code 510 = .ok (.iload_n 3, 1) := by decide +kernel
theorem d_law_511 : decode code 511 = .ok (.iconst 3, 1) := by decide +kernel
theorem d_law_512 : decode code 512 = .ok (.iadd, 1) := by decide +kernel
theorem d_law_513 : decode code 513 = .ok (.iaload, 1) := by decide +kernel
theorem d_law_514 : decode code 514 = .ok (.invokevirtual 48, 3) := by decide +kernel
theorem d_law_517 : decode code 517 = .ok (.if_icmp .eq 869, 3) := by decide +kernel
theorem d_law_520 : decode code 520 = .ok (.iconst 0, 1) := by decide +kernel
theorem d_law_521 : decode code 521 = .ok (.ireturn, 1) := by decide +kernel
theorem d_law_522 : decode code 522 = .ok (.aload_n 1, 1) := by decide +kernel
theorem d_law_523 : decode code 523 = .ok (.aload_n 0, 1) := by decide +kernel
theorem d_law_524 : decode code 524 = .ok (.iload_n 3, 1) := by decide +kernel
theorem d_law_525 : decode code 525 = .ok (.iconst 1, 1) := by decide +kernel
theorem d_law_526 : decode code 526 = .ok (.iadd, 1) := by decide +kernel
theorem d_law_527 : decode code 527 = .ok (.iaload, 1) := by decide +kernel
theorem d_law_528 : decode code 528 = .ok (.invokevirtual 49, 3) := by decide +kernel
theorem d_law_531 : decode code 531 = .ok (.aload_n 2, 1) := by decide +kernel
theorem d_law_532 : decode code 532 = .ok (.aload_n 0, 1) := by decide +kernel
theorem d_law_533 : decode code 533 = .ok (.iload_n 3, 1) := by decide +kernel
theorem d_law_534 : decode code 534 = .ok (.iconst 1, 1) := by decide +kernel
theorem d_law_535 : decode code 535 = .ok (.iadd, 1) := by decide +kernel
theorem d_law_536 : decode code 536 = .ok (.iaload, 1) := by decide +kernel
theorem d_law_537 : decode code 537 = .ok (.invokevirtual 52, 3) := by decide +kernel
theorem d_law_540 : decode code 540 = .ok (.if_icmp .eq 846, 3) := by decide +kernel
theorem d_law_543 : decode code 543 = .ok (.iconst 0, 1) := by decide +kernel
theorem d_law_544 : decode code 544 = .ok (.ireturn, 1) := by decide +kernel
theorem d_law_545 : decode code 545 = .ok (.aload_n 1, 1) := by decide +kernel
theorem d_law_546 : decode code 546 = .ok (.aload_n 0, 1) := by decide +kernel
theorem d_law_547 : decode code 547 = .ok (.iload_n 3, 1) := by decide +kernel
theorem d_law_548 : decode code 548 = .ok (.iconst 1, 1) := by decide +kernel
theorem d_law_549 : decode code 549 = .ok (.iadd, 1) := by decide +kernel
theorem d_law_550 : decode code 550 = .ok (.iaload, 1) := by decide +kernel
theorem d_law_551 : decode code 551 = .ok (.invokevirtual 53, 3) := by decide +kernel
theorem d_law_554 : decode code 554 = .ok (.aload_n 2, 1) := by decide +kernel
theorem d_law_555 : decode code 555 = .ok (.aload_n 0, 1) := by decide +kernel
theorem d_law_556 : decode code 556 = .ok (.iload_n 3, 1) := by decide +kernel
theorem d_law_557 : decode code 557 = .ok (.iconst 1, 1) := by decide +kernel
theorem d_law_558 : decode code 558 = .ok (.iadd, 1) := by decide +kernel
theorem d_law_559 : decode code 559 = .ok (.iaload, 1) := by decide +kernel
theorem d_law_560 : decode code 560 = .ok (.invokevirtual 56, 3) := by decide +kernel
theorem d_law_563 : decode code 563 = .ok (.if_icmp .eq 823, 3) := by decide +kernel
theorem d_law_566 : decode code 566 = .ok (.iconst 0, 1) := by decide +kernel
theorem d_law_567 : decode code 567 = .ok (.ireturn, 1) := by decide +kernel
theorem d_law_568 : decode code 568 = .ok (.aload_n 1, 1) := by decide +kernel
theorem d_law_569 : decode code 569 = .ok (.aload_n 0, 1) := by decide +kernel
theorem d_law_570 : decode code 570 = .ok (.iload_n 3, 1) := by decide +kernel
theorem d_law_571 : decode code 571 = .ok (.iconst 1, 1) := by decide +kernel
theorem d_law_572 : decode code 572 = .ok (.iadd, 1) := by decide +kernel
theorem d_law_573 : decode code 573 = .ok (.iaload, 1) := by decide +kernel
theorem d_law_574 : decode code 574 = .ok (.aload_n 0, 1) := by decide +kernel
theorem d_law_575 : decode code 575 = .ok (.iload_n 3, 1) := by decide +kernel
theorem d_law_576 : decode code 576 = .ok (.iconst 2, 1) := by decide +kernel
theorem d_law_577 : decode code 577 = .ok (.iadd, 1) := by decide +kernel
theorem d_law_578 : decode code 578 = .ok (.iaload, 1) := by decide +kernel
theorem d_law_579 : decode code 579 = .ok (.invokevirtual 57, 3) := by decide +kernel
theorem d_law_582 : decode code 582 = .ok (.aload_n 2, 1) := by decide +kernel
theorem d_law_583 : decode code 583 = .ok (.aload_n 0, 1) := by decide +kernel
theorem d_law_584 : decode code 584 = .ok (.iload_n 3, 1) := by decide +kernel
theorem d_law_585 : decode code 585 = .ok (.iconst 1, 1) := by decide +kernel
theorem d_law_586 : decode code 586 = .ok (.iadd, 1) := by decide +kernel
theorem d_law_587 : decode code 587 = .ok (.iaload, 1) := by decide +kernel
theorem d_law_588 : decode code 588 = .ok (.aload_n 0, 1) := by decide +kernel
theorem d_law_589 : decode code 589 = .ok (.iload_n 3, 1) := by decide +kernel
theorem d_law_590 : decode code 590 = .ok (.iconst 2, 1) := by decide +kernel
theorem d_law_591 : decode code 591 = .ok (.iadd, 1) := by decide +kernel
theorem d_law_592 : decode code 592 = .ok (.iaload, 1) := by decide +kernel
theorem d_law_593 : decode code 593 = .ok (.invokevirtual 60, 3) := by decide +kernel
theorem d_law_596 : decode code 596 = .ok (.if_icmp .eq 790, 3) := by decide +kernel
theorem d_law_599 : decode code 599 = .ok (.iconst 0, 1) := by decide +kernel
theorem d_law_600 : decode code 600 = .ok (.ireturn, 1) := by decide +kernel
theorem d_law_601 : decode code 601 = .ok (.aload_n 1, 1) := by decide +kernel
theorem d_law_602 : decode code 602 = .ok (.aload_n 0, 1) := by decide +kernel
theorem d_law_603 : decode code 603 = .ok (.iload_n 3, 1) := by decide +kernel
theorem d_law_604 : decode code 604 = .ok (.iconst 1, 1) := by decide +kernel
theorem d_law_605 : decode code 605 = .ok (.iadd, 1) := by decide +kernel
theorem d_law_606 : decode code 606 = .ok (.iaload, 1) := by decide +kernel
theorem d_law_607 : decode code 607 = .ok (.aload_n 0, 1) := by decide +kernel
theorem d_law_608 : decode code 608 = .ok (.iload_n 3, 1) := by decide +kernel
theorem d_law_609 : decode code 609 = .ok (.iconst 2, 1) := by decide +kernel
theorem d_law_610 : decode code 610 = .ok (.iadd, 1) := by decide +kernel
theorem d_law_611 : decode code 611 = .ok (.iaload, 1) := by decide +kernel
theorem d_law_612 : decode code 612 = .ok (.invokevirtual 61, 3) := by decide +kernel
theorem d_law_615 : decode code 615 = .ok (.aload_n 2, 1) := by decide +kernel
theorem d_law_616 : decode code 616 = .ok (.aload_n 0, 1) := by decide +kernel
theorem d_law_617 : decode code 617 = .ok (.iload_n 3, 1) := by decide +kernel
theorem d_law_618 : decode code 618 = .ok (.iconst 1, 1) := by decide +kernel
theorem d_law_619 : decode code 619 = .ok (.iadd, 1) := by decide +kernel
theorem d_law_620 : decode code 620 = .ok (.iaload, 1) := by decide +kernel
theorem d_law_621 : decode code 621 = .ok (.aload_n 0, 1) := by decide +kernel
theorem d_law_622 : decode code 622 = .ok (.iload_n 3, 1) := by decide +kernel
theorem d_law_623 : decode code 623 = .ok (.iconst 2, 1) := by decide +kernel
theorem d_law_624 : decode code 624 = .ok (.iadd, 1) := by decide +kernel
theorem d_law_625 : decode code 625 = .ok (.iaload, 1) := by decide +kernel
theorem d_law_626 : decode code 626 = .ok (.invokevirtual 64, 3) := by decide +kernel
theorem d_law_629 : decode code 629 = .ok (.if_icmp .eq 757, 3) := by decide +kernel
theorem d_law_632 : decode code 632 = .ok (.iconst 0, 1) := by decide +kernel
theorem d_law_633 : decode code 633 = .ok (.ireturn, 1) := by decide +kernel
theorem d_law_634 : decode code 634 = .ok (.aload_n 1, 1) := by decide +kernel
theorem d_law_635 : decode code 635 = .ok (.aload_n 0, 1) := by decide +kernel
theorem d_law_636 : decode code 636 = .ok (.iload_n 3, 1) := by decide +kernel
theorem d_law_637 : decode code 637 = .ok (.iconst 1, 1) := by decide +kernel
theorem d_law_638 : decode code 638 = .ok (.iadd, 1) := by decide +kernel
theorem d_law_639 : decode code 639 = .ok (.iaload, 1) := by decide +kernel
theorem d_law_640 : decode code 640 = .ok (.aload_n 0, 1) := by decide +kernel
theorem d_law_641 : decode code 641 = .ok (.iload_n 3, 1) := by decide +kernel
theorem d_law_642 : decode code 642 = .ok (.iconst 2, 1) := by decide +kernel
theorem d_law_643 : decode code 643 = .ok (.iadd, 1) := by decide +kernel
theorem d_law_644 : decode code 644 = .ok (.iaload, 1) := by decide +kernel
theorem d_law_645 : decode code 645 = .ok (.invokevirtual 65, 3) := by decide +kernel
theorem d_law_648 : decode code 648 = .ok (.aload_n 2, 1) := by decide +kernel
theorem d_law_649 : decode code 649 = .ok (.aload_n 0, 1) := by decide +kernel
theorem d_law_650 : decode code 650 = .ok (.iload_n 3, 1) := by decide +kernel
theorem d_law_651 : decode code 651 = .ok (.iconst 1, 1) := by decide +kernel
theorem d_law_652 : decode code 652 = .ok (.iadd, 1) := by decide +kernel
theorem d_law_653 : decode code 653 = .ok (.iaload, 1) := by decide +kernel
theorem d_law_654 : decode code 654 = .ok (.aload_n 0, 1) := by decide +kernel
theorem d_law_655 : decode code 655 = .ok (.iload_n 3, 1) := by decide +kernel
theorem d_law_656 : decode code 656 = .ok (.iconst 2, 1) := by decide +kernel
theorem d_law_657 : decode code 657 = .ok (.iadd, 1) := by decide +kernel
theorem d_law_658 : decode code 658 = .ok (.iaload, 1) := by decide +kernel
theorem d_law_659 : decode code 659 = .ok (.invokevirtual 68, 3) := by decide +kernel
theorem d_law_662 : decode code 662 = .ok (.if_icmp .eq 724, 3) := by decide +kernel
theorem d_law_665 : decode code 665 = .ok (.iconst 0, 1) := by decide +kernel
theorem d_law_666 : decode code 666 = .ok (.ireturn, 1) := by decide +kernel
theorem d_law_667 : decode code 667 = .ok (.aload_n 1, 1) := by decide +kernel
theorem d_law_668 : decode code 668 = .ok (.aload_n 0, 1) := by decide +kernel
theorem d_law_669 : decode code 669 = .ok (.iload_n 3, 1) := by decide +kernel
theorem d_law_670 : decode code 670 = .ok (.iconst 1, 1) := by decide +kernel
theorem d_law_671 : decode code 671 = .ok (.iadd, 1) := by decide +kernel
theorem d_law_672 : decode code 672 = .ok (.iaload, 1) := by decide +kernel
theorem d_law_673 : decode code 673 = .ok (.aload_n 0, 1) := by decide +kernel
theorem d_law_674 : decode code 674 = .ok (.iload_n 3, 1) := by decide +kernel
theorem d_law_675 : decode code 675 = .ok (.iconst 2, 1) := by decide +kernel
theorem d_law_676 : decode code 676 = .ok (.iadd, 1) := by decide +kernel
theorem d_law_677 : decode code 677 = .ok (.iaload, 1) := by decide +kernel
theorem d_law_678 : decode code 678 = .ok (.invokevirtual 69, 3) := by decide +kernel
theorem d_law_681 : decode code 681 = .ok (.aload_n 2, 1) := by decide +kernel
theorem d_law_682 : decode code 682 = .ok (.aload_n 0, 1) := by decide +kernel
theorem d_law_683 : decode code 683 = .ok (.iload_n 3, 1) := by decide +kernel
theorem d_law_684 : decode code 684 = .ok (.iconst 1, 1) := by decide +kernel
theorem d_law_685 : decode code 685 = .ok (.iadd, 1) := by decide +kernel
theorem d_law_686 : decode code 686 = .ok (.iaload, 1) := by decide +kernel
theorem d_law_687 : decode code 687 = .ok (.aload_n 0, 1) := by decide +kernel
theorem d_law_688 : decode code 688 = .ok (.iload_n 3, 1) := by decide +kernel
theorem d_law_689 : decode code 689 = .ok (.iconst 2, 1) := by decide +kernel
theorem d_law_690 : decode code 690 = .ok (.iadd, 1) := by decide +kernel
theorem d_law_691 : decode code 691 = .ok (.iaload, 1) := by decide +kernel
theorem d_law_692 : decode code 692 = .ok (.invokevirtual 72, 3) := by decide +kernel
theorem d_law_695 : decode code 695 = .ok (.if_icmp .eq 691, 3) := by decide +kernel
theorem d_law_698 : decode code 698 = .ok (.iconst 0, 1) := by decide +kernel
theorem d_law_699 : decode code 699 = .ok (.ireturn, 1) := by decide +kernel
theorem d_law_700 : decode code 700 = .ok (.aload_n 1, 1) := by decide +kernel
theorem d_law_701 : decode code 701 = .ok (.aload_n 0, 1) := by decide +kernel
theorem d_law_702 : decode code 702 = .ok (.iload_n 3, 1) := by decide +kernel
theorem d_law_703 : decode code 703 = .ok (.iconst 1, 1) := by decide +kernel
theorem d_law_704 : decode code 704 = .ok (.iadd, 1) := by decide +kernel
theorem d_law_705 : decode code 705 = .ok (.iaload, 1) := by decide +kernel
theorem d_law_706 : decode code 706 = .ok (.aload_n 0, 1) := by decide +kernel
theorem d_law_707 : decode code 707 = .ok (.iload_n 3, 1) := by decide +kernel
theorem d_law_708 : decode code 708 = .ok (.iconst 2, 1) := by decide +kernel
theorem d_law_709 : decode code 709 = .ok (.iadd, 1) := by decide +kernel
theorem d_law_710 : decode code 710 = .ok (.iaload, 1) := by decide +kernel
theorem d_law_711 : decode code 711 = .ok (.invokevirtual 73, 3) := by decide +kernel
theorem d_law_714 : decode code 714 = .ok (.aload_n 2, 1) := by decide +kernel
theorem d_law_715 : decode code 715 = .ok (.aload_n 0, 1) := by decide +kernel
theorem d_law_716 : decode code 716 = .ok (.iload_n 3, 1) := by decide +kernel
theorem d_law_717 : decode code 717 = .ok (.iconst 1, 1) := by decide +kernel
theorem d_law_718 : decode code 718 = .ok (.iadd, 1) := by decide +kernel
theorem d_law_719 : decode code 719 = .ok (.iaload, 1) := by decide +kernel
theorem d_law_720 : decode code 720 = .ok (.aload_n 0, 1) := by decide +kernel
theorem d_law_721 : decode code 721 = .ok (.iload_n 3, 1) := by decide +kernel
theorem d_law_722 : decode code 722 = .ok (.iconst 2, 1) := by decide +kernel
theorem d_law_723 : decode code 723 = .ok (.iadd, 1) := by decide +kernel
theorem d_law_724 : decode code 724 = .ok (.iaload, 1) := by decide +kernel
theorem d_law_725 : decode code 725 = .ok (.invokevirtual 76, 3) := by decide +kernel
theorem d_law_728 : decode code 728 = .ok (.if_icmp .eq 658, 3) := by decide +kernel
theorem d_law_731 : decode code 731 = .ok (.iconst 0, 1) := by decide +kernel
theorem d_law_732 : decode code 732 = .ok (.ireturn, 1) := by decide +kernel
theorem d_law_733 : decode code 733 = .ok (.aload_n 1, 1) := by decide +kernel
theorem d_law_734 : decode code 734 = .ok (.aload_n 0, 1) := by decide +kernel
theorem d_law_735 : decode code 735 = .ok (.iload_n 3, 1) := by decide +kernel
theorem d_law_736 : decode code 736 = .ok (.iconst 1, 1) := by decide +kernel
theorem d_law_737 : decode code 737 = .ok (.iadd, 1) := by decide +kernel
theorem d_law_738 : decode code 738 = .ok (.iaload, 1) := by decide +kernel
theorem d_law_739 : decode code 739 = .ok (.invokevirtual 77, 3) := by decide +kernel
theorem d_law_742 : decode code 742 = .ok (.aload_n 2, 1) := by decide +kernel
theorem d_law_743 : decode code 743 = .ok (.aload_n 0, 1) := by decide +kernel
theorem d_law_744 : decode code 744 = .ok (.iload_n 3, 1) := by decide +kernel
theorem d_law_745 : decode code 745 = .ok (.iconst 1, 1) := by decide +kernel
theorem d_law_746 : decode code 746 = .ok (.iadd, 1) := by decide +kernel
theorem d_law_747 : decode code 747 = .ok (.iaload, 1) := by decide +kernel
theorem d_law_748 : decode code 748 = .ok (.invokevirtual 80, 3) := by decide +kernel
theorem d_law_751 : decode code 751 = .ok (.if_icmp .eq 635, 3) := by decide +kernel
theorem d_law_754 : decode code 754 = .ok (.iconst 0, 1) := by decide +kernel
theorem d_law_755 : decode code 755 = .ok (.ireturn, 1) := by decide +kernel
theorem d_law_756 : decode code 756 = .ok (.aload_n 1, 1) := by decide +kernel
theorem d_law_757 : decode code 757 = .ok (.aload_n 0, 1) := by decide +kernel
theorem d_law_758 : decode code 758 = .ok (.iload_n 3, 1) := by decide +kernel
theorem d_law_759 : decode code 759 = .ok (.iconst 1, 1) := by decide +kernel
theorem d_law_760 : decode code 760 = .ok (.iadd, 1) := by decide +kernel
theorem d_law_761 : decode code 761 = .ok (.iaload, 1) := by decide +kernel
theorem d_law_762 : decode code 762 = .ok (.aload_n 0, 1) := by decide +kernel
theorem d_law_763 : decode code 763 = .ok (.iload_n 3, 1) := by decide +kernel
theorem d_law_764 : decode code 764 = .ok (.iconst 2, 1) := by decide +kernel
theorem d_law_765 : decode code 765 = .ok (.iadd, 1) := by decide +kernel
theorem d_law_766 : decode code 766 = .ok (.iaload, 1) := by decide +kernel
theorem d_law_767 : decode code 767 = .ok (.invokevirtual 81, 3) := by decide +kernel
theorem d_law_770 : decode code 770 = .ok (.aload_n 2, 1) := by decide +kernel
theorem d_law_771 : decode code 771 = .ok (.aload_n 0, 1) := by decide +kernel
theorem d_law_772 : decode code 772 = .ok (.iload_n 3, 1) := by decide +kernel
theorem d_law_773 : decode code 773 = .ok (.iconst 1, 1) := by decide +kernel
theorem d_law_774 : decode code 774 = .ok (.iadd, 1) := by decide +kernel
theorem d_law_775 : decode code 775 = .ok (.iaload, 1) := by decide +kernel
theorem d_law_776 : decode code 776 = .ok (.aload_n 0, 1) := by decide +kernel
theorem d_law_777 : decode code 777 = .ok (.iload_n 3, 1) := by decide +kernel
theorem d_law_778 : decode code 778 = .ok (.iconst 2, 1) := by decide +kernel
theorem d_law_779 : decode code 779 = .ok (.iadd, 1) := by decide +kernel
theorem d_law_780 : decode code 780 = .ok (.iaload, 1) := by decide +kernel
theorem d_law_781 : decode code 781 = .ok (.invokevirtual 84, 3) := by decide +kernel
theorem d_law_784 : decode code 784 = .ok (.if_icmp .eq 602, 3) := by decide +kernel
theorem d_law_787 : decode code 787 = .ok (.iconst 0, 1) := by decide +kernel
theorem d_law_788 : decode code 788 = .ok (.ireturn, 1) := by decide +kernel
theorem d_law_789 : decode code 789 = .ok (.aload_n 1, 1) := by decide +kernel
theorem d_law_790 : decode code 790 = .ok (.invokevirtual 85, 3) := by decide +kernel
theorem d_law_793 : decode code 793 = .ok (.aload_n 2, 1) := by decide +kernel
theorem d_law_794 : decode code 794 = .ok (.invokevirtual 89, 3) := by decide +kernel
theorem d_law_797 : decode code 797 = .ok (.if_icmp .eq 589, 3) := by decide +kernel
theorem d_law_800 : decode code 800 = .ok (.iconst 0, 1) := by decide +kernel
theorem d_law_801 : decode code 801 = .ok (.ireturn, 1) := by decide +kernel
theorem d_law_802 : decode code 802 = .ok (.aload_n 1, 1) := by decide +kernel
theorem d_law_803 : decode code 803 = .ok (.aload_n 0, 1) := by decide +kernel
theorem d_law_804 : decode code 804 = .ok (.iload_n 3, 1) := by decide +kernel
theorem d_law_805 : decode code 805 = .ok (.iconst 1, 1) := by decide +kernel
theorem d_law_806 : decode code 806 = .ok (.iadd, 1) := by decide +kernel
theorem d_law_807 : decode code 807 = .ok (.iaload, 1) := by decide +kernel
theorem d_law_808 : decode code 808 = .ok (.invokevirtual 90, 3) := by decide +kernel
theorem d_law_811 : decode code 811 = .ok (.aload_n 2, 1) := by decide +kernel
theorem d_law_812 : decode code 812 = .ok (.aload_n 0, 1) := by decide +kernel
theorem d_law_813 : decode code 813 = .ok (.iload_n 3, 1) := by decide +kernel
theorem d_law_814 : decode code 814 = .ok (.iconst 1, 1) := by decide +kernel
theorem d_law_815 : decode code 815 = .ok (.iadd, 1) := by decide +kernel
theorem d_law_816 : decode code 816 = .ok (.iaload, 1) := by decide +kernel
theorem d_law_817 : decode code 817 = .ok (.invokevirtual 93, 3) := by decide +kernel
theorem d_law_820 : decode code 820 = .ok (.if_icmp .eq 566, 3) := by decide +kernel
theorem d_law_823 : decode code 823 = .ok (.iconst 0, 1) := by decide +kernel
theorem d_law_824 : decode code 824 = .ok (.ireturn, 1) := by decide +kernel
theorem d_law_825 : decode code 825 = .ok (.aload_n 1, 1) := by decide +kernel
theorem d_law_826 : decode code 826 = .ok (.aload_n 0, 1) := by decide +kernel
theorem d_law_827 : decode code 827 = .ok (.iload_n 3, 1) := by decide +kernel
theorem d_law_828 : decode code 828 = .ok (.iconst 1, 1) := by decide +kernel
theorem d_law_829 : decode code 829 = .ok (.iadd, 1) := by decide +kernel
theorem d_law_830 : decode code 830 = .ok (.iaload, 1) := by decide +kernel
theorem d_law_831 : decode code 831 = .ok (.invokevirtual 94, 3) := by decide +kernel
theorem d_law_834 : decode code 834 = .ok (.aload_n 2, 1) := by decide +kernel
theorem d_law_835 : decode code 835 = .ok (.aload_n 0, 1) := by decide +kernel
theorem d_law_836 : decode code 836 = .ok (.iload_n 3, 1) := by decide +kernel
theorem d_law_837 : decode code 837 = .ok (.iconst 1, 1) := by decide +kernel
theorem d_law_838 : decode code 838 = .ok (.iadd, 1) := by decide +kernel
theorem d_law_839 : decode code 839 = .ok (.iaload, 1) := by decide +kernel
theorem d_law_840 : decode code 840 = .ok (.invokevirtual 97, 3) := by decide +kernel
theorem d_law_843 : decode code 843 = .ok (.if_icmp .eq 543, 3) := by decide +kernel
theorem d_law_846 : decode code 846 = .ok (.iconst 0, 1) := by decide +kernel
theorem d_law_847 : decode code 847 = .ok (.ireturn, 1) := by decide +kernel
theorem d_law_848 : decode code 848 = .ok (.aload_n 1, 1) := by decide +kernel
theorem d_law_849 : decode code 849 = .ok (.aload_n 0, 1) := by decide +kernel
theorem d_law_850 : decode code 850 = .ok (.iload_n 3, 1) := by decide +kernel
theorem d_law_851 : decode code 851 = .ok (.iconst 1, 1) := by decide +kernel
theorem d_law_852 : decode code 852 = .ok (.iadd, 1) := by decide +kernel
theorem d_law_853 : decode code 853 = .ok (.iaload, 1) := by decide +kernel
theorem d_law_854 : decode code 854 = .ok (.invokevirtual 98, 3) := by decide +kernel
theorem d_law_857 : decode code 857 = .ok (.aload_n 2, 1) := by decide +kernel
theorem d_law_858 : decode code 858 = .ok (.aload_n 0, 1) := by decide +kernel
theorem d_law_859 : decode code 859 = .ok (.iload_n 3, 1) := by decide +kernel
theorem d_law_860 : decode code 860 = .ok (.iconst 1, 1) := by decide +kernel
theorem d_law_861 : decode code 861 = .ok (.iadd, 1) := by decide +kernel
theorem d_law_862 : decode code 862 = .ok (.iaload, 1) := by decide +kernel
theorem d_law_863 : decode code 863 = .ok (.invokevirtual 101, 3) := by decide +kernel
theorem d_law_866 : decode code 866 = .ok (.if_icmp .eq 520, 3) := by decide +kernel
theorem d_law_869 : decode code 869 = .ok (.iconst 0, 1) := by decide +kernel
theorem d_law_870 : decode code 870 = .ok (.ireturn, 1) := by decide +kernel
theorem d_law_871 : decode code 871 = .ok (.aload_n 1, 1) := by decide +kernel
theorem d_law_872 : decode code 872 = .ok (.aload_n 0, 1) := by decide +kernel
theorem d_law_873 : decode code 873 = .ok (.iload_n 3, 1) := by decide +kernel
theorem d_law_874 : decode code 874 = .ok (.iconst 1, 1) := by decide +kernel
theorem d_law_875 : decode code 875 = .ok (.iadd, 1) := by decide +kernel
theorem d_law_876 : decode code 876 = .ok (.iaload, 1) := by decide +kernel
theorem d_law_877 : decode code 877 = .ok (.aload_n 0, 1) := by decide +kernel
theorem d_law_878 : decode code 878 = .ok (.iload_n 3, 1) := by decide +kernel
theorem d_law_879 : decode code 879 = .ok (.iconst 2, 1) := by decide +kernel
theorem d_law_880 : decode code 880 = .ok (.iadd, 1) := by decide +kernel
theorem d_law_881 : decode code 881 = .ok (.iaload, 1) := by decide +kernel
theorem d_law_882 : decode code 882 = .ok (.aload_n 0, 1) := by decide +kernel
theorem d_law_883 : decode code 883 = .ok (.iload_n 3, 1) := by decide +kernel
theorem d_law_884 : decode code 884 = .ok (.iconst 3, 1) := by decide +kernel
theorem d_law_885 : decode code 885 = .ok (.iadd, 1) := by decide +kernel
theorem d_law_886 : decode code 886 = .ok (.iaload, 1) := by decide +kernel
theorem d_law_887 : decode code 887 = .ok (.invokevirtual 102, 3) := by decide +kernel
theorem d_law_890 : decode code 890 = .ok (.aload_n 2, 1) := by decide +kernel
theorem d_law_891 : decode code 891 = .ok (.aload_n 0, 1) := by decide +kernel
theorem d_law_892 : decode code 892 = .ok (.iload_n 3, 1) := by decide +kernel
theorem d_law_893 : decode code 893 = .ok (.iconst 1, 1) := by decide +kernel
theorem d_law_894 : decode code 894 = .ok (.iadd, 1) := by decide +kernel
theorem d_law_895 : decode code 895 = .ok (.iaload, 1) := by decide +kernel
theorem d_law_896 : decode code 896 = .ok (.aload_n 0, 1) := by decide +kernel
theorem d_law_897 : decode code 897 = .ok (.iload_n 3, 1) := by decide +kernel
theorem d_law_898 : decode code 898 = .ok (.iconst 2, 1) := by decide +kernel
theorem d_law_899 : decode code 899 = .ok (.iadd, 1) := by decide +kernel
theorem d_law_900 : decode code 900 = .ok (.iaload, 1) := by decide +kernel
theorem d_law_901 : decode code 901 = .ok (.aload_n 0, 1) := by decide +kernel
theorem d_law_902 : decode code 902 = .ok (.iload_n 3, 1) := by decide +kernel
theorem d_law_903 : decode code 903 = .ok (.iconst 3, 1) := by decide +kernel
theorem d_law_904 : decode code 904 = .ok (.iadd, 1) := by decide +kernel
theorem d_law_905 : decode code 905 = .ok (.iaload, 1) := by decide +kernel
theorem d_law_906 : decode code 906 = .ok (.invokevirtual 105, 3) := by decide +kernel
theorem d_law_909 : decode code 909 = .ok (.if_icmp .eq 477, 3) := by decide +kernel
theorem d_law_912 : decode code 912 = .ok (.iconst 0, 1) := by decide +kernel
theorem d_law_913 : decode code 913 = .ok (.ireturn, 1) := by decide +kernel
theorem d_law_914 : decode code 914 = .ok (.aload_n 1, 1) := by decide +kernel
theorem d_law_915 : decode code 915 = .ok (.aload_n 0, 1) := by decide +kernel
theorem d_law_916 : decode code 916 = .ok (.iload_n 3, 1) := by decide +kernel
theorem d_law_917 : decode code 917 = .ok (.iconst 1, 1) := by decide +kernel
theorem d_law_918 : decode code 918 = .ok (.iadd, 1) := by decide +kernel
theorem d_law_919 : decode code 919 = .ok (.iaload, 1) := by decide +kernel
theorem d_law_920 : decode code 920 = .ok (.invokevirtual 106, 3) := by decide +kernel
theorem d_law_923 : decode code 923 = .ok (.aload_n 2, 1) := by decide +kernel
theorem d_law_924 : decode code 924 = .ok (.aload_n 0, 1) := by decide +kernel
theorem d_law_925 : decode code 925 = .ok (.iload_n 3, 1) := by decide +kernel
theorem d_law_926 : decode code 926 = .ok (.iconst 1, 1) := by decide +kernel
theorem d_law_927 : decode code 927 = .ok (.iadd, 1) := by decide +kernel
theorem d_law_928 : decode code 928 = .ok (.iaload, 1) := by decide +kernel
theorem d_law_929 : decode code 929 = .ok (.invokevirtual 109, 3) := by decide +kernel
theorem d_law_932 : decode code 932 = .ok (.if_icmp .eq 454, 3) := by decide +kernel
theorem d_law_935 : decode code 935 = .ok (.iconst 0, 1) := by decide +kernel
theorem d_law_936 : decode code 936 = .ok (.ireturn, 1) := by decide +kernel
theorem d_law_937 : decode code 937 = .ok (.aload_n 1, 1) := by decide +kernel
theorem d_law_938 : decode code 938 = .ok (.aload_n 0, 1) := by decide +kernel
theorem d_law_939 : decode code 939 = .ok (.iload_n 3, 1) := by decide +kernel
theorem d_law_940 : decode code 940 = .ok (.iconst 1, 1) := by decide +kernel
theorem d_law_941 : decode code 941 = .ok (.iadd, 1) := by decide +kernel
theorem d_law_942 : decode code 942 = .ok (.iaload, 1) := by decide +kernel
theorem d_law_943 : decode code 943 = .ok (.aload_n 0, 1) := by decide +kernel
theorem d_law_944 : decode code 944 = .ok (.iload_n 3, 1) := by decide +kernel
theorem d_law_945 : decode code 945 = .ok (.iconst 2, 1) := by decide +kernel
theorem d_law_946 : decode code 946 = .ok (.iadd, 1) := by decide +kernel
theorem d_law_947 : decode code 947 = .ok (.iaload, 1) := by decide +kernel
theorem d_law_948 : decode code 948 = .ok (.invokevirtual 110, 3) := by decide +kernel
theorem d_law_951 : decode code 951 = .ok (.aload_n 2, 1) := by decide +kernel
theorem d_law_952 : decode code 952 = .ok (.aload_n 0, 1) := by decide +kernel
theorem d_law_953 : decode code 953 = .ok (.iload_n 3, 1) := by decide +kernel
theorem d_law_954 : decode code 954 = .ok (.iconst 1, 1) := by decide +kernel
theorem d_law_955 : decode code 955 = .ok (.iadd, 1) := by decide +kernel
theorem d_law_956 : decode code 956 = .ok (.iaload, 1) := by decide +kernel
theorem d_law_957 : decode code 957 = .ok (.aload_n 0, 1) := by decide +kernel
theorem d_law_958 : decode code 958 = .ok (.iload_n 3, 1) := by decide +kernel
theorem d_law_959 : decode code 959 = .ok (.iconst 2, 1) := by decide +kernel
theorem d_law_960 : decode code 960 = .ok (.iadd, 1) := by decide +kernel
theorem d_law_961 : decode code 961 = .ok (.iaload, 1) := by decide +kernel
theorem d_law_962 : decode code 962 = .ok (.invokevirtual 113, 3) := by decide +kernel
theorem d_law_965 : decode code 965 = .ok (.if_icmp .eq 421, 3) := by decide +kernel
theorem d_law_968 : decode code 968 = .ok (.iconst 0, 1) := by decide +kernel
theorem d_law_969 : decode code 969 = .ok (.ireturn, 1) := by decide +kernel
theorem d_law_970 : decode code 970 = .ok (.aload_n 1, 1) := by decide +kernel
theorem d_law_971 : decode code 971 = .ok (.aload_n 0, 1) := by decide +kernel
theorem d_law_972 : decode code 972 = .ok (.iload_n 3, 1) := by decide +kernel
theorem d_law_973 : decode code 973 = .ok (.iconst 1, 1) := by decide +kernel
theorem d_law_974 : decode code 974 = .ok (.iadd, 1) := by decide +kernel
theorem d_law_975 : decode code 975 = .ok (.iaload, 1) := by decide +kernel
theorem d_law_976 : decode code 976 = .ok (.invokevirtual 114, 3) := by decide +kernel
theorem d_law_979 : decode code 979 = .ok (.aload_n 2, 1) := by decide +kernel
theorem d_law_980 : decode code 980 = .ok (.aload_n 0, 1) := by decide +kernel
theorem d_law_981 : decode code 981 = .ok (.iload_n 3, 1) := by decide +kernel
theorem d_law_982 : decode code 982 = .ok (.iconst 1, 1) := by decide +kernel
theorem d_law_983 : decode code 983 = .ok (.iadd, 1) := by decide +kernel
theorem d_law_984 : decode code 984 = .ok (.iaload, 1) := by decide +kernel
theorem d_law_985 : decode code 985 = .ok (.invokevirtual 117, 3) := by decide +kernel
theorem d_law_988 : decode code 988 = .ok (.if_icmp .eq 398, 3) := by decide +kernel
theorem d_law_991 : decode code 991 = .ok (.iconst 0, 1) := by decide +kernel
theorem d_law_992 : decode code 992 = .ok (.ireturn, 1) := by decide +kernel
theorem d_law_993 : decode code 993 = .ok (.aload_n 1, 1) := by decide +kernel
theorem d_law_994 : decode code 994 = .ok (.aload_n 0, 1) := by decide +kernel
theorem d_law_995 : decode code 995 = .ok (.iload_n 3, 1) := by decide +kernel
theorem d_law_996 : decode code 996 = .ok (.iconst 1, 1) := by decide +kernel
theorem d_law_997 : decode code 997 = .ok (.iadd, 1) := by decide +kernel
theorem d_law_998 : decode code 998 = .ok (.iaload, 1) := by decide +kernel
theorem d_law_999 : decode code 999 = .ok (.invokevirtual 118, 3) := by decide +kernel
theorem d_law_1002 : decode code 1002 = .ok (.aload_n 2, 1) := by decide +kernel
theorem d_law_1003 : decode code 1003 = .ok (.aload_n 0, 1) := by decide +kernel
theorem d_law_1004 : decode code 1004 = .ok (.iload_n 3, 1) := by decide +kernel
theorem d_law_1005 : decode code 1005 = .ok (.iconst 1, 1) := by decide +kernel
theorem d_law_1006 : decode code 1006 = .ok (.iadd, 1) := by decide +kernel
theorem d_law_1007 : decode code 1007 = .ok (.iaload, 1) := by decide +kernel
theorem d_law_1008 : decode code 1008 = .ok (.invokevirtual 121, 3) := by decide +kernel
theorem d_law_1011 : decode code 1011 = .ok (.if_icmp .eq 375, 3) := by decide +kernel
theorem d_law_1014 : decode code 1014 = .ok (.iconst 0, 1) := by decide +kernel
theorem d_law_1015 : decode code 1015 = .ok (.ireturn, 1) := by decide +kernel
theorem d_law_1016 : decode code 1016 = .ok (.aload_n 1, 1) := by decide +kernel
theorem d_law_1017 : decode code 1017 = .ok (.aload_n 0, 1) := by decide +kernel
theorem d_law_1018 : decode code 1018 = .ok (.iload_n 3, 1) := by decide +kernel
theorem d_law_1019 : decode code 1019 = .ok (.iconst 1, 1) := by decide +kernel
theorem d_law_1020 : decode code 1020 = .ok (.iadd, 1) := by decide +kernel
theorem d_law_1021 : decode code 1021 = .ok (.iaload, 1) := by decide +kernel
theorem d_law_1022 : decode code 1022 = .ok (.invokevirtual 122, 3) := by decide +kernel
theorem d_law_1025 : decode code 1025 = .ok (.aload_n 2, 1) := by decide +kernel
theorem d_law_1026 : decode code 1026 = .ok (.aload_n 0, 1) := by decide +kernel
theorem d_law_1027 : decode code 1027 = .ok (.iload_n 3, 1) := by decide +kernel
theorem d_law_1028 : decode code 1028 = .ok (.iconst 1, 1) := by decide +kernel
theorem d_law_1029 : decode code 1029 = .ok (.iadd, 1) := by decide +kernel
theorem d_law_1030 : decode code 1030 = .ok (.iaload, 1) := by decide +kernel
theorem d_law_1031 : decode code 1031 = .ok (.invokevirtual 125, 3) := by decide +kernel
theorem d_law_1034 : decode code 1034 = .ok (.if_icmp .eq 352, 3) := by decide +kernel
theorem d_law_1037 : decode code 1037 = .ok (.iconst 0, 1) := by decide +kernel
theorem d_law_1038 : decode code 1038 = .ok (.ireturn, 1) := by decide +kernel
theorem d_law_1039 : decode code 1039 = .ok (.aload_n 1, 1) := by decide +kernel
theorem d_law_1040 : decode code 1040 = .ok (.invokevirtual 126, 3) := by decide +kernel
theorem d_law_1043 : decode code 1043 = .ok (.aload_n 2, 1) := by decide +kernel
theorem d_law_1044 : decode code 1044 = .ok (.invokevirtual 129, 3) := by decide +kernel
theorem d_law_1047 : decode code 1047 = .ok (.if_icmp .eq 339, 3) := by decide +kernel
theorem d_law_1050 : decode code 1050 = .ok (.iconst 0, 1) := by decide +kernel
theorem d_law_1051 : decode code 1051 = .ok (.ireturn, 1) := by decide +kernel
theorem d_law_1052 : decode code 1052 = .ok (.aload_n 1, 1) := by decide +kernel
theorem d_law_1053 : decode code 1053 = .ok (.aload_n 0, 1) := by decide +kernel
theorem d_law_1054 : decode code 1054 = .ok (.iload_n 3, 1) := by decide +kernel
theorem d_law_1055 : decode code 1055 = .ok (.iconst 1, 1) := by decide +kernel
theorem d_law_1056 : decode code 1056 = .ok (.iadd, 1) := by decide +kernel
theorem d_law_1057 : decode code 1057 = .ok (.iaload, 1) := by decide +kernel
theorem d_law_1058 : decode code 1058 = .ok (.aload_n 0, 1) := by decide +kernel
theorem d_law_1059 : decode code 1059 = .ok (.iload_n 3, 1) := by decide +kernel
theorem d_law_1060 : decode code 1060 = .ok (.iconst 2, 1) := by decide +kernel
theorem d_law_1061 : decode code 1061 = .ok (.iadd, 1) := by decide +kernel
theorem d_law_1062 : decode code 1062 = .ok (.iaload, 1) := by decide +kernel
theorem d_law_1063 : decode code 1063 = .ok (.invokevirtual 130, 3) := by decide +kernel
theorem d_law_1066 : decode code 1066 = .ok (.aload_n 2, 1) := by decide +kernel
theorem d_law_1067 : decode code 1067 = .ok (.aload_n 0, 1) := by decide +kernel
theorem d_law_1068 : decode code 1068 = .ok (.iload_n 3, 1) := by decide +kernel
theorem d_law_1069 : decode code 1069 = .ok (.iconst 1, 1) := by decide +kernel
theorem d_law_1070 : decode code 1070 = .ok (.iadd, 1) := by decide +kernel
theorem d_law_1071 : decode code 1071 = .ok (.iaload, 1) := by decide +kernel
theorem d_law_1072 : decode code 1072 = .ok (.aload_n 0, 1) := by decide +kernel
theorem d_law_1073 : decode code 1073 = .ok (.iload_n 3, 1) := by decide +kernel
theorem d_law_1074 : decode code 1074 = .ok (.iconst 2, 1) := by decide +kernel
theorem d_law_1075 : decode code 1075 = .ok (.iadd, 1) := by decide +kernel
theorem d_law_1076 : decode code 1076 = .ok (.iaload, 1) := by decide +kernel
theorem d_law_1077 : decode code 1077 = .ok (.invokevirtual 133, 3) := by decide +kernel
theorem d_law_1080 : decode code 1080 = .ok (.if_icmp .eq 306, 3) := by decide +kernel
theorem d_law_1083 : decode code 1083 = .ok (.iconst 0, 1) := by decide +kernel
theorem d_law_1084 : decode code 1084 = .ok (.ireturn, 1) := by decide +kernel
theorem d_law_1085 : decode code 1085 = .ok (.aload_n 1, 1) := by decide +kernel
theorem d_law_1086 : decode code 1086 = .ok (.invokevirtual 134, 3) := by decide +kernel
theorem d_law_1089 : decode code 1089 = .ok (.aload_n 2, 1) := by decide +kernel
theorem d_law_1090 : decode code 1090 = .ok (.invokevirtual 137, 3) := by decide +kernel
theorem d_law_1093 : decode code 1093 = .ok (.if_icmp .eq 293, 3) := by decide +kernel
theorem d_law_1096 : decode code 1096 = .ok (.iconst 0, 1) := by decide +kernel
theorem d_law_1097 : decode code 1097 = .ok (.ireturn, 1) := by decide +kernel
theorem d_law_1098 : decode code 1098 = .ok (.aload_n 1, 1) := by decide +kernel
theorem d_law_1099 : decode code 1099 = .ok (.invokevirtual 138, 3) := by decide +kernel
theorem d_law_1102 : decode code 1102 = .ok (.aload_n 2, 1) := by decide +kernel
theorem d_law_1103 : decode code 1103 = .ok (.invokevirtual 141, 3) := by decide +kernel
theorem d_law_1106 : decode code 1106 = .ok (.if_icmp .eq 280, 3) := by decide +kernel
theorem d_law_1109 : decode code 1109 = .ok (.iconst 0, 1) := by decide +kernel
theorem d_law_1110 : decode code 1110 = .ok (.ireturn, 1) := by decide +kernel
theorem d_law_1111 : decode code 1111 = .ok (.aload_n 1, 1) := by decide +kernel
theorem d_law_1112 : decode code 1112 = .ok (.invokevirtual 142, 3) := by decide +kernel
theorem d_law_1115 : decode code 1115 = .ok (.aload_n 2, 1) := by decide +kernel
theorem d_law_1116 : decode code 1116 = .ok (.invokevirtual 145, 3) := by decide +kernel
theorem d_law_1119 : decode code 1119 = .ok (.if_icmp .eq 267, 3) := by decide +kernel
theorem d_law_1122 : decode code 1122 = .ok (.iconst 0, 1) := by decide +kernel
theorem d_law_1123 : decode code 1123 = .ok (.ireturn, 1) := by decide +kernel
theorem d_law_1124 : decode code 1124 = .ok (.aload_n 1, 1) := by decide +kernel
theorem d_law_1125 : decode code 1125 = .ok (.aload_n 0, 1) := by decide +kernel
theorem d_law_1126 : decode code 1126 = .ok (.iload_n 3, 1) := by decide +kernel
theorem d_law_1127 : decode code 1127 = .ok (.iconst 1, 1) := by decide +kernel
theorem d_law_1128 : decode code 1128 = .ok (.iadd, 1) := by decide +kernel
theorem d_law_1129 : decode code 1129 = .ok (.iaload, 1) := by decide +kernel
theorem d_law_1130 : decode code 1130 = .ok (.invokevirtual 146, 3) := by decide +kernel
theorem d_law_1133 : decode code 1133 = .ok (.aload_n 2, 1) := by decide +kernel
theorem d_law_1134 : decode code 1134 = .ok (.aload_n 0, 1) := by decide +kernel
theorem d_law_1135 : decode code 1135 = .ok (.iload_n 3, 1) := by decide +kernel
theorem d_law_1136 : decode code 1136 = .ok (.iconst 1, 1) := by decide +kernel
theorem d_law_1137 : decode code 1137 = .ok (.iadd, 1) := by decide +kernel
theorem d_law_1138 : decode code 1138 = .ok (.iaload, 1) := by decide +kernel
theorem d_law_1139 : decode code 1139 = .ok (.invokevirtual 149, 3) := by decide +kernel
theorem d_law_1142 : decode code 1142 = .ok (.if_icmp .eq 244, 3) := by decide +kernel
theorem d_law_1145 : decode code 1145 = .ok (.iconst 0, 1) := by decide +kernel
theorem d_law_1146 : decode code 1146 = .ok (.ireturn, 1) := by decide +kernel
theorem d_law_1147 : decode code 1147 = .ok (.aload_n 1, 1) := by decide +kernel
theorem d_law_1148 : decode code 1148 = .ok (.aload_n 0, 1) := by decide +kernel
theorem d_law_1149 : decode code 1149 = .ok (.iload_n 3, 1) := by decide +kernel
theorem d_law_1150 : decode code 1150 = .ok (.iconst 1, 1) := by decide +kernel
theorem d_law_1151 : decode code 1151 = .ok (.iadd, 1) := by decide +kernel
theorem d_law_1152 : decode code 1152 = .ok (.iaload, 1) := by decide +kernel
theorem d_law_1153 : decode code 1153 = .ok (.aload_n 0, 1) := by decide +kernel
theorem d_law_1154 : decode code 1154 = .ok (.iload_n 3, 1) := by decide +kernel
theorem d_law_1155 : decode code 1155 = .ok (.iconst 2, 1) := by decide +kernel
theorem d_law_1156 : decode code 1156 = .ok (.iadd, 1) := by decide +kernel
theorem d_law_1157 : decode code 1157 = .ok (.iaload, 1) := by decide +kernel
theorem d_law_1158 : decode code 1158 = .ok (.invokevirtual 150, 3) := by decide +kernel
theorem d_law_1161 : decode code 1161 = .ok (.aload_n 2, 1) := by decide +kernel
theorem d_law_1162 : decode code 1162 = .ok (.aload_n 0, 1) := by decide +kernel
theorem d_law_1163 : decode code 1163 = .ok (.iload_n 3, 1) := by decide +kernel
theorem d_law_1164 : decode code 1164 = .ok (.iconst 1, 1) := by decide +kernel
theorem d_law_1165 : decode code 1165 = .ok (.iadd, 1) := by decide +kernel
theorem d_law_1166 : decode code 1166 = .ok (.iaload, 1) := by decide +kernel
theorem d_law_1167 : decode code 1167 = .ok (.aload_n 0, 1) := by decide +kernel
theorem d_law_1168 : decode code 1168 = .ok (.iload_n 3, 1) := by decide +kernel
theorem d_law_1169 : decode code 1169 = .ok (.iconst 2, 1) := by decide +kernel
theorem d_law_1170 : decode code 1170 = .ok (.iadd, 1) := by decide +kernel
theorem d_law_1171 : decode code 1171 = .ok (.iaload, 1) := by decide +kernel
theorem d_law_1172 : decode code 1172 = .ok (.invokevirtual 153, 3) := by decide +kernel
theorem d_law_1175 : decode code 1175 = .ok (.if_icmp .eq 211, 3) := by decide +kernel
theorem d_law_1178 : decode code 1178 = .ok (.iconst 0, 1) := by decide +kernel
theorem d_law_1179 : decode code 1179 = .ok (.ireturn, 1) := by decide +kernel
theorem d_law_1180 : decode code 1180 = .ok (.aload_n 1, 1) := by decide +kernel
theorem d_law_1181 : decode code 1181 = .ok (.aload_n 0, 1) := by decide +kernel
theorem d_law_1182 : decode code 1182 = .ok (.iload_n 3, 1) := by decide +kernel
theorem d_law_1183 : decode code 1183 = .ok (.iconst 1, 1) := by decide +kernel
theorem d_law_1184 : decode code 1184 = .ok (.iadd, 1) := by decide +kernel
theorem d_law_1185 : decode code 1185 = .ok (.iaload, 1) := by decide +kernel
theorem d_law_1186 : decode code 1186 = .ok (.invokevirtual 154, 3) := by decide +kernel
theorem d_law_1189 : decode code 1189 = .ok (.aload_n 2, 1) := by decide +kernel
theorem d_law_1190 : decode code 1190 = .ok (.aload_n 0, 1) := by decide +kernel
theorem d_law_1191 : decode code 1191 = .ok (.iload_n 3, 1) := by decide +kernel
theorem d_law_1192 : decode code 1192 = .ok (.iconst 1, 1) := by decide +kernel
theorem d_law_1193 : decode code 1193 = .ok (.iadd, 1) := by decide +kernel
theorem d_law_1194 : decode code 1194 = .ok (.iaload, 1) := by decide +kernel
theorem d_law_1195 : decode code 1195 = .ok (.invokevirtual 157, 3) := by decide +kernel
theorem d_law_1198 : decode code 1198 = .ok (.if_icmp .eq 188, 3) := by decide +kernel
theorem d_law_1201 : decode code 1201 = .ok (.iconst 0, 1) := by decide +kernel
theorem d_law_1202 : decode code 1202 = .ok (.ireturn, 1) := by decide +kernel
theorem d_law_1203 : decode code 1203 = .ok (.aload_n 1, 1) := by decide +kernel
theorem d_law_1204 : decode code 1204 = .ok (.aload_n 0, 1) := by decide +kernel
theorem d_law_1205 : decode code 1205 = .ok (.iload_n 3, 1) := by decide +kernel
theorem d_law_1206 : decode code 1206 = .ok (.iconst 1, 1) := by decide +kernel
theorem d_law_1207 : decode code 1207 = .ok (.iadd, 1) := by decide +kernel
theorem d_law_1208 : decode code 1208 = .ok (.iaload, 1) := by decide +kernel
theorem d_law_1209 : decode code 1209 = .ok (.invokevirtual 158, 3) := by decide +kernel
theorem d_law_1212 : decode code 1212 = .ok (.aload_n 2, 1) := by decide +kernel
theorem d_law_1213 : decode code 1213 = .ok (.aload_n 0, 1) := by decide +kernel
theorem d_law_1214 : decode code 1214 = .ok (.iload_n 3, 1) := by decide +kernel
theorem d_law_1215 : decode code 1215 = .ok (.iconst 1, 1) := by decide +kernel
theorem d_law_1216 : decode code 1216 = .ok (.iadd, 1) := by decide +kernel
theorem d_law_1217 : decode code 1217 = .ok (.iaload, 1) := by decide +kernel
theorem d_law_1218 : decode code 1218 = .ok (.invokevirtual 161, 3) := by decide +kernel
theorem d_law_1221 : decode code 1221 = .ok (.if_icmp .eq 165, 3) := by decide +kernel
theorem d_law_1224 : decode code 1224 = .ok (.iconst 0, 1) := by decide +kernel
theorem d_law_1225 : decode code 1225 = .ok (.ireturn, 1) := by decide +kernel
theorem d_law_1226 : decode code 1226 = .ok (.aload_n 1, 1) := by decide +kernel
theorem d_law_1227 : decode code 1227 = .ok (.invokevirtual 162, 3) := by decide +kernel
theorem d_law_1230 : decode code 1230 = .ok (.aload_n 2, 1) := by decide +kernel
theorem d_law_1231 : decode code 1231 = .ok (.invokevirtual 165, 3) := by decide +kernel
theorem d_law_1234 : decode code 1234 = .ok (.if_icmp .eq 152, 3) := by decide +kernel
theorem d_law_1237 : decode code 1237 = .ok (.iconst 0, 1) := by decide +kernel
theorem d_law_1238 : decode code 1238 = .ok (.ireturn, 1) := by decide +kernel
theorem d_law_1239 : decode code 1239 = .ok (.aload_n 1, 1) := by decide +kernel
theorem d_law_1240 : decode code 1240 = .ok (.aload_n 0, 1) := by decide +kernel
theorem d_law_1241 : decode code 1241 = .ok (.iload_n 3, 1) := by decide +kernel
theorem d_law_1242 : decode code 1242 = .ok (.iconst 1, 1) := by decide +kernel
theorem d_law_1243 : decode code 1243 = .ok (.iadd, 1) := by decide +kernel
theorem d_law_1244 : decode code 1244 = .ok (.iaload, 1) := by decide +kernel
theorem d_law_1245 : decode code 1245 = .ok (.aload_n 0, 1) := by decide +kernel
theorem d_law_1246 : decode code 1246 = .ok (.iload_n 3, 1) := by decide +kernel
theorem d_law_1247 : decode code 1247 = .ok (.iconst 2, 1) := by decide +kernel
theorem d_law_1248 : decode code 1248 = .ok (.iadd, 1) := by decide +kernel
theorem d_law_1249 : decode code 1249 = .ok (.iaload, 1) := by decide +kernel
theorem d_law_1250 : decode code 1250 = .ok (.invokevirtual 166, 3) := by decide +kernel
theorem d_law_1253 : decode code 1253 = .ok (.aload_n 2, 1) := by decide +kernel
theorem d_law_1254 : decode code 1254 = .ok (.aload_n 0, 1) := by decide +kernel
theorem d_law_1255 : decode code 1255 = .ok (.iload_n 3, 1) := by decide +kernel
theorem d_law_1256 : decode code 1256 = .ok (.iconst 1, 1) := by decide +kernel
theorem d_law_1257 : decode code 1257 = .ok (.iadd, 1) := by decide +kernel
theorem d_law_1258 : decode code 1258 = .ok (.iaload, 1) := by decide +kernel
theorem d_law_1259 : decode code 1259 = .ok (.aload_n 0, 1) := by decide +kernel
theorem d_law_1260 : decode code 1260 = .ok (.iload_n 3, 1) := by decide +kernel
theorem d_law_1261 : decode code 1261 = .ok (.iconst 2, 1) := by decide +kernel
theorem d_law_1262 : decode code 1262 = .ok (.iadd, 1) := by decide +kernel
theorem d_law_1263 : decode code 1263 = .ok (.iaload, 1) := by decide +kernel
theorem d_law_1264 : decode code 1264 = .ok (.invokevirtual 169, 3) := by decide +kernel
theorem d_law_1267 : decode code 1267 = .ok (.if_icmp .eq 119, 3) := by decide +kernel
theorem d_law_1270 : decode code 1270 = .ok (.iconst 0, 1) := by decide +kernel
theorem d_law_1271 : decode code 1271 = .ok (.ireturn, 1) := by decide +kernel
theorem d_law_1272 : decode code 1272 = .ok (.aload_n 1, 1) := by decide +kernel
theorem d_law_1273 : decode code 1273 = .ok (.invokevirtual 170, 3) := by decide +kernel
theorem d_law_1276 : decode code 1276 = .ok (.aload_n 2, 1) := by decide +kernel
theorem d_law_1277 : decode code 1277 = .ok (.invokevirtual 173, 3) := by decide +kernel
theorem d_law_1280 : decode code 1280 = .ok (.if_icmp .eq 106, 3) := by decide +kernel
theorem d_law_1283 : decode code 1283 = .ok (.iconst 0, 1) := by decide +kernel
theorem d_law_1284 : decode code 1284 = .ok (.ireturn, 1) := by decide +kernel
theorem d_law_1285 : decode code 1285 = .ok (.aload_n 1, 1) := by decide +kernel
theorem d_law_1286 : decode code 1286 = .ok (.invokevirtual 174, 3) := by decide +kernel
theorem d_law_1289 : decode code 1289 = .ok (.aload_n 2, 1) := by decide +kernel
theorem d_law_1290 : decode code 1290 = .ok (.invokevirtual 178, 3) := by decide +kernel
theorem d_law_1293 : decode code 1293 = .ok (.lcmp, 1) := by decide +kernel
theorem d_law_1294 : decode code 1294 = .ok (.ifCond .eq 92, 3) := by decide +kernel
theorem d_law_1297 : decode code 1297 = .ok (.iconst 0, 1) := by decide +kernel
theorem d_law_1298 : decode code 1298 = .ok (.ireturn, 1) := by decide +kernel
theorem d_law_1299 : decode code 1299 = .ok (.aload_n 1, 1) := by decide +kernel
theorem d_law_1300 : decode code 1300 = .ok (.invokevirtual 179, 3) := by decide +kernel
theorem d_law_1303 : decode code 1303 = .ok (.aload_n 2, 1) := by decide +kernel
theorem d_law_1304 : decode code 1304 = .ok (.invokevirtual 182, 3) := by decide +kernel
theorem d_law_1307 : decode code 1307 = .ok (.lcmp, 1) := by decide +kernel
theorem d_law_1308 : decode code 1308 = .ok (.ifCond .eq 78, 3) := by decide +kernel
theorem d_law_1311 : decode code 1311 = .ok (.iconst 0, 1) := by decide +kernel
theorem d_law_1312 : decode code 1312 = .ok (.ireturn, 1) := by decide +kernel
theorem d_law_1313 : decode code 1313 = .ok (.aload_n 1, 1) := by decide +kernel
theorem d_law_1314 : decode code 1314 = .ok (.aload_n 0, 1) := by decide +kernel
theorem d_law_1315 : decode code 1315 = .ok (.iload_n 3, 1) := by decide +kernel
theorem d_law_1316 : decode code 1316 = .ok (.iconst 1, 1) := by decide +kernel
theorem d_law_1317 : decode code 1317 = .ok (.iadd, 1) := by decide +kernel
theorem d_law_1318 : decode code 1318 = .ok (.iaload, 1) := by decide +kernel
theorem d_law_1319 : decode code 1319 = .ok (.invokevirtual 183, 3) := by decide +kernel
theorem d_law_1322 : decode code 1322 = .ok (.aload_n 2, 1) := by decide +kernel
theorem d_law_1323 : decode code 1323 = .ok (.aload_n 0, 1) := by decide +kernel
theorem d_law_1324 : decode code 1324 = .ok (.iload_n 3, 1) := by decide +kernel
theorem d_law_1325 : decode code 1325 = .ok (.iconst 1, 1) := by decide +kernel
theorem d_law_1326 : decode code 1326 = .ok (.iadd, 1) := by decide +kernel
theorem d_law_1327 : decode code 1327 = .ok (.iaload, 1) := by decide +kernel
theorem d_law_1328 : decode code 1328 = .ok (.invokevirtual 186, 3) := by decide +kernel
theorem d_law_1331 : decode code 1331 = .ok (.if_icmp .eq 55, 3) := by decide +kernel
theorem d_law_1334 : decode code 1334 = .ok (.iconst 0, 1) := by decide +kernel
theorem d_law_1335 : decode code 1335 = .ok (.ireturn, 1) := by decide +kernel
theorem d_law_1336 : decode code 1336 = .ok (.aload_n 1, 1) := by decide +kernel
theorem d_law_1337 : decode code 1337 = .ok (.invokevirtual 187, 3) := by decide +kernel
theorem d_law_1340 : decode code 1340 = .ok (.aload_n 2, 1) := by decide +kernel
theorem d_law_1341 : decode code 1341 = .ok (.invokevirtual 190, 3) := by decide +kernel
theorem d_law_1344 : decode code 1344 = .ok (.if_icmp .eq 42, 3) := by decide +kernel
theorem d_law_1347 : decode code 1347 = .ok (.iconst 0, 1) := by decide +kernel
theorem d_law_1348 : decode code 1348 = .ok (.ireturn, 1) := by decide +kernel
theorem d_law_1349 : decode code 1349 = .ok (.aload_n 1, 1) := by decide +kernel
theorem d_law_1350 : decode code 1350 = .ok (.aload_n 0, 1) := by decide +kernel
theorem d_law_1351 : decode code 1351 = .ok (.iload_n 3, 1) := by decide +kernel
theorem d_law_1352 : decode code 1352 = .ok (.iconst 1, 1) := by decide +kernel
theorem d_law_1353 : decode code 1353 = .ok (.iadd, 1) := by decide +kernel
theorem d_law_1354 : decode code 1354 = .ok (.iaload, 1) := by decide +kernel
theorem d_law_1355 : decode code 1355 = .ok (.invokevirtual 191, 3) := by decide +kernel
theorem d_law_1358 : decode code 1358 = .ok (.aload_n 2, 1) := by decide +kernel
theorem d_law_1359 : decode code 1359 = .ok (.aload_n 0, 1) := by decide +kernel
theorem d_law_1360 : decode code 1360 = .ok (.iload_n 3, 1) := by decide +kernel
theorem d_law_1361 : decode code 1361 = .ok (.iconst 1, 1) := by decide +kernel
theorem d_law_1362 : decode code 1362 = .ok (.iadd, 1) := by decide +kernel
theorem d_law_1363 : decode code 1363 = .ok (.iaload, 1) := by decide +kernel
theorem d_law_1364 : decode code 1364 = .ok (.invokevirtual 194, 3) := by decide +kernel
theorem d_law_1367 : decode code 1367 = .ok (.if_icmp .eq 19, 3) := by decide +kernel
theorem d_law_1370 : decode code 1370 = .ok (.iconst 0, 1) := by decide +kernel
theorem d_law_1371 : decode code 1371 = .ok (.ireturn, 1) := by decide +kernel
theorem d_law_1372 : decode code 1372 = .ok (.aload_n 1, 1) := by decide +kernel
theorem d_law_1373 : decode code 1373 = .ok (.invokevirtual 195, 3) := by decide +kernel
theorem d_law_1376 : decode code 1376 = .ok (.aload_n 2, 1) := by decide +kernel
theorem d_law_1377 : decode code 1377 = .ok (.invokevirtual 198, 3) := by decide +kernel
theorem d_law_1380 : decode code 1380 = .ok (.lcmp, 1) := by decide +kernel
theorem d_law_1381 : decode code 1381 = .ok (.ifCond .eq 5, 3) := by decide +kernel
theorem d_law_1384 : decode code 1384 = .ok (.iconst 0, 1) := by decide +kernel
theorem d_law_1385 : decode code 1385 = .ok (.ireturn, 1) := by decide +kernel
theorem d_law_1386 : decode code 1386 = .ok (.iinc 3 6, 3) := by decide +kernel
theorem d_law_1389 : decode code 1389 = .ok (.goto (-1371), 3) := by decide +kernel
theorem d_law_1392 : decode code 1392 = .ok (.iconst 1, 1) := by decide +kernel
theorem d_law_1393 : decode code 1393 = .ok (.ireturn, 1) := by decide +kernel
