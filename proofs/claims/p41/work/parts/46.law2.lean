theorem dL_law_0 : decode cL_law 0 = .ok (.new 7, 3) := by decide +kernel
theorem dL_law_3 : decode cL_law 3 = .ok (.dup, 1) := by decide +kernel
theorem dL_law_4 : decode cL_law 4 = .ok (.invokespecial 9, 3) := by decide +kernel
theorem dL_law_7 : decode cL_law 7 = .ok (.astore_n 1, 1) := by decide +kernel
theorem dL_law_8 : decode cL_law 8 = .ok (.new 10, 3) := by decide +kernel
theorem dL_law_11 : decode cL_law 11 = .ok (.dup, 1) := by decide +kernel
theorem dL_law_12 : decode cL_law 12 = .ok (.invokespecial 12, 3) := by decide +kernel
theorem dL_law_15 : decode cL_law 15 = .ok (.astore_n 2, 1) := by decide +kernel
theorem dL_law_16 : decode cL_law 16 = .ok (.iconst 0, 1) := by decide +kernel
theorem dL_law_17 : decode cL_law 17 = .ok (.istore_n 3, 1) := by decide +kernel
theorem dL_law_18 : decode cL_law 18 = .ok (.iload_n 3, 1) := by decide +kernel
theorem dL_law_19 : decode cL_law 19 = .ok (.aload_n 0, 1) := by decide +kernel
theorem dL_law_20 : decode cL_law 20 = .ok (.arraylength, 1) := by decide +kernel
theorem dL_law_21 : decode cL_law 21 = .ok (.bipush 6, 2) := by decide +kernel
theorem dL_law_23 : decode cL_law 23 = .ok (.isub, 1) := by decide +kernel
theorem dL_law_24 : decode cL_law 24 = .ok (.if_icmp .gt 1368, 3) := by decide +kernel
theorem dL_law_27 : decode cL_law 27 = .ok (.aload_n 0, 1) := by decide +kernel
theorem dL_law_28 : decode cL_law 28 = .ok (.iload_n 3, 1) := by decide +kernel
theorem dL_law_29 : decode cL_law 29 = .ok (.iaload, 1) := by decide +kernel
theorem dL_law_30 : decode cL_law 30 = .ok (.bipush 63, 2) := by decide +kernel
theorem dL_law_32 : decode cL_law 32 = .ok (.iand, 1) := by decide +kernel
theorem dL_law_33 : decode cL_law 33 = .ok (.tableswitch 1353 0 45 #[199, 262, 285, 298, 321, 354, 377, 410, 433, 456, 479, 512, 545, 568, 591, 604, 617, 650, 683, 706, 719, 742, 765, 788, 801, 834, 857, 880, 903, 936, 949, 962, 975, 988, 1011, 1034, 1067, 1090, 1149, 1172, 1195, 1218, 1251, 1284, 1307, 1330], 199) := by decide +kernel
theorem dL_law_232 : decode cL_law 232 = .ok (.aload_n 1, 1) := by decide +kernel
theorem dL_law_233 : decode cL_law 233 = .ok (.aload_n 0, 1) := by decide +kernel
theorem dL_law_234 : decode cL_law 234 = .ok (.iload_n 3, 1) := by decide +kernel
theorem dL_law_235 : decode cL_law 235 = .ok (.iconst 1, 1) := by decide +kernel
theorem dL_law_236 : decode cL_law 236 = .ok (.iadd, 1) := by decide +kernel
theorem dL_law_237 : decode cL_law 237 = .ok (.iaload, 1) := by decide +kernel
theorem dL_law_238 : decode cL_law 238 = .ok (.aload_n 0, 1) := by decide +kernel
theorem dL_law_239 : decode cL_law 239 = .ok (.iload_n 3, 1) := by decide +kernel
theorem dL_law_240 : decode cL_law 240 = .ok (.iconst 2, 1) := by decide +kernel
theorem dL_law_241 : decode cL_law 241 = .ok (.iadd, 1) := by decide +kernel
theorem dL_law_242 : decode cL_law 242 = .ok (.iaload, 1) := by decide +kernel
theorem dL_law_243 : decode cL_law 243 = .ok (.aload_n 0, 1) := by decide +kernel
theorem dL_law_244 : decode cL_law 244 = .ok (.iload_n 3, 1) := by decide +kernel
theorem dL_law_245 : decode cL_law 245 = .ok (.iconst 3, 1) := by decide +kernel
theorem dL_law_246 : decode cL_law 246 = .ok (.iadd, 1) := by decide +kernel
theorem dL_law_247 : decode cL_law 247 = .ok (.iaload, 1) := by decide +kernel
theorem dL_law_248 : decode cL_law 248 = .ok (.aload_n 0, 1) := by decide +kernel
theorem dL_law_249 : decode cL_law 249 = .ok (.iload_n 3, 1) := by decide +kernel
theorem dL_law_250 : decode cL_law 250 = .ok (.iconst 4, 1) := by decide +kernel
theorem dL_law_251 : decode cL_law 251 = .ok (.iadd, 1) := by decide +kernel
theorem dL_law_252 : decode cL_law 252 = .ok (.iaload, 1) := by decide +kernel
theorem dL_law_253 : decode cL_law 253 = .ok (.aload_n 0, 1) := by decide +kernel
theorem dL_law_254 : decode cL_law 254 = .ok (.iload_n 3, 1) := by decide +kernel
theorem dL_law_255 : decode cL_law 255 = .ok (.iconst 5, 1) := by decide +kernel
theorem dL_law_256 : decode cL_law 256 = .ok (.iadd, 1) := by decide +kernel
theorem dL_law_257 : decode cL_law 257 = .ok (.iaload, 1) := by decide +kernel
theorem dL_law_258 : decode cL_law 258 = .ok (.invokevirtual 13, 3) := by decide +kernel
theorem dL_law_261 : decode cL_law 261 = .ok (.pop, 1) := by decide +kernel
theorem dL_law_262 : decode cL_law 262 = .ok (.aload_n 2, 1) := by decide +kernel
theorem dL_law_263 : decode cL_law 263 = .ok (.aload_n 0, 1) := by decide +kernel
theorem dL_law_264 : decode cL_law 264 = .ok (.iload_n 3, 1) := by decide +kernel
theorem dL_law_265 : decode cL_law 265 = .ok (.iconst 1, 1) := by decide +kernel
theorem dL_law_266 : decode cL_law 266 = .ok (.iadd, 1) := by decide +kernel
theorem dL_law_267 : decode cL_law 267 = .ok (.iaload, 1) := by decide +kernel
theorem dL_law_268 : decode cL_law 268 = .ok (.aload_n 0, 1) := by decide +kernel
theorem dL_law_269 : decode cL_law 269 = .ok (.iload_n 3, 1) := by decide +kernel
theorem dL_law_270 : decode cL_law 270 = .ok (.iconst 2, 1) := by decide +kernel
theorem dL_law_271 : decode cL_law 271 = .ok (.iadd, 1) := by decide +kernel
theorem dL_law_272 : decode cL_law 272 = .ok (.iaload, 1) := by decide +kernel
theorem dL_law_273 : decode cL_law 273 = .ok (.aload_n 0, 1) := by decide +kernel
theorem dL_law_274 : decode cL_law 274 = .ok (.iload_n 3, 1) := by decide +kernel
theorem dL_law_275 : decode cL_law 275 = .ok (.iconst 3, 1) := by decide +kernel
theorem dL_law_276 : decode cL_law 276 = .ok (.iadd, 1) := by decide +kernel
theorem dL_law_277 : decode cL_law 277 = .ok (.iaload, 1) := by decide +kernel
theorem dL_law_278 : decode cL_law 278 = .ok (.aload_n 0, 1) := by decide +kernel
theorem dL_law_279 : decode cL_law 279 = .ok (.iload_n 3, 1) := by decide +kernel
theorem dL_law_280 : decode cL_law 280 = .ok (.iconst 4, 1) := by decide +kernel
theorem dL_law_281 : decode cL_law 281 = .ok (.iadd, 1) := by decide +kernel
theorem dL_law_282 : decode cL_law 282 = .ok (.iaload, 1) := by decide +kernel
theorem dL_law_283 : decode cL_law 283 = .ok (.aload_n 0, 1) := by decide +kernel
theorem dL_law_284 : decode cL_law 284 = .ok (.iload_n 3, 1) := by decide +kernel
theorem dL_law_285 : decode cL_law 285 = .ok (.iconst 5, 1) := by decide +kernel
theorem dL_law_286 : decode cL_law 286 = .ok (.iadd, 1) := by decide +kernel
theorem dL_law_287 : decode cL_law 287 = .ok (.iaload, 1) := by decide +kernel
theorem dL_law_288 : decode cL_law 288 = .ok (.invokevirtual 17, 3) := by decide +kernel
theorem dL_law_291 : decode cL_law 291 = .ok (.pop, 1) := by decide +kernel
theorem dL_law_292 : decode cL_law 292 = .ok (.goto 1094, 3) := by decide +kernel
theorem dL_law_295 : decode cL_law 295 = .ok (.aload_n 1, 1) := by decide +kernel
theorem dL_law_296 : decode cL_law 296 = .ok (.aload_n 0, 1) := by decide +kernel
theorem dL_law_297 : decode cL_law 297 = .ok (.iload_n 3, 1) := by decide +kernel
theorem dL_law_298 : decode cL_law 298 = .ok (.iconst 1, 1) := by decide +kernel
theorem dL_law_299 : decode cL_law 299 = .ok (.iadd, 1) := by decide +kernel
theorem dL_law_300 : decode cL_law 300 = .ok (.iaload, 1) := by decide +kernel
theorem dL_law_301 : decode cL_law 301 = .ok (.invokevirtual 18, 3) := by decide +kernel
theorem dL_law_304 : decode cL_law 304 = .ok (.pop, 1) := by decide +kernel
theorem dL_law_305 : decode cL_law 305 = .ok (.aload_n 2, 1) := by decide +kernel
theorem dL_law_306 : decode cL_law 306 = .ok (.aload_n 0, 1) := by decide +kernel
theorem dL_law_307 : decode cL_law 307 = .ok (.iload_n 3, 1) := by decide +kernel
theorem dL_law_308 : decode cL_law 308 = .ok (.iconst 1, 1) := by decide +kernel
theorem dL_law_309 : decode cL_law 309 = .ok (.iadd, 1) := by decide +kernel
theorem dL_law_310 : decode cL_law 310 = .ok (.iaload, 1) := by decide +kernel
theorem dL_law_311 : decode cL_law 311 = .ok (.invokevirtual 22, 3) := by decide +kernel
theorem dL_law_314 : decode cL_law 314 = .ok (.pop, 1) := by decide +kernel
theorem dL_law_315 : decode cL_law 315 = .ok (.goto 1071, 3) := by decide +kernel
theorem dL_law_318 : decode cL_law 318 = .ok (.aload_n 1, 1) := by decide +kernel
theorem dL_law_319 : decode cL_law 319 = .ok (.invokevirtual 23, 3) := by decide +kernel
theorem dL_law_322 : decode cL_law 322 = .ok (.pop, 1) := by decide +kernel
theorem dL_law_323 : decode cL_law 323 = .ok (.aload_n 2, 1) := by decide +kernel
theorem dL_law_324 : decode cL_law 324 = .ok (.invokevirtual 27, 3) := by decide +kernel
theorem dL_law_327 : decode cL_law 327 = .ok (.pop, 1) := by decide +kernel
theorem dL_law_328 : decode cL_law 328 = .ok (.goto 1058, 3) := by decide +kernel
theorem dL_law_331 : decode cL_law 331 = .ok (.aload_n 1, 1) := by decide +kernel
theorem dL_law_332 : decode cL_law 332 = .ok (.aload_n 0, 1) := by decide +kernel
theorem dL_law_333 : decode cL_law 333 = .ok (.iload_n 3, 1) := by decide +kernel
theorem dL_law_334 : decode cL_law 334 = .ok (.iconst 1, 1) := by decide +kernel
theorem dL_law_335 : decode cL_law 335 = .ok (.iadd, 1) := by decide +kernel
theorem dL_law_336 : decode cL_law 336 = .ok (.iaload, 1) := by decide +kernel
theorem dL_law_337 : decode cL_law 337 = .ok (.invokevirtual 28, 3) := by decide +kernel
theorem dL_law_340 : decode cL_law 340 = .ok (.pop, 1) := by decide +kernel
theorem dL_law_341 : decode cL_law 341 = .ok (.aload_n 2, 1) := by decide +kernel
theorem dL_law_342 : decode cL_law 342 = .ok (.aload_n 0, 1) := by decide +kernel
theorem dL_law_343 : decode cL_law 343 = .ok (.iload_n 3, 1) := by decide +kernel
theorem dL_law_344 : decode cL_law 344 = .ok (.iconst 1, 1) := by decide +kernel
theorem dL_law_345 : decode cL_law 345 = .ok (.iadd, 1) := by decide +kernel
theorem dL_law_346 : decode cL_law 346 = .ok (.iaload, 1) := by decide +kernel
theorem dL_law_347 : decode cL_law 347 = .ok (.invokevirtual 31, 3) := by decide +kernel
theorem dL_law_350 : decode cL_law 350 = .ok (.pop, 1) := by decide +kernel
theorem dL_law_351 : decode cL_law 351 = .ok (.goto 1035, 3) := by decide +kernel
theorem dL_law_354 : decode cL_law 354 = .ok (.aload_n 1, 1) := by decide +kernel
theorem dL_law_355 : decode cL_law 355 = .ok (.aload_n 0, 1) := by decide +kernel
theorem dL_law_356 : decode cL_law 356 = .ok (.iload_n 3, 1) := by decide +kernel
theorem dL_law_357 : decode cL_law 357 = .ok (.iconst 1, 1) := by decide +kernel
theorem dL_law_358 : decode cL_law 358 = .ok (.iadd, 1) := by decide +kernel
theorem dL_law_359 : decode cL_law 359 = .ok (.iaload, 1) := by decide +kernel
theorem dL_law_360 : decode cL_law 360 = .ok (.aload_n 0, 1) := by decide +kernel
theorem dL_law_361 : decode cL_law 361 = .ok (.iload_n 3, 1) := by decide +kernel
theorem dL_law_362 : decode cL_law 362 = .ok (.iconst 2, 1) := by decide +kernel
theorem dL_law_363 : decode cL_law 363 = .ok (.iadd, 1) := by decide +kernel
theorem dL_law_364 : decode cL_law 364 = .ok (.iaload, 1) := by decide +kernel
theorem dL_law_365 : decode cL_law 365 = .ok (.invokevirtual 32, 3) := by decide +kernel
theorem dL_law_368 : decode cL_law 368 = .ok (.pop, 1) := by decide +kernel
theorem dL_law_369 : decode cL_law 369 = .ok (.aload_n 2, 1) := by decide +kernel
theorem dL_law_370 : decode cL_law 370 = .ok (.aload_n 0, 1) := by decide +kernel
theorem dL_law_371 : decode cL_law 371 = .ok (.iload_n 3, 1) := by decide +kernel
theorem dL_law_372 : decode cL_law 372 = .ok (.iconst 1, 1) := by decide +kernel
theorem dL_law_373 : decode cL_law 373 = .ok (.iadd, 1) := by decide +kernel
theorem dL_law_374 : decode cL_law 374 = .ok (.iaload, 1) := by decide +kernel
theorem dL_law_375 : decode cL_law 375 = .ok (.aload_n 0, 1) := by decide +kernel
theorem dL_law_376 : decode cL_law 376 = .ok (.iload_n 3, 1) := by decide +kernel
theorem dL_law_377 : decode cL_law 377 = .ok (.iconst 2, 1) := by decide +kernel
theorem dL_law_378 : decode cL_law 378 = .ok (.iadd, 1) := by decide +kernel
theorem dL_law_379 : decode cL_law 379 = .ok (.iaload, 1) := by decide +kernel
theorem dL_law_380 : decode cL_law 380 = .ok (.invokevirtual 36, 3) := by decide +kernel
theorem dL_law_383 : decode cL_law 383 = .ok (.pop, 1) := by decide +kernel
theorem dL_law_384 : decode cL_law 384 = .ok (.goto 1002, 3) := by decide +kernel
theorem dL_law_387 : decode cL_law 387 = .ok (.aload_n 1, 1) := by decide +kernel
theorem dL_law_388 : decode cL_law 388 = .ok (.aload_n 0, 1) := by decide +kernel
theorem dL_law_389 : decode cL_law 389 = .ok (.iload_n 3, 1) := by decide +kernel
theorem dL_law_390 : decode cL_law 390 = .ok (.iconst 1, 1) := by decide +kernel
theorem dL_law_391 : decode cL_law 391 = .ok (.iadd, 1) := by decide +kernel
theorem dL_law_392 : decode cL_law 392 = .ok (.iaload, 1) := by decide +kernel
theorem dL_law_393 : decode cL_law 393 = .ok (.invokevirtual 37, 3) := by decide +kernel
theorem dL_law_396 : decode cL_law 396 = .ok (.pop, 1) := by decide +kernel
theorem dL_law_397 : decode cL_law 397 = .ok (.aload_n 2, 1) := by decide +kernel
theorem dL_law_398 : decode cL_law 398 = .ok (.aload_n 0, 1) := by decide +kernel
theorem dL_law_399 : decode cL_law 399 = .ok (.iload_n 3, 1) := by decide +kernel
theorem dL_law_400 : decode cL_law 400 = .ok (.iconst 1, 1) := by decide +kernel
theorem dL_law_401 : decode cL_law 401 = .ok (.iadd, 1) := by decide +kernel
theorem dL_law_402 : decode cL_law 402 = .ok (.iaload, 1) := by decide +kernel
theorem dL_law_403 : decode cL_law 403 = .ok (.invokevirtual 40, 3) := by decide +kernel
theorem dL_law_406 : decode cL_law 406 = .ok (.pop, 1) := by decide +kernel
theorem dL_law_407 : decode cL_law 407 = .ok (.goto 979, 3) := by decide +kernel
theorem dL_law_410 : decode cL_law 410 = .ok (.aload_n 1, 1) := by decide +kernel
theorem dL_law_411 : decode cL_law 411 = .ok (.aload_n 0, 1) := by decide +kernel
theorem dL_law_412 : decode cL_law 412 = .ok (.iload_n 3, 1) := by decide +kernel
theorem dL_law_413 : decode cL_law 413 = .ok (.iconst 1, 1) := by decide +kernel
theorem dL_law_414 : decode cL_law 414 = .ok (.iadd, 1) := by decide +kernel
theorem dL_law_415 : decode cL_law 415 = .ok (.iaload, 1) := by decide +kernel
theorem dL_law_416 : decode cL_law 416 = .ok (.aload_n 0, 1) := by decide +kernel
theorem dL_law_417 : decode cL_law 417 = .ok (.iload_n 3, 1) := by decide +kernel
theorem dL_law_418 : decode cL_law 418 = .ok (.iconst 2, 1) := by decide +kernel
theorem dL_law_419 : decode cL_law 419 = .ok (.iadd, 1) := by decide +kernel
theorem dL_law_420 : decode cL_law 420 = .ok (.iaload, 1) := by decide +kernel
theorem dL_law_421 : decode cL_law 421 = .ok (.invokevirtual 41, 3) := by decide +kernel
theorem dL_law_424 : decode cL_law 424 = .ok (.pop, 1) := by decide +kernel
theorem dL_law_425 : decode cL_law 425 = .ok (.aload_n 2, 1) := by decide +kernel
theorem dL_law_426 : decode cL_law 426 = .ok (.aload_n 0, 1) := by decide +kernel
theorem dL_law_427 : decode cL_law 427 = .ok (.iload_n 3, 1) := by decide +kernel
theorem dL_law_428 : decode cL_law 428 = .ok (.iconst 1, 1) := by decide +kernel
theorem dL_law_429 : decode cL_law 429 = .ok (.iadd, 1) := by decide +kernel
theorem dL_law_430 : decode cL_law 430 = .ok (.iaload, 1) := by decide +kernel
theorem dL_law_431 : decode cL_law 431 = .ok (.aload_n 0, 1) := by decide +kernel
theorem dL_law_432 : decode cL_law 432 = .ok (.iload_n 3, 1) := by decide +kernel
theorem dL_law_433 : decode cL_law 433 = .ok (.iconst 2, 1) := by decide +kernel
theorem dL_law_434 : decode cL_law 434 = .ok (.iadd, 1) := by decide +kernel
theorem dL_law_435 : decode cL_law 435 = .ok (.iaload, 1) := by decide +kernel
theorem dL_law_436 : decode cL_law 436 = .ok (.invokevirtual 44, 3) := by decide +kernel
theorem dL_law_439 : decode cL_law 439 = .ok (.pop, 1) := by decide +kernel
theorem dL_law_440 : decode cL_law 440 = .ok (.goto 946, 3) := by decide +kernel
theorem dL_law_443 : decode cL_law 443 = .ok (.aload_n 1, 1) := by decide +kernel
theorem dL_law_444 : decode cL_law 444 = .ok (.aload_n 0, 1) := by decide +kernel
theorem dL_law_445 : decode cL_law 445 = .ok (.iload_n 3, 1) := by decide +kernel
theorem dL_law_446 : decode cL_law 446 = .ok (.iconst 1, 1) := by decide +kernel
theorem dL_law_447 : decode cL_law 447 = .ok (.iadd, 1) := by decide +kernel
theorem dL_law_448 : decode cL_law 448 = .ok (.iaload, 1) := by decide +kernel
theorem dL_law_449 : decode cL_law 449 = .ok (.invokevirtual 45, 3) := by decide +kernel
theorem dL_law_452 : decode cL_law 452 = .ok (.pop, 1) := by decide +kernel
theorem dL_law_453 : decode cL_law 453 = .ok (.aload_n 2, 1) := by decide +kernel
theorem dL_law_454 : decode cL_law 454 = .ok (.aload_n 0, 1) := by decide +kernel
theorem dL_law_455 : decode cL_law 455 = .ok (.iload_n 3, 1) := by decide +kernel
theorem dL_law_456 : decode cL_law 456 = .ok (.iconst 1, 1) := by decide +kernel
theorem dL_law_457 : decode cL_law 457 = .ok (.iadd, 1) := by decide +kernel
theorem dL_law_458 : decode cL_law 458 = .ok (.iaload, 1) := by decide +kernel
theorem dL_law_459 : decode cL_law 459 = .ok (.invokevirtual 48, 3) := by decide +kernel
theorem dL_law_462 : decode cL_law 462 = .ok (.pop, 1) := by decide +kernel
theorem dL_law_463 : decode cL_law 463 = .ok (.goto 923, 3) := by decide +kernel
theorem dL_law_466 : decode cL_law 466 = .ok (.aload_n 1, 1) := by decide +kernel
theorem dL_law_467 : decode cL_law 467 = .ok (.aload_n 0, 1) := by decide +kernel
theorem dL_law_468 : decode cL_law 468 = .ok (.iload_n 3, 1) := by decide +kernel
theorem dL_law_469 : decode cL_law 469 = .ok (.iconst 1, 1) := by decide +kernel
theorem dL_law_470 : decode cL_law 470 = .ok (.iadd, 1) := by decide +kernel
theorem dL_law_471 : decode cL_law 471 = .ok (.iaload, 1) := by decide +kernel
theorem dL_law_472 : decode cL_law 472 = .ok (.invokevirtual 49, 3) := by decide +kernel
theorem dL_law_475 : decode cL_law 475 = .ok (.pop, 1) := by decide +kernel
theorem dL_law_476 : decode cL_law 476 = .ok (.aload_n 2, 1) := by decide +kernel
theorem dL_law_477 : decode cL_law 477 = .ok (.aload_n 0, 1) := by decide +kernel
theorem dL_law_478 : decode cL_law 478 = .ok (.iload_n 3, 1) := by decide +kernel
theorem dL_law_479 : decode cL_law 479 = .ok (.iconst 1, 1) := by decide +kernel
theorem dL_law_480 : decode cL_law 480 = .ok (.iadd, 1) := by decide +kernel
theorem dL_law_481 : decode cL_law 481 = .ok (.iaload, 1) := by decide +kernel
theorem dL_law_482 : decode cL_law 482 = .ok (.invokevirtual 52, 3) := by decide +kernel
theorem dL_law_485 : decode cL_law 485 = .ok (.pop, 1) := by decide +kernel
theorem dL_law_486 : decode cL_law 486 = .ok (.goto 900, 3) := by decide +kernel
theorem dL_law_489 : decode cL_law 489 = .ok (.aload_n 1, 1) := by decide +kernel
theorem dL_law_490 : decode cL_law 490 = .ok (.aload_n 0, 1) := by decide +kernel
theorem dL_law_491 : decode cL_law 491 = .ok (.iload_n 3, 1) := by decide +kernel
theorem dL_law_492 : decode cL_law 492 = .ok (.iconst 1, 1) := by decide +kernel
theorem dL_law_493 : decode cL_law 493 = .ok (.iadd, 1) := by decide +kernel
theorem dL_law_494 : decode cL_law 494 = .ok (.iaload, 1) := by decide +kernel
theorem dL_law_495 : decode cL_law 495 = .ok (.invokevirtual 53, 3) := by decide +kernel
theorem dL_law_498 : decode cL_law 498 = .ok (.pop, 1) := by decide +kernel
theorem dL_law_499 : decode cL_law 499 = .ok (.aload_n 2, 1) := by decide +kernel
theorem dL_law_500 : decode cL_law 500 = .ok (.aload_n 0, 1) := by decide +kernel
theorem dL_law_501 : decode cL_law 501 = .ok (.iload_n 3, 1) := by decide +kernel
theorem dL_law_502 : decode cL_law 502 = .ok (.iconst 1, 1) := by decide +kernel
theorem dL_law_503 : decode cL_law 503 = .ok (.iadd, 1) := by decide +kernel
theorem dL_law_504 : decode cL_law 504 = .ok (.iaload, 1) := by decide +kernel
theorem dL_law_505 : decode cL_law 505 = .ok (.invokevirtual 56, 3) := by decide +kernel
theorem dL_law_508 : decode cL_law 508 = .ok (.pop, 1) := by decide +kernel
theorem dL_law_509 : decode cL_law 509 = .ok (.goto 877, 3) := by decide +kernel
theorem dL_law_512 : decode cL_law 512 = .ok (.aload_n 1, 1) := by decide +kernel
theorem dL_law_513 : decode cL_law 513 = .ok (.aload_n 0, 1) := by decide +kernel
theorem dL_law_514 : decode cL_law 514 = .ok (.iload_n 3, 1) := by decide +kernel
theorem dL_law_515 : decode cL_law 515 = .ok (.iconst 1, 1) := by decide +kernel
theorem dL_law_516 : decode cL_law 516 = .ok (.iadd, 1) := by decide +kernel
theorem dL_law_517 : decode cL_law 517 = .ok (.iaload, 1) := by decide +kernel
theorem dL_law_518 : decode cL_law 518 = .ok (.aload_n 0, 1) := by decide +kernel
theorem dL_law_519 : decode cL_law 519 = .ok (.iload_n 3, 1) := by decide +kernel
theorem dL_law_520 : decode cL_law 520 = .ok (.iconst 2, 1) := by decide +kernel
theorem dL_law_521 : decode cL_law 521 = .ok (.iadd, 1) := by decide +kernel
theorem dL_law_522 : decode cL_law 522 = .ok (.iaload, 1) := by decide +kernel
theorem dL_law_523 : decode cL_law 523 = .ok (.invokevirtual 57, 3) := by decide +kernel
theorem dL_law_526 : decode cL_law 526 = .ok (.pop, 1) := by decide +kernel
theorem dL_law_527 : decode cL_law 527 = .ok (.aload_n 2, 1) := by decide +kernel
theorem dL_law_528 : decode cL_law 528 = .ok (.aload_n 0, 1) := by decide +kernel
theorem dL_law_529 : decode cL_law 529 = .ok (.iload_n 3, 1) := by decide +kernel
theorem dL_law_530 : decode cL_law 530 = .ok (.iconst 1, 1) := by decide +kernel
theorem dL_law_531 : decode cL_law 531 = .ok (.iadd, 1) := by decide +kernel
theorem dL_law_532 : decode cL_law 532 = .ok (.iaload, 1) := by decide +kernel
theorem dL_law_533 : decode cL_law 533 = .ok (.aload_n 0, 1) := by decide +kernel
theorem dL_law_534 : decode cL_law 534 = .ok (.iload_n 3, 1) := by decide +kernel
theorem dL_law_535 : decode cL_law 535 = .ok (.iconst 2, 1) := by decide +kernel
theorem dL_law_536 : decode cL_law 536 = .ok (.iadd, 1) := by decide +kernel
theorem dL_law_537 : decode cL_law 537 = .ok (.iaload, 1) := by decide +kernel
theorem dL_law_538 : decode cL_law 538 = .ok (.invokevirtual 60, 3) := by decide +kernel
theorem dL_law_541 : decode cL_law 541 = .ok (.pop, 1) := by decide +kernel
theorem dL_law_542 : decode cL_law 542 = .ok (.goto 844, 3) := by decide +kernel
theorem dL_law_545 : decode cL_law 545 = .ok (.aload_n 1, 1) := by decide +kernel
theorem dL_law_546 : decode cL_law 546 = .ok (.aload_n 0, 1) := by decide +kernel
theorem dL_law_547 : decode cL_law 547 = .ok (.iload_n 3, 1) := by decide +kernel
theorem dL_law_548 : decode cL_law 548 = .ok (.iconst 1, 1) := by decide +kernel
theorem dL_law_549 : decode cL_law 549 = .ok (.iadd, 1) := by decide +kernel
theorem dL_law_550 : decode cL_law 550 = .ok (.iaload, 1) := by decide +kernel
theorem dL_law_551 : decode cL_law 551 = .ok (.aload_n 0, 1) := by decide +kernel
theorem dL_law_552 : decode cL_law 552 = .ok (.iload_n 3, 1) := by decide +kernel
theorem dL_law_553 : decode cL_law 553 = .ok (.iconst 2, 1) := by decide +kernel
theorem dL_law_554 : decode cL_law 554 = .ok (.iadd, 1) := by decide +kernel
theorem dL_law_555 : decode cL_law 555 = .ok (.iaload, 1) := by decide +kernel
theorem dL_law_556 : decode cL_law 556 = .ok (.invokevirtual 61, 3) := by decide +kernel
theorem dL_law_559 : decode cL_law 559 = .ok (.pop, 1) := by decide +kernel
theorem dL_law_560 : decode cL_law 560 = .ok (.aload_n 2, 1) := by decide +kernel
theorem dL_law_561 : decode cL_law 561 = .ok (.aload_n 0, 1) := by decide +kernel
theorem dL_law_562 : decode cL_law 562 = .ok (.iload_n 3, 1) := by decide +kernel
theorem dL_law_563 : decode cL_law 563 = .ok (.iconst 1, 1) := by decide +kernel
theorem dL_law_564 : decode cL_law 564 = .ok (.iadd, 1) := by decide +kernel
theorem dL_law_565 : decode cL_law 565 = .ok (.iaload, 1) := by decide +kernel
theorem dL_law_566 : decode cL_law 566 = .ok (.aload_n 0, 1) := by decide +kernel
theorem dL_law_567 : decode cL_law 567 = .ok (.iload_n 3, 1) := by decide +kernel
theorem dL_law_568 : decode cL_law 568 = .ok (.iconst 2, 1) := by decide +kernel
theorem dL_law_569 : decode cL_law 569 = .ok (.iadd, 1) := by decide +kernel
theorem dL_law_570 : decode cL_law 570 = .ok (.iaload, 1) := by decide +kernel
theorem dL_law_571 : decode cL_law 571 = .ok (.invokevirtual 64, 3) := by decide +kernel
theorem dL_law_574 : decode cL_law 574 = .ok (.pop, 1) := by decide +kernel
theorem dL_law_575 : decode cL_law 575 = .ok (.goto 811, 3) := by decide +kernel
theorem dL_law_578 : decode cL_law 578 = .ok (.aload_n 1, 1) := by decide +kernel
theorem dL_law_579 : decode cL_law 579 = .ok (.aload_n 0, 1) := by decide +kernel
theorem dL_law_580 : decode cL_law 580 = .ok (.iload_n 3, 1) := by decide +kernel
theorem dL_law_581 : decode cL_law 581 = .ok (.iconst 1, 1) := by decide +kernel
theorem dL_law_582 : decode cL_law 582 = .ok (.iadd, 1) := by decide +kernel
theorem dL_law_583 : decode cL_law 583 = .ok (.iaload, 1) := by decide +kernel
theorem dL_law_584 : decode cL_law 584 = .ok (.invokevirtual 65, 3) := by decide +kernel
theorem dL_law_587 : decode cL_law 587 = .ok (.pop, 1) := by decide +kernel
theorem dL_law_588 : decode cL_law 588 = .ok (.aload_n 2, 1) := by decide +kernel
theorem dL_law_589 : decode cL_law 589 = .ok (.aload_n 0, 1) := by decide +kernel
theorem dL_law_590 : decode cL_law 590 = .ok (.iload_n 3, 1) := by decide +kernel
theorem dL_law_591 : decode cL_law 591 = .ok (.iconst 1, 1) := by decide +kernel
theorem dL_law_592 : decode cL_law 592 = .ok (.iadd, 1) := by decide +kernel
theorem dL_law_593 : decode cL_law 593 = .ok (.iaload, 1) := by decide +kernel
theorem dL_law_594 : decode cL_law 594 = .ok (.invokevirtual 68, 3) := by decide +kernel
theorem dL_law_597 : decode cL_law 597 = .ok (.pop, 1) := by decide +kernel
theorem dL_law_598 : decode cL_law 598 = .ok (.goto 788, 3) := by decide +kernel
theorem dL_law_601 : decode cL_law 601 = .ok (.aload_n 1, 1) := by decide +kernel
theorem dL_law_602 : decode cL_law 602 = .ok (.aload_n 0, 1) := by decide +kernel
theorem dL_law_603 : decode cL_law 603 = .ok (.iload_n 3, 1) := by decide +kernel
theorem dL_law_604 : decode cL_law 604 = .ok (.iconst 1, 1) := by decide +kernel
theorem dL_law_605 : decode cL_law 605 = .ok (.iadd, 1) := by decide +kernel
theorem dL_law_606 : decode cL_law 606 = .ok (.iaload, 1) := by decide +kernel
theorem dL_law_607 : decode cL_law 607 = .ok (.invokevirtual 69, 3) := by decide +kernel
theorem dL_law_610 : decode cL_law 610 = .ok (.pop, 1) := by decide +kernel
theorem dL_law_611 : decode cL_law 611 = .ok (.aload_n 2, 1) := by decide +kernel
theorem dL_law_612 : decode cL_law 612 = .ok (.aload_n 0, 1) := by decide +kernel
theorem dL_law_613 : decode cL_law 613 = .ok (.iload_n 3, 1) := by decide +kernel
theorem dL_law_614 : decode cL_law 614 = .ok (.iconst 1, 1) := by decide +kernel
theorem dL_law_615 : decode cL_law 615 = .ok (.iadd, 1) := by decide +kernel
theorem dL_law_616 : decode cL_law 616 = .ok (.iaload, 1) := by decide +kernel
theorem dL_law_617 : decode cL_law 617 = .ok (.invokevirtual 72, 3) := by decide +kernel
theorem dL_law_620 : decode cL_law 620 = .ok (.pop, 1) := by decide +kernel
theorem dL_law_621 : decode cL_law 621 = .ok (.goto 765, 3) := by decide +kernel
theorem dL_law_624 : decode cL_law 624 = .ok (.aload_n 1, 1) := by decide +kernel
theorem dL_law_625 : decode cL_law 625 = .ok (.invokevirtual 73, 3) := by decide +kernel
theorem dL_law_628 : decode cL_law 628 = .ok (.pop, 1) := by decide +kernel
theorem dL_law_629 : decode cL_law 629 = .ok (.aload_n 2, 1) := by decide +kernel
theorem dL_law_630 : decode cL_law 630 = .ok (.invokevirtual 77, 3) := by decide +kernel
theorem dL_law_633 : decode cL_law 633 = .ok (.pop, 1) := by decide +kernel
theorem dL_law_634 : decode cL_law 634 = .ok (.goto 752, 3) := by decide +kernel
theorem dL_law_637 : decode cL_law 637 = .ok (.aload_n 1, 1) := by decide +kernel
theorem dL_law_638 : decode cL_law 638 = .ok (.invokevirtual 78, 3) := by decide +kernel
theorem dL_law_641 : decode cL_law 641 = .ok (.pop, 1) := by decide +kernel
theorem dL_law_642 : decode cL_law 642 = .ok (.aload_n 2, 1) := by decide +kernel
theorem dL_law_643 : decode cL_law 643 = .ok (.invokevirtual 81, 3) := by decide +kernel
theorem dL_law_646 : decode cL_law 646 = .ok (.pop, 1) := by decide +kernel
theorem dL_law_647 : decode cL_law 647 = .ok (.goto 739, 3) := by decide +kernel
theorem dL_law_650 : decode cL_law 650 = .ok (.aload_n 1, 1) := by decide +kernel
theorem dL_law_651 : decode cL_law 651 = .ok (.aload_n 0, 1) := by decide +kernel
theorem dL_law_652 : decode cL_law 652 = .ok (.iload_n 3, 1) := by decide +kernel
theorem dL_law_653 : decode cL_law 653 = .ok (.iconst 1, 1) := by decide +kernel
theorem dL_law_654 : decode cL_law 654 = .ok (.iadd, 1) := by decide +kernel
theorem dL_law_655 : decode cL_law 655 = .ok (.iaload, 1) := by decide +kernel
theorem dL_law_656 : decode cL_law 656 = .ok (.aload_n 0, 1) := by decide +kernel
theorem dL_law_657 : decode cL_law 657 = .ok (.iload_n 3, 1) := by decide +kernel
theorem dL_law_658 : decode cL_law 658 = .ok (.iconst 2, 1) := by decide +kernel
theorem dL_law_659 : decode cL_law 659 = .ok (.iadd, 1) := by decide +kernel
theorem dL_law_660 : decode cL_law 660 = .ok (.iaload, 1) := by decide +kernel
theorem dL_law_661 : decode cL_law 661 = .ok (.invokevirtual 82, 3) := by decide +kernel
theorem dL_law_664 : decode cL_law 664 = .ok (.pop, 1) := by decide +kernel
theorem dL_law_665 : decode cL_law 665 = .ok (.aload_n 2, 1) := by decide +kernel
theorem dL_law_666 : decode cL_law 666 = .ok (.aload_n 0, 1) := by decide +kernel
theorem dL_law_667 : decode cL_law 667 = .ok (.iload_n 3, 1) := by decide +kernel
theorem dL_law_668 : decode cL_law 668 = .ok (.iconst 1, 1) := by decide +kernel
theorem dL_law_669 : decode cL_law 669 = .ok (.iadd, 1) := by decide +kernel
theorem dL_law_670 : decode cL_law 670 = .ok (.iaload, 1) := by decide +kernel
theorem dL_law_671 : decode cL_law 671 = .ok (.aload_n 0, 1) := by decide +kernel
theorem dL_law_672 : decode cL_law 672 = .ok (.iload_n 3, 1) := by decide +kernel
theorem dL_law_673 : decode cL_law 673 = .ok (.iconst 2, 1) := by decide +kernel
theorem dL_law_674 : decode cL_law 674 = .ok (.iadd, 1) := by decide +kernel
theorem dL_law_675 : decode cL_law 675 = .ok (.iaload, 1) := by decide +kernel
theorem dL_law_676 : decode cL_law 676 = .ok (.invokevirtual 85, 3) := by decide +kernel
theorem dL_law_679 : decode cL_law 679 = .ok (.pop, 1) := by decide +kernel
theorem dL_law_680 : decode cL_law 680 = .ok (.goto 706, 3) := by decide +kernel
theorem dL_law_683 : decode cL_law 683 = .ok (.aload_n 1, 1) := by decide +kernel
theorem dL_law_684 : decode cL_law 684 = .ok (.aload_n 0, 1) := by decide +kernel
theorem dL_law_685 : decode cL_law 685 = .ok (.iload_n 3, 1) := by decide +kernel
theorem dL_law_686 : decode cL_law 686 = .ok (.iconst 1, 1) := by decide +kernel
theorem dL_law_687 : decode cL_law 687 = .ok (.iadd, 1) := by decide +kernel
theorem dL_law_688 : decode cL_law 688 = .ok (.iaload, 1) := by decide +kernel
theorem dL_law_689 : decode cL_law 689 = .ok (.aload_n 0, 1) := by decide +kernel
theorem dL_law_690 : decode cL_law 690 = .ok (.iload_n 3, 1) := by decide +kernel
theorem dL_law_691 : decode cL_law 691 = .ok (.iconst 2, 1) := by decide +kernel
theorem dL_law_692 : decode cL_law 692 = .ok (.iadd, 1) := by decide +kernel
theorem dL_law_693 : decode cL_law 693 = .ok (.iaload, 1) := by decide +kernel
theorem dL_law_694 : decode cL_law 694 = .ok (.invokevirtual 86, 3) := by decide +kernel
theorem dL_law_697 : decode cL_law 697 = .ok (.pop, 1) := by decide +kernel
theorem dL_law_698 : decode cL_law 698 = .ok (.aload_n 2, 1) := by decide +kernel
theorem dL_law_699 : decode cL_law 699 = .ok (.aload_n 0, 1) := by decide +kernel
theorem dL_law_700 : decode cL_law 700 = .ok (.iload_n 3, 1) := by decide +kernel
theorem dL_law_701 : decode cL_law 701 = .ok (.iconst 1, 1) := by decide +kernel
theorem dL_law_702 : decode cL_law 702 = .ok (.iadd, 1) := by decide +kernel
theorem dL_law_703 : decode cL_law 703 = .ok (.iaload, 1) := by decide +kernel
theorem dL_law_704 : decode cL_law 704 = .ok (.aload_n 0, 1) := by decide +kernel
theorem dL_law_705 : decode cL_law 705 = .ok (.iload_n 3, 1) := by decide +kernel
theorem dL_law_706 : decode cL_law 706 = .ok (.iconst 2, 1) := by decide +kernel
theorem dL_law_707 : decode cL_law 707 = .ok (.iadd, 1) := by decide +kernel
theorem dL_law_708 : decode cL_law 708 = .ok (.iaload, 1) := by decide +kernel
theorem dL_law_709 : decode cL_law 709 = .ok (.invokevirtual 89, 3) := by decide +kernel
theorem dL_law_712 : decode cL_law 712 = .ok (.pop, 1) := by decide +kernel
theorem dL_law_713 : decode cL_law 713 = .ok (.goto 673, 3) := by decide +kernel
theorem dL_law_716 : decode cL_law 716 = .ok (.aload_n 1, 1) := by decide +kernel
theorem dL_law_717 : decode cL_law 717 = .ok (.aload_n 0, 1) := by decide +kernel
theorem dL_law_718 : decode cL_law 718 = .ok (.iload_n 3, 1) := by decide +kernel
theorem dL_law_719 : decode cL_law 719 = .ok (.iconst 1, 1) := by decide +kernel
theorem dL_law_720 : decode cL_law 720 = .ok (.iadd, 1) := by decide +kernel
theorem dL_law_721 : decode cL_law 721 = .ok (.iaload, 1) := by decide +kernel
theorem dL_law_722 : decode cL_law 722 = .ok (.invokevirtual 90, 3) := by decide +kernel
theorem dL_law_725 : decode cL_law 725 = .ok (.pop, 1) := by decide +kernel
theorem dL_law_726 : decode cL_law 726 = .ok (.aload_n 2, 1) := by decide +kernel
theorem dL_law_727 : decode cL_law 727 = .ok (.aload_n 0, 1) := by decide +kernel
theorem dL_law_728 : decode cL_law 728 = .ok (.iload_n 3, 1) := by decide +kernel
theorem dL_law_729 : decode cL_law 729 = .ok (.iconst 1, 1) := by decide +kernel
theorem dL_law_730 : decode cL_law 730 = .ok (.iadd, 1) := by decide +kernel
theorem dL_law_731 : decode cL_law 731 = .ok (.iaload, 1) := by decide +kernel
theorem dL_law_732 : decode cL_law 732 = .ok (.invokevirtual 93, 3) := by decide +kernel
theorem dL_law_735 : decode cL_law 735 = .ok (.pop, 1) := by decide +kernel
theorem dL_law_736 : decode cL_law 736 = .ok (.goto 650, 3) := by decide +kernel
theorem dL_law_739 : decode cL_law 739 = .ok (.aload_n 1, 1) := by decide +kernel
theorem dL_law_740 : decode cL_law 740 = .ok (.invokevirtual 94, 3) := by decide +kernel
theorem dL_law_743 : decode cL_law 743 = .ok (.pop, 1) := by decide +kernel
theorem dL_law_744 : decode cL_law 744 = .ok (.aload_n 2, 1) := by decide +kernel
theorem dL_law_745 : decode cL_law 745 = .ok (.invokevirtual 97, 3) := by decide +kernel
theorem dL_law_748 : decode cL_law 748 = .ok (.pop, 1) := by decide +kernel
theorem dL_law_749 : decode cL_law 749 = .ok (.goto 637, 3) := by decide +kernel
theorem dL_law_752 : decode cL_law 752 = .ok (.aload_n 1, 1) := by decide +kernel
theorem dL_law_753 : decode cL_law 753 = .ok (.aload_n 0, 1) := by decide +kernel
theorem dL_law_754 : decode cL_law 754 = .ok (.iload_n 3, 1) := by decide +kernel
theorem dL_law_755 : decode cL_law 755 = .ok (.iconst 1, 1) := by decide +kernel
theorem dL_law_756 : decode cL_law 756 = .ok (.iadd, 1) := by decide +kernel
theorem dL_law_757 : decode cL_law 757 = .ok (.iaload, 1) := by decide +kernel
theorem dL_law_758 : decode cL_law 758 = .ok (.invokevirtual 98, 3) := by decide +kernel
theorem dL_law_761 : decode cL_law 761 = .ok (.pop, 1) := by decide +kernel
theorem dL_law_762 : decode cL_law 762 = .ok (.aload_n 2, 1) := by decide +kernel
theorem dL_law_763 : decode cL_law 763 = .ok (.aload_n 0, 1) := by decide +kernel
theorem dL_law_764 : decode cL_law 764 = .ok (.iload_n 3, 1) := by decide +kernel
theorem dL_law_765 : decode cL_law 765 = .ok (.iconst 1, 1) := by decide +kernel
theorem dL_law_766 : decode cL_law 766 = .ok (.iadd, 1) := by decide +kernel
theorem dL_law_767 : decode cL_law 767 = .ok (.iaload, 1) := by decide +kernel
theorem dL_law_768 : decode cL_law 768 = .ok (.invokevirtual 101, 3) := by decide +kernel
theorem dL_law_771 : decode cL_law 771 = .ok (.pop, 1) := by decide +kernel
theorem dL_law_772 : decode cL_law 772 = .ok (.goto 614, 3) := by decide +kernel
theorem dL_law_775 : decode cL_law 775 = .ok (.aload_n 1, 1) := by decide +kernel
theorem dL_law_776 : decode cL_law 776 = .ok (.aload_n 0, 1) := by decide +kernel
theorem dL_law_777 : decode cL_law 777 = .ok (.iload_n 3, 1) := by decide +kernel
theorem dL_law_778 : decode cL_law 778 = .ok (.iconst 1, 1) := by decide +kernel
theorem dL_law_779 : decode cL_law 779 = .ok (.iadd, 1) := by decide +kernel
theorem dL_law_780 : decode cL_law 780 = .ok (.iaload, 1) := by decide +kernel
theorem dL_law_781 : decode cL_law 781 = .ok (.invokevirtual 102, 3) := by decide +kernel
theorem dL_law_784 : decode cL_law 784 = .ok (.pop, 1) := by decide +kernel
theorem dL_law_785 : decode cL_law 785 = .ok (.aload_n 2, 1) := by decide +kernel
theorem dL_law_786 : decode cL_law 786 = .ok (.aload_n 0, 1) := by decide +kernel
theorem dL_law_787 : decode cL_law 787 = .ok (.iload_n 3, 1) := by decide +kernel
theorem dL_law_788 : decode cL_law 788 = .ok (.iconst 1, 1) := by decide +kernel
theorem dL_law_789 : decode cL_law 789 = .ok (.iadd, 1) := by decide +kernel
theorem dL_law_790 : decode cL_law 790 = .ok (.iaload, 1) := by decide +kernel
theorem dL_law_791 : decode cL_law 791 = .ok (.invokevirtual 105, 3) := by decide +kernel
theorem dL_law_794 : decode cL_law 794 = .ok (.pop, 1) := by decide +kernel
theorem dL_law_795 : decode cL_law 795 = .ok (.goto 591, 3) := by decide +kernel
theorem dL_law_798 : decode cL_law 798 = .ok (.aload_n 1, 1) := by decide +kernel
theorem dL_law_799 : decode cL_law 799 = .ok (.aload_n 0, 1) := by decide +kernel
theorem dL_law_800 : decode cL_law 800 = .ok (.iload_n 3, 1) := by decide +kernel
theorem dL_law_801 : decode cL_law 801 = .ok (.iconst 1, 1) := by decide +kernel
theorem dL_law_802 : decode cL_law 802 = .ok (.iadd, 1) := by decide +kernel
theorem dL_law_803 : decode cL_law 803 = .ok (.iaload, 1) := by decide +kernel
theorem dL_law_804 : decode cL_law 804 = .ok (.invokevirtual 106, 3) := by decide +kernel
theorem dL_law_807 : decode cL_law 807 = .ok (.pop, 1) := by decide +kernel
theorem dL_law_808 : decode cL_law 808 = .ok (.aload_n 2, 1) := by decide +kernel
theorem dL_law_809 : decode cL_law 809 = .ok (.aload_n 0, 1) := by decide +kernel
theorem dL_law_810 : decode cL_law 810 = .ok (.iload_n 3, 1) := by decide +kernel
theorem dL_law_811 : decode cL_law 811 = .ok (.iconst 1, 1) := by decide +kernel
theorem dL_law_812 : decode cL_law 812 = .ok (.iadd, 1) := by decide +kernel
theorem dL_law_813 : decode cL_law 813 = .ok (.iaload, 1) := by decide +kernel
theorem dL_law_814 : decode cL_law 814 = .ok (.invokevirtual 109, 3) := by decide +kernel
theorem dL_law_817 : decode cL_law 817 = .ok (.pop, 1) := by decide +kernel
theorem dL_law_818 : decode cL_law 818 = .ok (.goto 568, 3) := by decide +kernel
theorem dL_law_821 : decode cL_law 821 = .ok (.aload_n 1, 1) := by decide +kernel
theorem dL_law_822 : decode cL_law 822 = .ok (.invokevirtual 110, 3) := by decide +kernel
theorem dL_law_825 : decode cL_law 825 = .ok (.pop, 1) := by decide +kernel
theorem dL_law_826 : decode cL_law 826 = .ok (.aload_n 2, 1) := by decide +kernel
theorem dL_law_827 : decode cL_law 827 = .ok (.invokevirtual 113, 3) := by decide +kernel
theorem dL_law_830 : decode cL_law 830 = .ok (.pop, 1) := by decide +kernel
theorem dL_law_831 : decode cL_law 831 = .ok (.goto 555, 3) := by decide +kernel
theorem dL_law_834 : decode cL_law 834 = .ok (.aload_n 1, 1) := by decide +kernel
theorem dL_law_835 : decode cL_law 835 = .ok (.aload_n 0, 1) := by decide +kernel
theorem dL_law_836 : decode cL_law 836 = .ok (.iload_n 3, 1) := by decide +kernel
theorem dL_law_837 : decode cL_law 837 = .ok (.iconst 1, 1) := by decide +kernel
theorem dL_law_838 : decode cL_law 838 = .ok (.iadd, 1) := by decide +kernel
theorem dL_law_839 : decode cL_law 839 = .ok (.iaload, 1) := by decide +kernel
theorem dL_law_840 : decode cL_law 840 = .ok (.aload_n 0, 1) := by decide +kernel
theorem dL_law_841 : decode cL_law 841 = .ok (.iload_n 3, 1) := by decide +kernel
theorem dL_law_842 : decode cL_law 842 = .ok (.iconst 2, 1) := by decide +kernel
theorem dL_law_843 : decode cL_law 843 = .ok (.iadd, 1) := by decide +kernel
theorem dL_law_844 : decode cL_law 844 = .ok (.iaload, 1) := by decide +kernel
theorem dL_law_845 : decode cL_law 845 = .ok (.invokevirtual 114, 3) := by decide +kernel
theorem dL_law_848 : decode cL_law 848 = .ok (.pop, 1) := by decide +kernel
theorem dL_law_849 : decode cL_law 849 = .ok (.aload_n 2, 1) := by decide +kernel
theorem dL_law_850 : decode cL_law 850 = .ok (.aload_n 0, 1) := by decide +kernel
theorem dL_law_851 : decode cL_law 851 = .ok (.iload_n 3, 1) := by decide +kernel
theorem dL_law_852 : decode cL_law 852 = .ok (.iconst 1, 1) := by decide +kernel
theorem dL_law_853 : decode cL_law 853 = .ok (.iadd, 1) := by decide +kernel
theorem dL_law_854 : decode cL_law 854 = .ok (.iaload, 1) := by decide +kernel
theorem dL_law_855 : decode cL_law 855 = .ok (.aload_n 0, 1) := by decide +kernel
theorem dL_law_856 : decode cL_law 856 = .ok (.iload_n 3, 1) := by decide +kernel
theorem dL_law_857 : decode cL_law 857 = .ok (.iconst 2, 1) := by decide +kernel
theorem dL_law_858 : decode cL_law 858 = .ok (.iadd, 1) := by decide +kernel
theorem dL_law_859 : decode cL_law 859 = .ok (.iaload, 1) := by decide +kernel
theorem dL_law_860 : decode cL_law 860 = .ok (.invokevirtual 117, 3) := by decide +kernel
theorem dL_law_863 : decode cL_law 863 = .ok (.pop, 1) := by decide +kernel
theorem dL_law_864 : decode cL_law 864 = .ok (.goto 522, 3) := by decide +kernel
theorem dL_law_867 : decode cL_law 867 = .ok (.aload_n 1, 1) := by decide +kernel
theorem dL_law_868 : decode cL_law 868 = .ok (.aload_n 0, 1) := by decide +kernel
theorem dL_law_869 : decode cL_law 869 = .ok (.iload_n 3, 1) := by decide +kernel
theorem dL_law_870 : decode cL_law 870 = .ok (.iconst 1, 1) := by decide +kernel
theorem dL_law_871 : decode cL_law 871 = .ok (.iadd, 1) := by decide +kernel
theorem dL_law_872 : decode cL_law 872 = .ok (.iaload, 1) := by decide +kernel
theorem dL_law_873 : decode cL_law 873 = .ok (.invokevirtual 118, 3) := by decide +kernel
theorem dL_law_876 : decode cL_law 876 = .ok (.pop, 1) := by decide +kernel
theorem dL_law_877 : decode cL_law 877 = .ok (.aload_n 2, 1) := by decide +kernel
theorem dL_law_878 : decode cL_law 878 = .ok (.aload_n 0, 1) := by decide +kernel
theorem dL_law_879 : decode cL_law 879 = .ok (.iload_n 3, 1) := by decide +kernel
theorem dL_law_880 : decode cL_law 880 = .ok (.iconst 1, 1) := by decide +kernel
theorem dL_law_881 : decode cL_law 881 = .ok (.iadd, 1) := by decide +kernel
theorem dL_law_882 : decode cL_law 882 = .ok (.iaload, 1) := by decide +kernel
theorem dL_law_883 : decode cL_law 883 = .ok (.invokevirtual 121, 3) := by decide +kernel
theorem dL_law_886 : decode cL_law 886 = .ok (.pop, 1) := by decide +kernel
theorem dL_law_887 : decode cL_law 887 = .ok (.goto 499, 3) := by decide +kernel
theorem dL_law_890 : decode cL_law 890 = .ok (.aload_n 1, 1) := by decide +kernel
theorem dL_law_891 : decode cL_law 891 = .ok (.aload_n 0, 1) := by decide +kernel
theorem dL_law_892 : decode cL_law 892 = .ok (.iload_n 3, 1) := by decide +kernel
theorem dL_law_893 : decode cL_law 893 = .ok (.iconst 1, 1) := by decide +kernel
theorem dL_law_894 : decode cL_law 894 = .ok (.iadd, 1) := by decide +kernel
theorem dL_law_895 : decode cL_law 895 = .ok (.iaload, 1) := by decide +kernel
theorem dL_law_896 : decode cL_law 896 = .ok (.invokevirtual 122, 3) := by decide +kernel
theorem dL_law_899 : decode cL_law 899 = .ok (.pop, 1) := by decide +kernel
theorem dL_law_900 : decode cL_law 900 = .ok (.aload_n 2, 1) := by decide +kernel
theorem dL_law_901 : decode cL_law 901 = .ok (.aload_n 0, 1) := by decide +kernel
theorem dL_law_902 : decode cL_law 902 = .ok (.iload_n 3, 1) := by decide +kernel
theorem dL_law_903 : decode cL_law 903 = .ok (.iconst 1, 1) := by decide +kernel
theorem dL_law_904 : decode cL_law 904 = .ok (.iadd, 1) := by decide +kernel
theorem dL_law_905 : decode cL_law 905 = .ok (.iaload, 1) := by decide +kernel
theorem dL_law_906 : decode cL_law 906 = .ok (.invokevirtual 125, 3) := by decide +kernel
theorem dL_law_909 : decode cL_law 909 = .ok (.pop, 1) := by decide +kernel
theorem dL_law_910 : decode cL_law 910 = .ok (.goto 476, 3) := by decide +kernel
theorem dL_law_913 : decode cL_law 913 = .ok (.aload_n 1, 1) := by decide +kernel
theorem dL_law_914 : decode cL_law 914 = .ok (.aload_n 0, 1) := by decide +kernel
theorem dL_law_915 : decode cL_law 915 = .ok (.iload_n 3, 1) := by decide +kernel
theorem dL_law_916 : decode cL_law 916 = .ok (.iconst 1, 1) := by decide +kernel
theorem dL_law_917 : decode cL_law 917 = .ok (.iadd, 1) := by decide +kernel
theorem dL_law_918 : decode cL_law 918 = .ok (.iaload, 1) := by decide +kernel
theorem dL_law_919 : decode cL_law 919 = .ok (.invokevirtual 126, 3) := by decide +kernel
theorem dL_law_922 : decode cL_law 922 = .ok (.pop, 1) := by decide +kernel
theorem dL_law_923 : decode cL_law 923 = .ok (.aload_n 2, 1) := by decide +kernel
theorem dL_law_924 : decode cL_law 924 = .ok (.aload_n 0, 1) := by decide +kernel
theorem dL_law_925 : decode cL_law 925 = .ok (.iload_n 3, 1) := by decide +kernel
theorem dL_law_926 : decode cL_law 926 = .ok (.iconst 1, 1) := by decide +kernel
theorem dL_law_927 : decode cL_law 927 = .ok (.iadd, 1) := by decide +kernel
theorem dL_law_928 : decode cL_law 928 = .ok (.iaload, 1) := by decide +kernel
theorem dL_law_929 : decode cL_law 929 = .ok (.invokevirtual 129, 3) := by decide +kernel
theorem dL_law_932 : decode cL_law 932 = .ok (.pop, 1) := by decide +kernel
theorem dL_law_933 : decode cL_law 933 = .ok (.goto 453, 3) := by decide +kernel
theorem dL_law_936 : decode cL_law 936 = .ok (.aload_n 1, 1) := by decide +kernel
theorem dL_law_937 : decode cL_law 937 = .ok (.aload_n 0, 1) := by decide +kernel
theorem dL_law_938 : decode cL_law 938 = .ok (.iload_n 3, 1) := by decide +kernel
theorem dL_law_939 : decode cL_law 939 = .ok (.iconst 1, 1) := by decide +kernel
theorem dL_law_940 : decode cL_law 940 = .ok (.iadd, 1) := by decide +kernel
theorem dL_law_941 : decode cL_law 941 = .ok (.iaload, 1) := by decide +kernel
theorem dL_law_942 : decode cL_law 942 = .ok (.aload_n 0, 1) := by decide +kernel
theorem dL_law_943 : decode cL_law 943 = .ok (.iload_n 3, 1) := by decide +kernel
theorem dL_law_944 : decode cL_law 944 = .ok (.iconst 2, 1) := by decide +kernel
theorem dL_law_945 : decode cL_law 945 = .ok (.iadd, 1) := by decide +kernel
theorem dL_law_946 : decode cL_law 946 = .ok (.iaload, 1) := by decide +kernel
theorem dL_law_947 : decode cL_law 947 = .ok (.invokevirtual 130, 3) := by decide +kernel
theorem dL_law_950 : decode cL_law 950 = .ok (.pop, 1) := by decide +kernel
theorem dL_law_951 : decode cL_law 951 = .ok (.aload_n 2, 1) := by decide +kernel
theorem dL_law_952 : decode cL_law 952 = .ok (.aload_n 0, 1) := by decide +kernel
theorem dL_law_953 : decode cL_law 953 = .ok (.iload_n 3, 1) := by decide +kernel
theorem dL_law_954 : decode cL_law 954 = .ok (.iconst 1, 1) := by decide +kernel
theorem dL_law_955 : decode cL_law 955 = .ok (.iadd, 1) := by decide +kernel
theorem dL_law_956 : decode cL_law 956 = .ok (.iaload, 1) := by decide +kernel
theorem dL_law_957 : decode cL_law 957 = .ok (.aload_n 0, 1) := by decide +kernel
theorem dL_law_958 : decode cL_law 958 = .ok (.iload_n 3, 1) := by decide +kernel
theorem dL_law_959 : decode cL_law 959 = .ok (.iconst 2, 1) := by decide +kernel
theorem dL_law_960 : decode cL_law 960 = .ok (.iadd, 1) := by decide +kernel
theorem dL_law_961 : decode cL_law 961 = .ok (.iaload, 1) := by decide +kernel
theorem dL_law_962 : decode cL_law 962 = .ok (.invokevirtual 133, 3) := by decide +kernel
theorem dL_law_965 : decode cL_law 965 = .ok (.pop, 1) := by decide +kernel
theorem dL_law_966 : decode cL_law 966 = .ok (.goto 420, 3) := by decide +kernel
theorem dL_law_969 : decode cL_law 969 = .ok (.aload_n 1, 1) := by decide +kernel
theorem dL_law_970 : decode cL_law 970 = .ok (.invokevirtual 134, 3) := by decide +kernel
theorem dL_law_973 : decode cL_law 973 = .ok (.pop, 1) := by decide +kernel
theorem dL_law_974 : decode cL_law 974 = .ok (.aload_n 2, 1) := by decide +kernel
theorem dL_law_975 : decode cL_law 975 = .ok (.invokevirtual 137, 3) := by decide +kernel
theorem dL_law_978 : decode cL_law 978 = .ok (.pop, 1) := by decide +kernel
theorem dL_law_979 : decode cL_law 979 = .ok (.goto 407, 3) := by decide +kernel
theorem dL_law_982 : decode cL_law 982 = .ok (.aload_n 1, 1) := by decide +kernel
theorem dL_law_983 : decode cL_law 983 = .ok (.invokevirtual 138, 3) := by decide +kernel
theorem dL_law_986 : decode cL_law 986 = .ok (.pop, 1) := by decide +kernel
theorem dL_law_987 : decode cL_law 987 = .ok (.aload_n 2, 1) := by decide +kernel
theorem dL_law_988 : decode cL_law 988 = .ok (.invokevirtual 141, 3) := by decide +kernel
theorem dL_law_991 : decode cL_law 991 = .ok (.pop, 1) := by decide +kernel
theorem dL_law_992 : decode cL_law 992 = .ok (.goto 394, 3) := by decide +kernel
theorem dL_law_995 : decode cL_law 995 = .ok (.aload_n 1, 1) := by decide +kernel
theorem dL_law_996 : decode cL_law 996 = .ok (.invokevirtual 142, 3) := by decide +kernel
theorem dL_law_999 : decode cL_law 999 = .ok (.pop, 1) := by decide +kernel
theorem dL_law_1000 : decode cL_law 1000 = .ok (.aload_n 2, 1) := by decide +kernel
theorem dL_law_1001 : decode cL_law 1001 = .ok (.invokevirtual 145, 3) := by decide +kernel
theorem dL_law_1004 : decode cL_law 1004 = .ok (.pop, 1) := by decide +kernel
theorem dL_law_1005 : decode cL_law 1005 = .ok (.goto 381, 3) := by decide +kernel
theorem dL_law_1008 : decode cL_law 1008 = .ok (.aload_n 1, 1) := by decide +kernel
theorem dL_law_1009 : decode cL_law 1009 = .ok (.invokevirtual 146, 3) := by decide +kernel
theorem dL_law_1012 : decode cL_law 1012 = .ok (.pop, 1) := by decide +kernel
theorem dL_law_1013 : decode cL_law 1013 = .ok (.aload_n 2, 1) := by decide +kernel
theorem dL_law_1014 : decode cL_law 1014 = .ok (.invokevirtual 149, 3) := by decide +kernel
theorem dL_law_1017 : decode cL_law 1017 = .ok (.pop, 1) := by decide +kernel
theorem dL_law_1018 : decode cL_law 1018 = .ok (.goto 368, 3) := by decide +kernel
theorem dL_law_1021 : decode cL_law 1021 = .ok (.aload_n 1, 1) := by decide +kernel
theorem dL_law_1022 : decode cL_law 1022 = .ok (.aload_n 0, 1) := by decide +kernel
theorem dL_law_1023 : decode cL_law 1023 = .ok (.iload_n 3, 1) := by decide +kernel
theorem dL_law_1024 : decode cL_law 1024 = .ok (.iconst 1, 1) := by decide +kernel
theorem dL_law_1025 : decode cL_law 1025 = .ok (.iadd, 1) := by decide +kernel
theorem dL_law_1026 : decode cL_law 1026 = .ok (.iaload, 1) := by decide +kernel
theorem dL_law_1027 : decode cL_law 1027 = .ok (.invokevirtual 150, 3) := by decide +kernel
theorem dL_law_1030 : decode cL_law 1030 = .ok (.pop, 1) := by decide +kernel
theorem dL_law_1031 : decode cL_law 1031 = .ok (.aload_n 2, 1) := by decide +kernel
theorem dL_law_1032 : decode cL_law 1032 = .ok (.aload_n 0, 1) := by decide +kernel
theorem dL_law_1033 : decode cL_law 1033 = .ok (.iload_n 3, 1) := by decide +kernel
theorem dL_law_1034 : decode cL_law 1034 = .ok (.iconst 1, 1) := by decide +kernel
theorem dL_law_1035 : decode cL_law 1035 = .ok (.iadd, 1) := by decide +kernel
theorem dL_law_1036 : decode cL_law 1036 = .ok (.iaload, 1) := by decide +kernel
theorem dL_law_1037 : decode cL_law 1037 = .ok (.invokevirtual 153, 3) := by decide +kernel
theorem dL_law_1040 : decode cL_law 1040 = .ok (.pop, 1) := by decide +kernel
theorem dL_law_1041 : decode cL_law 1041 = .ok (.goto 345, 3) := by decide +kernel
theorem dL_law_1044 : decode cL_law 1044 = .ok (.aload_n 1, 1) := by decide +kernel
theorem dL_law_1045 : decode cL_law 1045 = .ok (.aload_n 0, 1) := by decide +kernel
theorem dL_law_1046 : decode cL_law 1046 = .ok (.iload_n 3, 1) := by decide +kernel
theorem dL_law_1047 : decode cL_law 1047 = .ok (.iconst 1, 1) := by decide +kernel
theorem dL_law_1048 : decode cL_law 1048 = .ok (.iadd, 1) := by decide +kernel
theorem dL_law_1049 : decode cL_law 1049 = .ok (.iaload, 1) := by decide +kernel
theorem dL_law_1050 : decode cL_law 1050 = .ok (.invokevirtual 154, 3) := by decide +kernel
theorem dL_law_1053 : decode cL_law 1053 = .ok (.pop, 1) := by decide +kernel
theorem dL_law_1054 : decode cL_law 1054 = .ok (.aload_n 2, 1) := by decide +kernel
theorem dL_law_1055 : decode cL_law 1055 = .ok (.aload_n 0, 1) := by decide +kernel
theorem dL_law_1056 : decode cL_law 1056 = .ok (.iload_n 3, 1) := by decide +kernel
theorem dL_law_1057 : decode cL_law 1057 = .ok (.iconst 1, 1) := by decide +kernel
theorem dL_law_1058 : decode cL_law 1058 = .ok (.iadd, 1) := by decide +kernel
theorem dL_law_1059 : decode cL_law 1059 = .ok (.iaload, 1) := by decide +kernel
theorem dL_law_1060 : decode cL_law 1060 = .ok (.invokevirtual 157, 3) := by decide +kernel
theorem dL_law_1063 : decode cL_law 1063 = .ok (.pop, 1) := by decide +kernel
theorem dL_law_1064 : decode cL_law 1064 = .ok (.goto 322, 3) := by decide +kernel
theorem dL_law_1067 : decode cL_law 1067 = .ok (.aload_n 1, 1) := by decide +kernel
theorem dL_law_1068 : decode cL_law 1068 = .ok (.aload_n 0, 1) := by decide +kernel
theorem dL_law_1069 : decode cL_law 1069 = .ok (.iload_n 3, 1) := by decide +kernel
theorem dL_law_1070 : decode cL_law 1070 = .ok (.iconst 1, 1) := by decide +kernel
theorem dL_law_1071 : decode cL_law 1071 = .ok (.iadd, 1) := by decide +kernel
theorem dL_law_1072 : decode cL_law 1072 = .ok (.iaload, 1) := by decide +kernel
theorem dL_law_1073 : decode cL_law 1073 = .ok (.aload_n 0, 1) := by decide +kernel
theorem dL_law_1074 : decode cL_law 1074 = .ok (.iload_n 3, 1) := by decide +kernel
theorem dL_law_1075 : decode cL_law 1075 = .ok (.iconst 2, 1) := by decide +kernel
theorem dL_law_1076 : decode cL_law 1076 = .ok (.iadd, 1) := by decide +kernel
theorem dL_law_1077 : decode cL_law 1077 = .ok (.iaload, 1) := by decide +kernel
theorem dL_law_1078 : decode cL_law 1078 = .ok (.invokevirtual 158, 3) := by decide +kernel
theorem dL_law_1081 : decode cL_law 1081 = .ok (.pop, 1) := by decide +kernel
theorem dL_law_1082 : decode cL_law 1082 = .ok (.aload_n 2, 1) := by decide +kernel
theorem dL_law_1083 : decode cL_law 1083 = .ok (.aload_n 0, 1) := by decide +kernel
theorem dL_law_1084 : decode cL_law 1084 = .ok (.iload_n 3, 1) := by decide +kernel
theorem dL_law_1085 : decode cL_law 1085 = .ok (.iconst 1, 1) := by decide +kernel
theorem dL_law_1086 : decode cL_law 1086 = .ok (.iadd, 1) := by decide +kernel
theorem dL_law_1087 : decode cL_law 1087 = .ok (.iaload, 1) := by decide +kernel
theorem dL_law_1088 : decode cL_law 1088 = .ok (.aload_n 0, 1) := by decide +kernel
theorem dL_law_1089 : decode cL_law 1089 = .ok (.iload_n 3, 1) := by decide +kernel
theorem dL_law_1090 : decode cL_law 1090 = .ok (.iconst 2, 1) := by decide +kernel
theorem dL_law_1091 : decode cL_law 1091 = .ok (.iadd, 1) := by decide +kernel
theorem dL_law_1092 : decode cL_law 1092 = .ok (.iaload, 1) := by decide +kernel
theorem dL_law_1093 : decode cL_law 1093 = .ok (.invokevirtual 161, 3) := by decide +kernel
theorem dL_law_1096 : decode cL_law 1096 = .ok (.pop, 1) := by decide +kernel
theorem dL_law_1097 : decode cL_law 1097 = .ok (.goto 289, 3) := by decide +kernel
theorem dL_law_1100 : decode cL_law 1100 = .ok (.aload_n 1, 1) := by decide +kernel
theorem dL_law_1101 : decode cL_law 1101 = .ok (.aload_n 0, 1) := by decide +kernel
theorem dL_law_1102 : decode cL_law 1102 = .ok (.iload_n 3, 1) := by decide +kernel
theorem dL_law_1103 : decode cL_law 1103 = .ok (.iconst 1, 1) := by decide +kernel
theorem dL_law_1104 : decode cL_law 1104 = .ok (.iadd, 1) := by decide +kernel
theorem dL_law_1105 : decode cL_law 1105 = .ok (.iaload, 1) := by decide +kernel
theorem dL_law_1106 : decode cL_law 1106 = .ok (.invokevirtual 162, 3) := by decide +kernel
theorem dL_law_1109 : decode cL_law 1109 = .ok (.pop, 1) := by decide +kernel
theorem dL_law_1110 : decode cL_law 1110 = .ok (.aload_n 2, 1) := by decide +kernel
theorem dL_law_1111 : decode cL_law 1111 = .ok (.aload_n 0, 1) := by decide +kernel
theorem dL_law_1112 : decode cL_law 1112 = .ok (.iload_n 3, 1) := by decide +kernel
theorem dL_law_1113 : decode cL_law 1113 = .ok (.iconst 1, 1) := by decide +kernel
theorem dL_law_1114 : decode cL_law 1114 = .ok (.iadd, 1) := by decide +kernel
theorem dL_law_1115 : decode cL_law 1115 = .ok (.iaload, 1) := by decide +kernel
theorem dL_law_1116 : decode cL_law 1116 = .ok (.invokevirtual 165, 3) := by decide +kernel
theorem dL_law_1119 : decode cL_law 1119 = .ok (.pop, 1) := by decide +kernel
theorem dL_law_1120 : decode cL_law 1120 = .ok (.goto 266, 3) := by decide +kernel
theorem dL_law_1123 : decode cL_law 1123 = .ok (.aload_n 1, 1) := by decide +kernel
theorem dL_law_1124 : decode cL_law 1124 = .ok (.aload_n 0, 1) := by decide +kernel
theorem dL_law_1125 : decode cL_law 1125 = .ok (.iload_n 3, 1) := by decide +kernel
theorem dL_law_1126 : decode cL_law 1126 = .ok (.iconst 1, 1) := by decide +kernel
theorem dL_law_1127 : decode cL_law 1127 = .ok (.iadd, 1) := by decide +kernel
theorem dL_law_1128 : decode cL_law 1128 = .ok (.iaload, 1) := by decide +kernel
theorem dL_law_1129 : decode cL_law 1129 = .ok (.aload_n 0, 1) := by decide +kernel
theorem dL_law_1130 : decode cL_law 1130 = .ok (.iload_n 3, 1) := by decide +kernel
theorem dL_law_1131 : decode cL_law 1131 = .ok (.iconst 2, 1) := by decide +kernel
theorem dL_law_1132 : decode cL_law 1132 = .ok (.iadd, 1) := by decide +kernel
theorem dL_law_1133 : decode cL_law 1133 = .ok (.iaload, 1) := by decide +kernel
theorem dL_law_1134 : decode cL_law 1134 = .ok (.aload_n 0, 1) := by decide +kernel
theorem dL_law_1135 : decode cL_law 1135 = .ok (.iload_n 3, 1) := by decide +kernel
theorem dL_law_1136 : decode cL_law 1136 = .ok (.iconst 3, 1) := by decide +kernel
theorem dL_law_1137 : decode cL_law 1137 = .ok (.iadd, 1) := by decide +kernel
theorem dL_law_1138 : decode cL_law 1138 = .ok (.iaload, 1) := by decide +kernel
theorem dL_law_1139 : decode cL_law 1139 = .ok (.ifCond .eq 7, 3) := by decide +kernel
theorem dL_law_1142 : decode cL_law 1142 = .ok (.iconst 1, 1) := by decide +kernel
theorem dL_law_1143 : decode cL_law 1143 = .ok (.goto 4, 3) := by decide +kernel
theorem dL_law_1146 : decode cL_law 1146 = .ok (.iconst 0, 1) := by decide +kernel
theorem dL_law_1147 : decode cL_law 1147 = .ok (.invokevirtual 166, 3) := by decide +kernel
theorem dL_law_1150 : decode cL_law 1150 = .ok (.pop, 1) := by decide +kernel
theorem dL_law_1151 : decode cL_law 1151 = .ok (.aload_n 2, 1) := by decide +kernel
theorem dL_law_1152 : decode cL_law 1152 = .ok (.aload_n 0, 1) := by decide +kernel
theorem dL_law_1153 : decode cL_law 1153 = .ok (.iload_n 3, 1) := by decide +kernel
theorem dL_law_1154 : decode cL_law 1154 = .ok (.iconst 1, 1) := by decide +kernel
theorem dL_law_1155 : decode cL_law 1155 = .ok (.iadd, 1) := by decide +kernel
theorem dL_law_1156 : decode cL_law 1156 = .ok (.iaload, 1) := by decide +kernel
theorem dL_law_1157 : decode cL_law 1157 = .ok (.aload_n 0, 1) := by decide +kernel
theorem dL_law_1158 : decode cL_law 1158 = .ok (.iload_n 3, 1) := by decide +kernel
theorem dL_law_1159 : decode cL_law 1159 = .ok (.iconst 2, 1) := by decide +kernel
theorem dL_law_1160 : decode cL_law 1160 = .ok (.iadd, 1) := by decide +kernel
theorem dL_law_1161 : decode cL_law 1161 = .ok (.iaload, 1) := by decide +kernel
theorem dL_law_1162 : decode cL_law 1162 = .ok (.aload_n 0, 1) := by decide +kernel
theorem dL_law_1163 : decode cL_law 1163 = .ok (.iload_n 3, 1) := by decide +kernel
theorem dL_law_1164 : decode cL_law 1164 = .ok (.iconst 3, 1) := by decide +kernel
theorem dL_law_1165 : decode cL_law 1165 = .ok (.iadd, 1) := by decide +kernel
theorem dL_law_1166 : decode cL_law 1166 = .ok (.iaload, 1) := by decide +kernel
theorem dL_law_1167 : decode cL_law 1167 = .ok (.ifCond .eq 7, 3) := by decide +kernel
theorem dL_law_1170 : decode cL_law 1170 = .ok (.iconst 1, 1) := by decide +kernel
theorem dL_law_1171 : decode cL_law 1171 = .ok (.goto 4, 3) := by decide +kernel
theorem dL_law_1174 : decode cL_law 1174 = .ok (.iconst 0, 1) := by decide +kernel
theorem dL_law_1175 : decode cL_law 1175 = .ok (.invokevirtual 170, 3) := by decide +kernel
theorem dL_law_1178 : decode cL_law 1178 = .ok (.pop, 1) := by decide +kernel
theorem dL_law_1179 : decode cL_law 1179 = .ok (.goto 207, 3) := by decide +kernel
theorem dL_law_1182 : decode cL_law 1182 = .ok (.aload_n 1, 1) := by decide +kernel
theorem dL_law_1183 : decode cL_law 1183 = .ok (.aload_n 0, 1) := by decide +kernel
theorem dL_law_1184 : decode cL_law 1184 = .ok (.iload_n 3, 1) := by decide +kernel
theorem dL_law_1185 : decode cL_law 1185 = .ok (.iconst 1, 1) := by decide +kernel
theorem dL_law_1186 : decode cL_law 1186 = .ok (.iadd, 1) := by decide +kernel
theorem dL_law_1187 : decode cL_law 1187 = .ok (.iaload, 1) := by decide +kernel
theorem dL_law_1188 : decode cL_law 1188 = .ok (.invokevirtual 171, 3) := by decide +kernel
theorem dL_law_1191 : decode cL_law 1191 = .ok (.pop, 1) := by decide +kernel
theorem dL_law_1192 : decode cL_law 1192 = .ok (.aload_n 2, 1) := by decide +kernel
theorem dL_law_1193 : decode cL_law 1193 = .ok (.aload_n 0, 1) := by decide +kernel
theorem dL_law_1194 : decode cL_law 1194 = .ok (.iload_n 3, 1) := by decide +kernel
theorem dL_law_1195 : decode cL_law 1195 = .ok (.iconst 1, 1) := by decide +kernel
theorem dL_law_1196 : decode cL_law 1196 = .ok (.iadd, 1) := by decide +kernel
theorem dL_law_1197 : decode cL_law 1197 = .ok (.iaload, 1) := by decide +kernel
theorem dL_law_1198 : decode cL_law 1198 = .ok (.invokevirtual 175, 3) := by decide +kernel
theorem dL_law_1201 : decode cL_law 1201 = .ok (.pop, 1) := by decide +kernel
theorem dL_law_1202 : decode cL_law 1202 = .ok (.goto 184, 3) := by decide +kernel
theorem dL_law_1205 : decode cL_law 1205 = .ok (.aload_n 1, 1) := by decide +kernel
theorem dL_law_1206 : decode cL_law 1206 = .ok (.aload_n 0, 1) := by decide +kernel
theorem dL_law_1207 : decode cL_law 1207 = .ok (.iload_n 3, 1) := by decide +kernel
theorem dL_law_1208 : decode cL_law 1208 = .ok (.iconst 1, 1) := by decide +kernel
theorem dL_law_1209 : decode cL_law 1209 = .ok (.iadd, 1) := by decide +kernel
theorem dL_law_1210 : decode cL_law 1210 = .ok (.iaload, 1) := by decide +kernel
theorem dL_law_1211 : decode cL_law 1211 = .ok (.invokevirtual 176, 3) := by decide +kernel
theorem dL_law_1214 : decode cL_law 1214 = .ok (.aload_n 2, 1) := by decide +kernel
theorem dL_law_1215 : decode cL_law 1215 = .ok (.aload_n 0, 1) := by decide +kernel
theorem dL_law_1216 : decode cL_law 1216 = .ok (.iload_n 3, 1) := by decide +kernel
theorem dL_law_1217 : decode cL_law 1217 = .ok (.iconst 1, 1) := by decide +kernel
theorem dL_law_1218 : decode cL_law 1218 = .ok (.iadd, 1) := by decide +kernel
theorem dL_law_1219 : decode cL_law 1219 = .ok (.iaload, 1) := by decide +kernel
theorem dL_law_1220 : decode cL_law 1220 = .ok (.invokevirtual 179, 3) := by decide +kernel
theorem dL_law_1223 : decode cL_law 1223 = .ok (.if_icmp .eq 163, 3) := by decide +kernel
theorem dL_law_1226 : decode cL_law 1226 = .ok (.iconst 0, 1) := by decide +kernel
theorem dL_law_1227 : decode cL_law 1227 = .ok (.ireturn, 1) := by decide +kernel
theorem dL_law_1228 : decode cL_law 1228 = .ok (.aload_n 1, 1) := by decide +kernel
theorem dL_law_1229 : decode cL_law 1229 = .ok (.aload_n 0, 1) := by decide +kernel
theorem dL_law_1230 : decode cL_law 1230 = .ok (.iload_n 3, 1) := by decide +kernel
theorem dL_law_1231 : decode cL_law 1231 = .ok (.iconst 1, 1) := by decide +kernel
theorem dL_law_1232 : decode cL_law 1232 = .ok (.iadd, 1) := by decide +kernel
theorem dL_law_1233 : decode cL_law 1233 = .ok (.iaload, 1) := by decide +kernel
theorem dL_law_1234 : decode cL_law 1234 = .ok (.invokevirtual 180, 3) := by decide +kernel
theorem dL_law_1237 : decode cL_law 1237 = .ok (.pop, 1) := by decide +kernel
theorem dL_law_1238 : decode cL_law 1238 = .ok (.aload_n 2, 1) := by decide +kernel
theorem dL_law_1239 : decode cL_law 1239 = .ok (.aload_n 0, 1) := by decide +kernel
theorem dL_law_1240 : decode cL_law 1240 = .ok (.iload_n 3, 1) := by decide +kernel
theorem dL_law_1241 : decode cL_law 1241 = .ok (.iconst 1, 1) := by decide +kernel
theorem dL_law_1242 : decode cL_law 1242 = .ok (.iadd, 1) := by decide +kernel
theorem dL_law_1243 : decode cL_law 1243 = .ok (.iaload, 1) := by decide +kernel
theorem dL_law_1244 : decode cL_law 1244 = .ok (.invokevirtual 183, 3) := by decide +kernel
theorem dL_law_1247 : decode cL_law 1247 = .ok (.pop, 1) := by decide +kernel
theorem dL_law_1248 : decode cL_law 1248 = .ok (.goto 138, 3) := by decide +kernel
theorem dL_law_1251 : decode cL_law 1251 = .ok (.aload_n 1, 1) := by decide +kernel
theorem dL_law_1252 : decode cL_law 1252 = .ok (.aload_n 0, 1) := by decide +kernel
theorem dL_law_1253 : decode cL_law 1253 = .ok (.iload_n 3, 1) := by decide +kernel
theorem dL_law_1254 : decode cL_law 1254 = .ok (.iconst 1, 1) := by decide +kernel
theorem dL_law_1255 : decode cL_law 1255 = .ok (.iadd, 1) := by decide +kernel
theorem dL_law_1256 : decode cL_law 1256 = .ok (.iaload, 1) := by decide +kernel
theorem dL_law_1257 : decode cL_law 1257 = .ok (.aload_n 0, 1) := by decide +kernel
theorem dL_law_1258 : decode cL_law 1258 = .ok (.iload_n 3, 1) := by decide +kernel
theorem dL_law_1259 : decode cL_law 1259 = .ok (.iconst 2, 1) := by decide +kernel
theorem dL_law_1260 : decode cL_law 1260 = .ok (.iadd, 1) := by decide +kernel
theorem dL_law_1261 : decode cL_law 1261 = .ok (.iaload, 1) := by decide +kernel
theorem dL_law_1262 : decode cL_law 1262 = .ok (.invokevirtual 184, 3) := by decide +kernel
theorem dL_law_1265 : decode cL_law 1265 = .ok (.pop, 1) := by decide +kernel
theorem dL_law_1266 : decode cL_law 1266 = .ok (.aload_n 2, 1) := by decide +kernel
theorem dL_law_1267 : decode cL_law 1267 = .ok (.aload_n 0, 1) := by decide +kernel
theorem dL_law_1268 : decode cL_law 1268 = .ok (.iload_n 3, 1) := by decide +kernel
theorem dL_law_1269 : decode cL_law 1269 = .ok (.iconst 1, 1) := by decide +kernel
theorem dL_law_1270 : decode cL_law 1270 = .ok (.iadd, 1) := by decide +kernel
theorem dL_law_1271 : decode cL_law 1271 = .ok (.iaload, 1) := by decide +kernel
theorem dL_law_1272 : decode cL_law 1272 = .ok (.aload_n 0, 1) := by decide +kernel
theorem dL_law_1273 : decode cL_law 1273 = .ok (.iload_n 3, 1) := by decide +kernel
theorem dL_law_1274 : decode cL_law 1274 = .ok (.iconst 2, 1) := by decide +kernel
theorem dL_law_1275 : decode cL_law 1275 = .ok (.iadd, 1) := by decide +kernel
theorem dL_law_1276 : decode cL_law 1276 = .ok (.iaload, 1) := by decide +kernel
theorem dL_law_1277 : decode cL_law 1277 = .ok (.invokevirtual 187, 3) := by decide +kernel
theorem dL_law_1280 : decode cL_law 1280 = .ok (.pop, 1) := by decide +kernel
theorem dL_law_1281 : decode cL_law 1281 = .ok (.goto 105, 3) := by decide +kernel
theorem dL_law_1284 : decode cL_law 1284 = .ok (.aload_n 1, 1) := by decide +kernel
theorem dL_law_1285 : decode cL_law 1285 = .ok (.aload_n 0, 1) := by decide +kernel
theorem dL_law_1286 : decode cL_law 1286 = .ok (.iload_n 3, 1) := by decide +kernel
theorem dL_law_1287 : decode cL_law 1287 = .ok (.iconst 1, 1) := by decide +kernel
theorem dL_law_1288 : decode cL_law 1288 = .ok (.iadd, 1) := by decide +kernel
theorem dL_law_1289 : decode cL_law 1289 = .ok (.iaload, 1) := by decide +kernel
theorem dL_law_1290 : decode cL_law 1290 = .ok (.aload_n 0, 1) := by decide +kernel
theorem dL_law_1291 : decode cL_law 1291 = .ok (.iload_n 3, 1) := by decide +kernel
theorem dL_law_1292 : decode cL_law 1292 = .ok (.iconst 2, 1) := by decide +kernel
theorem dL_law_1293 : decode cL_law 1293 = .ok (.iadd, 1) := by decide +kernel
theorem dL_law_1294 : decode cL_law 1294 = .ok (.iaload, 1) := by decide +kernel
theorem dL_law_1295 : decode cL_law 1295 = .ok (.invokevirtual 188, 3) := by decide +kernel
theorem dL_law_1298 : decode cL_law 1298 = .ok (.pop, 1) := by decide +kernel
theorem dL_law_1299 : decode cL_law 1299 = .ok (.aload_n 2, 1) := by decide +kernel
theorem dL_law_1300 : decode cL_law 1300 = .ok (.aload_n 0, 1) := by decide +kernel
theorem dL_law_1301 : decode cL_law 1301 = .ok (.iload_n 3, 1) := by decide +kernel
theorem dL_law_1302 : decode cL_law 1302 = .ok (.iconst 1, 1) := by decide +kernel
theorem dL_law_1303 : decode cL_law 1303 = .ok (.iadd, 1) := by decide +kernel
theorem dL_law_1304 : decode cL_law 1304 = .ok (.iaload, 1) := by decide +kernel
theorem dL_law_1305 : decode cL_law 1305 = .ok (.aload_n 0, 1) := by decide +kernel
theorem dL_law_1306 : decode cL_law 1306 = .ok (.iload_n 3, 1) := by decide +kernel
theorem dL_law_1307 : decode cL_law 1307 = .ok (.iconst 2, 1) := by decide +kernel
theorem dL_law_1308 : decode cL_law 1308 = .ok (.iadd, 1) := by decide +kernel
theorem dL_law_1309 : decode cL_law 1309 = .ok (.iaload, 1) := by decide +kernel
theorem dL_law_1310 : decode cL_law 1310 = .ok (.invokevirtual 191, 3) := by decide +kernel
theorem dL_law_1313 : decode cL_law 1313 = .ok (.pop, 1) := by decide +kernel
theorem dL_law_1314 : decode cL_law 1314 = .ok (.goto 72, 3) := by decide +kernel
theorem dL_law_1317 : decode cL_law 1317 = .ok (.aload_n 1, 1) := by decide +kernel
theorem dL_law_1318 : decode cL_law 1318 = .ok (.aload_n 0, 1) := by decide +kernel
theorem dL_law_1319 : decode cL_law 1319 = .ok (.iload_n 3, 1) := by decide +kernel
theorem dL_law_1320 : decode cL_law 1320 = .ok (.iconst 1, 1) := by decide +kernel
theorem dL_law_1321 : decode cL_law 1321 = .ok (.iadd, 1) := by decide +kernel
theorem dL_law_1322 : decode cL_law 1322 = .ok (.iaload, 1) := by decide +kernel
theorem dL_law_1323 : decode cL_law 1323 = .ok (.invokevirtual 192, 3) := by decide +kernel
theorem dL_law_1326 : decode cL_law 1326 = .ok (.pop, 1) := by decide +kernel
theorem dL_law_1327 : decode cL_law 1327 = .ok (.aload_n 2, 1) := by decide +kernel
theorem dL_law_1328 : decode cL_law 1328 = .ok (.aload_n 0, 1) := by decide +kernel
theorem dL_law_1329 : decode cL_law 1329 = .ok (.iload_n 3, 1) := by decide +kernel
theorem dL_law_1330 : decode cL_law 1330 = .ok (.iconst 1, 1) := by decide +kernel
theorem dL_law_1331 : decode cL_law 1331 = .ok (.iadd, 1) := by decide +kernel
theorem dL_law_1332 : decode cL_law 1332 = .ok (.iaload, 1) := by decide +kernel
theorem dL_law_1333 : decode cL_law 1333 = .ok (.invokevirtual 195, 3) := by decide +kernel
theorem dL_law_1336 : decode cL_law 1336 = .ok (.pop, 1) := by decide +kernel
theorem dL_law_1337 : decode cL_law 1337 = .ok (.goto 49, 3) := by decide +kernel
theorem dL_law_1340 : decode cL_law 1340 = .ok (.aload_n 1, 1) := by decide +kernel
theorem dL_law_1341 : decode cL_law 1341 = .ok (.aload_n 0, 1) := by decide +kernel
theorem dL_law_1342 : decode cL_law 1342 = .ok (.iload_n 3, 1) := by decide +kernel
theorem dL_law_1343 : decode cL_law 1343 = .ok (.iconst 1, 1) := by decide +kernel
theorem dL_law_1344 : decode cL_law 1344 = .ok (.iadd, 1) := by decide +kernel
theorem dL_law_1345 : decode cL_law 1345 = .ok (.iaload, 1) := by decide +kernel
theorem dL_law_1346 : decode cL_law 1346 = .ok (.invokevirtual 196, 3) := by decide +kernel
theorem dL_law_1349 : decode cL_law 1349 = .ok (.pop, 1) := by decide +kernel
theorem dL_law_1350 : decode cL_law 1350 = .ok (.aload_n 2, 1) := by decide +kernel
theorem dL_law_1351 : decode cL_law 1351 = .ok (.aload_n 0, 1) := by decide +kernel
theorem dL_law_1352 : decode cL_law 1352 = .ok (.iload_n 3, 1) := by decide +kernel
theorem dL_law_1353 : decode cL_law 1353 = .ok (.iconst 1, 1) := by decide +kernel
theorem dL_law_1354 : decode cL_law 1354 = .ok (.iadd, 1) := by decide +kernel
theorem dL_law_1355 : decode cL_law 1355 = .ok (.iaload, 1) := by decide +kernel
theorem dL_law_1356 : decode cL_law 1356 = .ok (.invokevirtual 199, 3) := by decide +kernel
theorem dL_law_1359 : decode cL_law 1359 = .ok (.pop, 1) := by decide +kernel
theorem dL_law_1360 : decode cL_law 1360 = .ok (.goto 26, 3) := by decide +kernel
theorem dL_law_1363 : decode cL_law 1363 = .ok (.aload_n 1, 1) := by decide +kernel
theorem dL_law_1364 : decode cL_law 1364 = .ok (.aload_n 0, 1) := by decide +kernel
theorem dL_law_1365 : decode cL_law 1365 = .ok (.iload_n 3, 1) := by decide +kernel
theorem dL_law_1366 : decode cL_law 1366 = .ok (.iconst 1, 1) := by decide +kernel
theorem dL_law_1367 : decode cL_law 1367 = .ok (.iadd, 1) := by decide +kernel
theorem dL_law_1368 : decode cL_law 1368 = .ok (.iaload, 1) := by decide +kernel
theorem dL_law_1369 : decode cL_law 1369 = .ok (.invokevirtual 200, 3) := by decide +kernel
theorem dL_law_1372 : decode cL_law 1372 = .ok (.pop, 1) := by decide +kernel
theorem dL_law_1373 : decode cL_law 1373 = .ok (.aload_n 2, 1) := by decide +kernel
theorem dL_law_1374 : decode cL_law 1374 = .ok (.aload_n 0, 1) := by decide +kernel
theorem dL_law_1375 : decode cL_law 1375 = .ok (.iload_n 3, 1) := by decide +kernel
theorem dL_law_1376 : decode cL_law 1376 = .ok (.iconst 1, 1) := by decide +kernel
theorem dL_law_1377 : decode cL_law 1377 = .ok (.iadd, 1) := by decide +kernel
theorem dL_law_1378 : decode cL_law 1378 = .ok (.iaload, 1) := by decide +kernel
theorem dL_law_1379 : decode cL_law 1379 = .ok (.invokevirtual 203, 3) := by decide +kernel
theorem dL_law_1382 : decode cL_law 1382 = .ok (.pop, 1) := by decide +kernel
theorem dL_law_1383 : decode cL_law 1383 = .ok (.goto 3, 3) := by decide +kernel
theorem dL_law_1386 : decode cL_law 1386 = .ok (.iinc 3 6, 3) := by decide +kernel
theorem dL_law_1389 : decode cL_law 1389 = .ok (.goto (-1371), 3) := by decide +kernel
theorem dL_law_1392 : decode cL_law 1392 = .ok (.iconst 1, 1) := by decide +kernel
theorem dL_law_1393 : decode cL_law 1393 = .ok (.ireturn, 1) := by decide +kernel
theorem wd_508 : (Cond.methodLink "WebCourtLaw" (13 : Nat) ⟨"WebCourt", "feed", "(IIIII)I"⟩) ∈ gtb := gtb_c2 159 (by decide +kernel) rfl
theorem wd_509 : (Cond.instanceMethod ⟨"WebCourt", "feed", "(IIIII)I"⟩) ∈ gtb := gtb_c2 160 (by decide +kernel) rfl
theorem wd_510 : (Cond.selects "WebCourt" ⟨"WebCourt", "feed", "(IIIII)I"⟩ ⟨"WebCourt", "feed", "(IIIII)I"⟩) ∈ gtb := gtb_c2 161 (by decide +kernel) rfl
theorem hd_yX10_feed : yX10_feed.cls = RX10 ∧ yX10_feed.cls ≠ "java/lang/invoke/MethodHandle" ∧ yX10_feed.cls ≠ "java/lang/invoke/VarHandle" ∧ (parseMethodDescriptor yX10_feed.desc).map (fun d => d.parameters.length) = some 5 := by decide +kernel
theorem wd_2028 : (Cond.methodLink "WebCourtLaw" (17 : Nat) ⟨"WebCourtModel", "feed", "(IIIII)I"⟩) ∈ gtb := gtb_c8 239 (by decide +kernel) rfl
theorem wd_2029 : (Cond.instanceMethod ⟨"WebCourtModel", "feed", "(IIIII)I"⟩) ∈ gtb := gtb_c9 0 (by decide +kernel) rfl
theorem wd_2030 : (Cond.selects "WebCourtModel" ⟨"WebCourtModel", "feed", "(IIIII)I"⟩ ⟨"WebCourtModel", "feed", "(IIIII)I"⟩) ∈ gtb := gtb_c9 1 (by decide +kernel) rfl
theorem hd_yX11_feed : yX11_feed.cls = RX11 ∧ yX11_feed.cls ≠ "java/lang/invoke/MethodHandle" ∧ yX11_feed.cls ≠ "java/lang/invoke/VarHandle" ∧ (parseMethodDescriptor yX11_feed.desc).map (fun d => d.parameters.length) = some 5 := by decide +kernel
theorem Km17_I62 {u v : St} (h : Km17 u v) : fI v 0 62 = fI u 0 62 := h.2.2.2.2.2.2.2.2.2.2.2.2.2.2.2.2.2.2.2.2.2.1
set_option maxHeartbeats 4000000 in
set_option maxRecDepth 100000 in
theorem lawc_0 {p : Program} {l : Launch} {e : Env} {s : State} {m : MethodId} {below : List Frame} {meth : Method} {c : Code} {b Ln : Nat} {xs : Nat → Int32} {D : va_G} {cy : Nat → ClassId} {a1 a2 : Nat → Nat} {u1 u2 : St} {i : Int32} {A : Nat → Prop} {Q : State → Prop} {H : Heap} {locs : List Loc} {ls : Array Slot} (C : Cx p s m #[Value.ref b] c code 4 RL D cy A) (hX : va_X b Ln xs s s.heap) (hbl : b < s.heap.size) (hbA : ¬ A b) (hi0 : 0 ≤ i.toInt) (hiL : i.toInt + 6 ≤ (Ln : Int)) (hLm : Ln ≤ 3072) (hJ1 : CI a1 u1) (hJ2 : MI a2 u2) (hT : fI u1 39 6 = fI u2 0 62) (kend : ∀ (b1 : Nat → Nat) (v1 v2 : St) (H : Heap) (locs : List Loc) (ls : Array Slot), b1 0 = a1 0 → CI b1 v1 → MI a2 v2 → fI v1 39 6 = fI v2 0 62 → Wo D A (cW cy b1 v1 ++ mW cy a2 v2) s.heap H locs → lv_has ls 4 [(0, .ref b), (1, .ref (a1 0)), (2, .ref (a2 0)), (3, .int i)] → W p l e room_1 s m #[Value.ref b] below meth c H locs 134 12281 Q (F0 m 1386 ls [])) (hO : Wo D A (cW cy a1 u1 ++ mW cy a2 u2) s.heap H locs) (hl : lv_has ls 4 [(0, .ref b), (1, .ref (a1 0)), (2, .ref (a2 0)), (3, .int i)]) : W p l e room_1 s m #[Value.ref b] below meth c H locs 134 12281 Q (F0 m 232 ls []) := by
  obtain ⟨hx, hb, hml, hown, ht, hK, hA⟩ := id C
  refine lv_aload_n hx hb dL_law_232 rfl (lv_at hl 1 rfl) ?_
  refine lv_aload_n hx hb dL_law_233 rfl (lv_at hl 0 rfl) ?_
  refine lv_iload_n hx hb dL_law_234 rfl (lv_at hl 3 rfl) ?_
  refine lv_iconst (v := 1) hx hb dL_law_235 (by decide) ?_
  refine lv_iadd hx hb dL_law_236 ?_
  refine lv_topi (fun z1 ez1 => ?_)
  have nz1 : z1.toInt = i.toInt + 1 := by rw [ez1]; exact i_add rfl rfl (by omega)
  refine va_sld hx hb hX hbl hbA hO.2.2 (i_in (X := i.toInt + 1) nz1 (by omega) (by omega)) dL_law_237 ?_
  refine lv_topi (fun w2 ew2 => ?_)
  refine lv_aload_n hx hb dL_law_238 rfl (lv_at hl 0 rfl) ?_
  refine lv_iload_n hx hb dL_law_239 rfl (lv_at hl 3 rfl) ?_
  refine lv_iconst (v := 2) hx hb dL_law_240 (by decide) ?_
  refine lv_iadd hx hb dL_law_241 ?_
  refine lv_topi (fun z3 ez3 => ?_)
  have nz3 : z3.toInt = i.toInt + 2 := by rw [ez3]; exact i_add rfl rfl (by omega)
  refine va_sld hx hb hX hbl hbA hO.2.2 (i_in (X := i.toInt + 2) nz3 (by omega) (by omega)) dL_law_242 ?_
  refine lv_topi (fun w4 ew4 => ?_)
  refine lv_aload_n hx hb dL_law_243 rfl (lv_at hl 0 rfl) ?_
  refine lv_iload_n hx hb dL_law_244 rfl (lv_at hl 3 rfl) ?_
  refine lv_iconst (v := 3) hx hb dL_law_245 (by decide) ?_
  refine lv_iadd hx hb dL_law_246 ?_
  refine lv_topi (fun z5 ez5 => ?_)
  have nz5 : z5.toInt = i.toInt + 3 := by rw [ez5]; exact i_add rfl rfl (by omega)
  refine va_sld hx hb hX hbl hbA hO.2.2 (i_in (X := i.toInt + 3) nz5 (by omega) (by omega)) dL_law_247 ?_
  refine lv_topi (fun w6 ew6 => ?_)
  refine lv_aload_n hx hb dL_law_248 rfl (lv_at hl 0 rfl) ?_
  refine lv_iload_n hx hb dL_law_249 rfl (lv_at hl 3 rfl) ?_
  refine lv_iconst (v := 4) hx hb dL_law_250 (by decide) ?_
  refine lv_iadd hx hb dL_law_251 ?_
  refine lv_topi (fun z7 ez7 => ?_)
  have nz7 : z7.toInt = i.toInt + 4 := by rw [ez7]; exact i_add rfl rfl (by omega)
  refine va_sld hx hb hX hbl hbA hO.2.2 (i_in (X := i.toInt + 4) nz7 (by omega) (by omega)) dL_law_252 ?_
  refine lv_topi (fun w8 ew8 => ?_)
  refine lv_aload_n hx hb dL_law_253 rfl (lv_at hl 0 rfl) ?_
  refine lv_iload_n hx hb dL_law_254 rfl (lv_at hl 3 rfl) ?_
  refine lv_iconst (v := 5) hx hb dL_law_255 (by decide) ?_
  refine lv_iadd hx hb dL_law_256 ?_
  refine lv_topi (fun z9 ez9 => ?_)
  have nz9 : z9.toInt = i.toInt + 5 := by rw [ez9]; exact i_add rfl rfl (by omega)
  refine va_sld hx hb hX hbl hbA hO.2.2 (i_in (X := i.toInt + 5) nz9 (by omega) (by omega)) dL_law_257 ?_
  refine lv_topi (fun w10 ew10 => ?_)
  refine fVi (w := cW cy a1) (pl := mW cy a2 u2) (As := [.int w2, .int w4, .int w6, .int w8, .int w10]) (rest := []) C hO (T_X10_feed l D cy a1 u1 hJ1 w2 w4 w6 w8 w10) (cwV 5 ht (gV wd_508 wd_509 wd_510 wd_110 wd_511) rfl rfl rfl hd_yX10_feed ⟨Nat.le_of_ble_eq_true rfl, Nat.le_of_ble_eq_true rfl⟩) 0 rfl cW_0 rfl rfl hl.1 (Nat.le_of_ble_eq_true rfl) dL_law_258 rfl ⟨Nat.le_of_ble_eq_true rfl, Nat.le_of_ble_eq_true rfl⟩ (fun r1 v1 H locs hp1 hO => ?_)
  obtain ⟨hI1, hk1⟩ := hp1
  refine lv_pop hx hb dL_law_261 rfl ?_
  refine lv_aload_n hx hb dL_law_262 rfl (lv_at hl 2 rfl) ?_
  refine lv_aload_n hx hb dL_law_263 rfl (lv_at hl 0 rfl) ?_
  refine lv_iload_n hx hb dL_law_264 rfl (lv_at hl 3 rfl) ?_
  refine lv_iconst (v := 1) hx hb dL_law_265 (by decide) ?_
  refine lv_iadd hx hb dL_law_266 ?_
  refine lv_topi (fun z11 ez11 => ?_)
  have nz11 : z11.toInt = i.toInt + 1 := by rw [ez11]; exact i_add rfl rfl (by omega)
  refine va_sld hx hb hX hbl hbA hO.2.2 (i_in (X := i.toInt + 1) nz11 (by omega) (by omega)) dL_law_267 ?_
  refine lv_topi (fun w12 ew12 => ?_)
  refine lv_aload_n hx hb dL_law_268 rfl (lv_at hl 0 rfl) ?_
  refine lv_iload_n hx hb dL_law_269 rfl (lv_at hl 3 rfl) ?_
  refine lv_iconst (v := 2) hx hb dL_law_270 (by decide) ?_
  refine lv_iadd hx hb dL_law_271 ?_
  refine lv_topi (fun z13 ez13 => ?_)
  have nz13 : z13.toInt = i.toInt + 2 := by rw [ez13]; exact i_add rfl rfl (by omega)
  refine va_sld hx hb hX hbl hbA hO.2.2 (i_in (X := i.toInt + 2) nz13 (by omega) (by omega)) dL_law_272 ?_
  refine lv_topi (fun w14 ew14 => ?_)
  refine lv_aload_n hx hb dL_law_273 rfl (lv_at hl 0 rfl) ?_
  refine lv_iload_n hx hb dL_law_274 rfl (lv_at hl 3 rfl) ?_
  refine lv_iconst (v := 3) hx hb dL_law_275 (by decide) ?_
  refine lv_iadd hx hb dL_law_276 ?_
  refine lv_topi (fun z15 ez15 => ?_)
  have nz15 : z15.toInt = i.toInt + 3 := by rw [ez15]; exact i_add rfl rfl (by omega)
  refine va_sld hx hb hX hbl hbA hO.2.2 (i_in (X := i.toInt + 3) nz15 (by omega) (by omega)) dL_law_277 ?_
  refine lv_topi (fun w16 ew16 => ?_)
  refine lv_aload_n hx hb dL_law_278 rfl (lv_at hl 0 rfl) ?_
  refine lv_iload_n hx hb dL_law_279 rfl (lv_at hl 3 rfl) ?_
  refine lv_iconst (v := 4) hx hb dL_law_280 (by decide) ?_
  refine lv_iadd hx hb dL_law_281 ?_
  refine lv_topi (fun z17 ez17 => ?_)
  have nz17 : z17.toInt = i.toInt + 4 := by rw [ez17]; exact i_add rfl rfl (by omega)
  refine va_sld hx hb hX hbl hbA hO.2.2 (i_in (X := i.toInt + 4) nz17 (by omega) (by omega)) dL_law_282 ?_
  refine lv_topi (fun w18 ew18 => ?_)
  refine lv_aload_n hx hb dL_law_283 rfl (lv_at hl 0 rfl) ?_
  refine lv_iload_n hx hb dL_law_284 rfl (lv_at hl 3 rfl) ?_
  refine lv_iconst (v := 5) hx hb dL_law_285 (by decide) ?_
  refine lv_iadd hx hb dL_law_286 ?_
  refine lv_topi (fun z19 ez19 => ?_)
  have nz19 : z19.toInt = i.toInt + 5 := by rw [ez19]; exact i_add rfl rfl (by omega)
  refine va_sld hx hb hX hbl hbA hO.2.2 (i_in (X := i.toInt + 5) nz19 (by omega) (by omega)) dL_law_287 ?_
  refine lv_topi (fun w20 ew20 => ?_)
  have hO : Wo D A (mW cy a2 u2 ++ cW cy a1 v1) s.heap H locs := Wo.swap (a := []) hO
  refine fVi (w := mW cy a2) (pl := cW cy a1 v1) (As := [.int w12, .int w14, .int w16, .int w18, .int w20]) (rest := []) C hO (T_X11_feed l D cy a2 u2 hJ2 w12 w14 w16 w18 w20) (cwV 5 ht (gV wd_2028 wd_2029 wd_2030 wd_121 wd_2031) rfl rfl rfl hd_yX11_feed ⟨Nat.le_of_ble_eq_true rfl, Nat.le_of_ble_eq_true rfl⟩) 0 rfl mW_0 rfl rfl hl.1 (Nat.le_of_ble_eq_true rfl) dL_law_288 rfl ⟨Nat.le_of_ble_eq_true rfl, Nat.le_of_ble_eq_true rfl⟩ (fun r2 v2 H locs hp2 hO => ?_)
  obtain ⟨hI2, hk2⟩ := hp2
  refine lv_pop hx hb dL_law_291 rfl ?_
  refine lv_goto (tgt := 1386) hx hb dL_law_292 (by decide) ?_
  exact kend a1 v1 v2 H locs ls (rfl) hI1 hI2 (Eq.trans (hk1) (Eq.trans hT (Eq.symm ((Km17_I62 hk2))))) (Wo.swap (a := []) hO) hl
theorem wd_516 : (Cond.methodLink "WebCourtLaw" (18 : Nat) ⟨"WebCourt", "end", "(I)I"⟩) ∈ gtb := gtb_c2 167 (by decide +kernel) rfl
theorem wd_517 : (Cond.instanceMethod ⟨"WebCourt", "end", "(I)I"⟩) ∈ gtb := gtb_c2 168 (by decide +kernel) rfl
theorem wd_518 : (Cond.selects "WebCourt" ⟨"WebCourt", "end", "(I)I"⟩ ⟨"WebCourt", "end", "(I)I"⟩) ∈ gtb := gtb_c2 169 (by decide +kernel) rfl
theorem hd_yX10_end : yX10_end.cls = RX10 ∧ yX10_end.cls ≠ "java/lang/invoke/MethodHandle" ∧ yX10_end.cls ≠ "java/lang/invoke/VarHandle" ∧ (parseMethodDescriptor yX10_end.desc).map (fun d => d.parameters.length) = some 1 := by decide +kernel
theorem wd_2032 : (Cond.methodLink "WebCourtLaw" (22 : Nat) ⟨"WebCourtModel", "end", "(I)I"⟩) ∈ gtb := gtb_c9 3 (by decide +kernel) rfl
theorem wd_2033 : (Cond.instanceMethod ⟨"WebCourtModel", "end", "(I)I"⟩) ∈ gtb := gtb_c9 4 (by decide +kernel) rfl
theorem wd_2034 : (Cond.selects "WebCourtModel" ⟨"WebCourtModel", "end", "(I)I"⟩ ⟨"WebCourtModel", "end", "(I)I"⟩) ∈ gtb := gtb_c9 5 (by decide +kernel) rfl
theorem hd_yX11_end : yX11_end.cls = RX11 ∧ yX11_end.cls ≠ "java/lang/invoke/MethodHandle" ∧ yX11_end.cls ≠ "java/lang/invoke/VarHandle" ∧ (parseMethodDescriptor yX11_end.desc).map (fun d => d.parameters.length) = some 1 := by decide +kernel
theorem Km18_I62 {u v : St} (h : Km18 u v) : fI v 0 62 = fI u 0 62 := h.2.2.2.2.2.2.2.2.2.2.2.2.2.2.2.2.2.2.2.2.2.1
set_option maxHeartbeats 4000000 in
set_option maxRecDepth 100000 in
theorem lawc_1 {p : Program} {l : Launch} {e : Env} {s : State} {m : MethodId} {below : List Frame} {meth : Method} {c : Code} {b Ln : Nat} {xs : Nat → Int32} {D : va_G} {cy : Nat → ClassId} {a1 a2 : Nat → Nat} {u1 u2 : St} {i : Int32} {A : Nat → Prop} {Q : State → Prop} {H : Heap} {locs : List Loc} {ls : Array Slot} (C : Cx p s m #[Value.ref b] c code 4 RL D cy A) (hX : va_X b Ln xs s s.heap) (hbl : b < s.heap.size) (hbA : ¬ A b) (hi0 : 0 ≤ i.toInt) (hiL : i.toInt + 6 ≤ (Ln : Int)) (hLm : Ln ≤ 3072) (hJ1 : CI a1 u1) (hJ2 : MI a2 u2) (hT : fI u1 39 6 = fI u2 0 62) (kend : ∀ (b1 : Nat → Nat) (v1 v2 : St) (H : Heap) (locs : List Loc) (ls : Array Slot), b1 0 = a1 0 → CI b1 v1 → MI a2 v2 → fI v1 39 6 = fI v2 0 62 → Wo D A (cW cy b1 v1 ++ mW cy a2 v2) s.heap H locs → lv_has ls 4 [(0, .ref b), (1, .ref (a1 0)), (2, .ref (a2 0)), (3, .int i)] → W p l e room_1 s m #[Value.ref b] below meth c H locs 134 12281 Q (F0 m 1386 ls [])) (hO : Wo D A (cW cy a1 u1 ++ mW cy a2 u2) s.heap H locs) (hl : lv_has ls 4 [(0, .ref b), (1, .ref (a1 0)), (2, .ref (a2 0)), (3, .int i)]) : W p l e room_1 s m #[Value.ref b] below meth c H locs 134 12281 Q (F0 m 295 ls []) := by
  obtain ⟨hx, hb, hml, hown, ht, hK, hA⟩ := id C
  refine lv_aload_n hx hb dL_law_295 rfl (lv_at hl 1 rfl) ?_
  refine lv_aload_n hx hb dL_law_296 rfl (lv_at hl 0 rfl) ?_
  refine lv_iload_n hx hb dL_law_297 rfl (lv_at hl 3 rfl) ?_
  refine lv_iconst (v := 1) hx hb dL_law_298 (by decide) ?_
  refine lv_iadd hx hb dL_law_299 ?_
  refine lv_topi (fun z1 ez1 => ?_)
  have nz1 : z1.toInt = i.toInt + 1 := by rw [ez1]; exact i_add rfl rfl (by omega)
  refine va_sld hx hb hX hbl hbA hO.2.2 (i_in (X := i.toInt + 1) nz1 (by omega) (by omega)) dL_law_300 ?_
  refine lv_topi (fun w2 ew2 => ?_)
  refine fVi (w := cW cy a1) (pl := mW cy a2 u2) (As := [.int w2]) (rest := []) C hO (T_X10_end l D cy a1 u1 hJ1 w2) (cwV 1 ht (gV wd_516 wd_517 wd_518 wd_110 wd_519) rfl rfl rfl hd_yX10_end ⟨Nat.le_of_ble_eq_true rfl, Nat.le_of_ble_eq_true rfl⟩) 0 rfl cW_0 rfl rfl hl.1 (Nat.le_of_ble_eq_true rfl) dL_law_301 rfl ⟨Nat.le_of_ble_eq_true rfl, Nat.le_of_ble_eq_true rfl⟩ (fun r1 v1 H locs hp1 hO => ?_)
  obtain ⟨hI1, hk1⟩ := hp1
  refine lv_pop hx hb dL_law_304 rfl ?_
  refine lv_aload_n hx hb dL_law_305 rfl (lv_at hl 2 rfl) ?_
  refine lv_aload_n hx hb dL_law_306 rfl (lv_at hl 0 rfl) ?_
  refine lv_iload_n hx hb dL_law_307 rfl (lv_at hl 3 rfl) ?_
  refine lv_iconst (v := 1) hx hb dL_law_308 (by decide) ?_
  refine lv_iadd hx hb dL_law_309 ?_
  refine lv_topi (fun z3 ez3 => ?_)
  have nz3 : z3.toInt = i.toInt + 1 := by rw [ez3]; exact i_add rfl rfl (by omega)
  refine va_sld hx hb hX hbl hbA hO.2.2 (i_in (X := i.toInt + 1) nz3 (by omega) (by omega)) dL_law_310 ?_
  refine lv_topi (fun w4 ew4 => ?_)
  have hO : Wo D A (mW cy a2 u2 ++ cW cy a1 v1) s.heap H locs := Wo.swap (a := []) hO
  refine fVi (w := mW cy a2) (pl := cW cy a1 v1) (As := [.int w4]) (rest := []) C hO (T_X11_end l D cy a2 u2 hJ2 w4) (cwV 1 ht (gV wd_2032 wd_2033 wd_2034 wd_121 wd_2035) rfl rfl rfl hd_yX11_end ⟨Nat.le_of_ble_eq_true rfl, Nat.le_of_ble_eq_true rfl⟩) 0 rfl mW_0 rfl rfl hl.1 (Nat.le_of_ble_eq_true rfl) dL_law_311 rfl ⟨Nat.le_of_ble_eq_true rfl, Nat.le_of_ble_eq_true rfl⟩ (fun r2 v2 H locs hp2 hO => ?_)
  obtain ⟨hI2, hk2⟩ := hp2
  refine lv_pop hx hb dL_law_314 rfl ?_
  refine lv_goto (tgt := 1386) hx hb dL_law_315 (by decide) ?_
  exact kend a1 v1 v2 H locs ls (rfl) hI1 hI2 (Eq.trans (hk1) (Eq.trans hT (Eq.symm ((Km18_I62 hk2))))) (Wo.swap (a := []) hO) hl
theorem wd_520 : (Cond.methodLink "WebCourtLaw" (23 : Nat) ⟨"WebCourt", "web", "()I"⟩) ∈ gtb := gtb_c2 171 (by decide +kernel) rfl
theorem wd_521 : (Cond.instanceMethod ⟨"WebCourt", "web", "()I"⟩) ∈ gtb := gtb_c2 172 (by decide +kernel) rfl
theorem wd_522 : (Cond.selects "WebCourt" ⟨"WebCourt", "web", "()I"⟩ ⟨"WebCourt", "web", "()I"⟩) ∈ gtb := gtb_c2 173 (by decide +kernel) rfl
theorem hd_yX10_web : yX10_web.cls = RX10 ∧ yX10_web.cls ≠ "java/lang/invoke/MethodHandle" ∧ yX10_web.cls ≠ "java/lang/invoke/VarHandle" ∧ (parseMethodDescriptor yX10_web.desc).map (fun d => d.parameters.length) = some 0 := by decide +kernel
theorem wd_1552 : (Cond.methodLink "WebCourtLaw" (27 : Nat) ⟨"WebCourtModel", "web", "()I"⟩) ∈ gtb := gtb_c7 3 (by decide +kernel) rfl
theorem wd_1553 : (Cond.instanceMethod ⟨"WebCourtModel", "web", "()I"⟩) ∈ gtb := gtb_c7 4 (by decide +kernel) rfl
theorem wd_1554 : (Cond.selects "WebCourtModel" ⟨"WebCourtModel", "web", "()I"⟩ ⟨"WebCourtModel", "web", "()I"⟩) ∈ gtb := gtb_c7 5 (by decide +kernel) rfl
theorem hd_yX11_web : yX11_web.cls = RX11 ∧ yX11_web.cls ≠ "java/lang/invoke/MethodHandle" ∧ yX11_web.cls ≠ "java/lang/invoke/VarHandle" ∧ (parseMethodDescriptor yX11_web.desc).map (fun d => d.parameters.length) = some 0 := by decide +kernel
theorem Km38_I62 {u v : St} (h : Km38 u v) : fI v 0 62 = fI u 0 62 := h.2.2.2.1
set_option maxHeartbeats 4000000 in
set_option maxRecDepth 100000 in
theorem lawc_2 {p : Program} {l : Launch} {e : Env} {s : State} {m : MethodId} {below : List Frame} {meth : Method} {c : Code} {b Ln : Nat} {xs : Nat → Int32} {D : va_G} {cy : Nat → ClassId} {a1 a2 : Nat → Nat} {u1 u2 : St} {i : Int32} {A : Nat → Prop} {Q : State → Prop} {H : Heap} {locs : List Loc} {ls : Array Slot} (C : Cx p s m #[Value.ref b] c code 4 RL D cy A) (hX : va_X b Ln xs s s.heap) (hbl : b < s.heap.size) (hbA : ¬ A b) (hi0 : 0 ≤ i.toInt) (hiL : i.toInt + 6 ≤ (Ln : Int)) (hLm : Ln ≤ 3072) (hJ1 : CI a1 u1) (hJ2 : MI a2 u2) (hT : fI u1 39 6 = fI u2 0 62) (kend : ∀ (b1 : Nat → Nat) (v1 v2 : St) (H : Heap) (locs : List Loc) (ls : Array Slot), b1 0 = a1 0 → CI b1 v1 → MI a2 v2 → fI v1 39 6 = fI v2 0 62 → Wo D A (cW cy b1 v1 ++ mW cy a2 v2) s.heap H locs → lv_has ls 4 [(0, .ref b), (1, .ref (a1 0)), (2, .ref (a2 0)), (3, .int i)] → W p l e room_1 s m #[Value.ref b] below meth c H locs 134 12281 Q (F0 m 1386 ls [])) (hO : Wo D A (cW cy a1 u1 ++ mW cy a2 u2) s.heap H locs) (hl : lv_has ls 4 [(0, .ref b), (1, .ref (a1 0)), (2, .ref (a2 0)), (3, .int i)]) : W p l e room_1 s m #[Value.ref b] below meth c H locs 134 12281 Q (F0 m 318 ls []) := by
  obtain ⟨hx, hb, hml, hown, ht, hK, hA⟩ := id C
  refine lv_aload_n hx hb dL_law_318 rfl (lv_at hl 1 rfl) ?_
  refine fVi (w := cW cy a1) (pl := mW cy a2 u2) (As := []) (rest := []) C hO (T_X10_web l D cy a1 u1 hJ1 ) (cwV 0 ht (gV wd_520 wd_521 wd_522 wd_110 wd_523) rfl rfl rfl hd_yX10_web ⟨Nat.le_of_ble_eq_true rfl, Nat.le_of_ble_eq_true rfl⟩) 0 rfl cW_0 rfl rfl hl.1 (Nat.le_of_ble_eq_true rfl) dL_law_319 rfl ⟨Nat.le_of_ble_eq_true rfl, Nat.le_of_ble_eq_true rfl⟩ (fun r1 v1 H locs hp1 hO => ?_)
  obtain ⟨hI1, hk1, hx01⟩ := hp1
  obtain ⟨b1, y1, hb0, hC1, ht1, hO⟩ := norm_web hI1 hx01 hO
  have hk1 : fI y1 39 6 = fI u1 39 6 := ht1.trans hk1
  have hC0 : b1 0 = a1 0 := hb0
  refine lv_pop hx hb dL_law_322 rfl ?_
  refine lv_aload_n hx hb dL_law_323 rfl (lv_at hl 2 rfl) ?_
  have hO : Wo D A (mW cy a2 u2 ++ cW cy b1 y1) s.heap H locs := Wo.swap (a := []) hO
  refine fVi (w := mW cy a2) (pl := cW cy b1 y1) (As := []) (rest := []) C hO (T_X11_web l D cy a2 u2 hJ2 ) (cwV 0 ht (gV wd_1552 wd_1553 wd_1554 wd_121 wd_1555) rfl rfl rfl hd_yX11_web ⟨Nat.le_of_ble_eq_true rfl, Nat.le_of_ble_eq_true rfl⟩) 0 rfl mW_0 rfl rfl hl.1 (Nat.le_of_ble_eq_true rfl) dL_law_324 rfl ⟨Nat.le_of_ble_eq_true rfl, Nat.le_of_ble_eq_true rfl⟩ (fun r2 v2 H locs hp2 hO => ?_)
  obtain ⟨hI2, hk2⟩ := hp2
  refine lv_pop hx hb dL_law_327 rfl ?_
  refine lv_goto (tgt := 1386) hx hb dL_law_328 (by decide) ?_
  exact kend b1 y1 v2 H locs ls (hC0) hC1 hI2 (Eq.trans (hk1) (Eq.trans hT (Eq.symm ((Km38_I62 hk2))))) (Wo.swap (a := []) hO) hl
theorem wd_809 : (Cond.methodLink "WebCourtLaw" (28 : Nat) ⟨"WebCourt", "fault", "(I)I"⟩) ∈ gtb := gtb_c3 220 (by decide +kernel) rfl
theorem wd_810 : (Cond.instanceMethod ⟨"WebCourt", "fault", "(I)I"⟩) ∈ gtb := gtb_c3 221 (by decide +kernel) rfl
theorem wd_811 : (Cond.selects "WebCourt" ⟨"WebCourt", "fault", "(I)I"⟩ ⟨"WebCourt", "fault", "(I)I"⟩) ∈ gtb := gtb_c3 222 (by decide +kernel) rfl
theorem hd_yX10_fault : yX10_fault.cls = RX10 ∧ yX10_fault.cls ≠ "java/lang/invoke/MethodHandle" ∧ yX10_fault.cls ≠ "java/lang/invoke/VarHandle" ∧ (parseMethodDescriptor yX10_fault.desc).map (fun d => d.parameters.length) = some 1 := by decide +kernel
theorem wd_1710 : (Cond.methodLink "WebCourtLaw" (31 : Nat) ⟨"WebCourtModel", "fault", "(I)I"⟩) ∈ gtb := gtb_c7 161 (by decide +kernel) rfl
theorem wd_1711 : (Cond.instanceMethod ⟨"WebCourtModel", "fault", "(I)I"⟩) ∈ gtb := gtb_c7 162 (by decide +kernel) rfl
theorem wd_1712 : (Cond.selects "WebCourtModel" ⟨"WebCourtModel", "fault", "(I)I"⟩ ⟨"WebCourtModel", "fault", "(I)I"⟩) ∈ gtb := gtb_c7 163 (by decide +kernel) rfl
theorem hd_yX11_fault : yX11_fault.cls = RX11 ∧ yX11_fault.cls ≠ "java/lang/invoke/MethodHandle" ∧ yX11_fault.cls ≠ "java/lang/invoke/VarHandle" ∧ (parseMethodDescriptor yX11_fault.desc).map (fun d => d.parameters.length) = some 1 := by decide +kernel
set_option maxHeartbeats 4000000 in
set_option maxRecDepth 100000 in
theorem lawc_3 {p : Program} {l : Launch} {e : Env} {s : State} {m : MethodId} {below : List Frame} {meth : Method} {c : Code} {b Ln : Nat} {xs : Nat → Int32} {D : va_G} {cy : Nat → ClassId} {a1 a2 : Nat → Nat} {u1 u2 : St} {i : Int32} {A : Nat → Prop} {Q : State → Prop} {H : Heap} {locs : List Loc} {ls : Array Slot} (C : Cx p s m #[Value.ref b] c code 4 RL D cy A) (hX : va_X b Ln xs s s.heap) (hbl : b < s.heap.size) (hbA : ¬ A b) (hi0 : 0 ≤ i.toInt) (hiL : i.toInt + 6 ≤ (Ln : Int)) (hLm : Ln ≤ 3072) (hJ1 : CI a1 u1) (hJ2 : MI a2 u2) (hT : fI u1 39 6 = fI u2 0 62) (kend : ∀ (b1 : Nat → Nat) (v1 v2 : St) (H : Heap) (locs : List Loc) (ls : Array Slot), b1 0 = a1 0 → CI b1 v1 → MI a2 v2 → fI v1 39 6 = fI v2 0 62 → Wo D A (cW cy b1 v1 ++ mW cy a2 v2) s.heap H locs → lv_has ls 4 [(0, .ref b), (1, .ref (a1 0)), (2, .ref (a2 0)), (3, .int i)] → W p l e room_1 s m #[Value.ref b] below meth c H locs 134 12281 Q (F0 m 1386 ls [])) (hO : Wo D A (cW cy a1 u1 ++ mW cy a2 u2) s.heap H locs) (hl : lv_has ls 4 [(0, .ref b), (1, .ref (a1 0)), (2, .ref (a2 0)), (3, .int i)]) : W p l e room_1 s m #[Value.ref b] below meth c H locs 134 12281 Q (F0 m 331 ls []) := by
  obtain ⟨hx, hb, hml, hown, ht, hK, hA⟩ := id C
  refine lv_aload_n hx hb dL_law_331 rfl (lv_at hl 1 rfl) ?_
  refine lv_aload_n hx hb dL_law_332 rfl (lv_at hl 0 rfl) ?_
  refine lv_iload_n hx hb dL_law_333 rfl (lv_at hl 3 rfl) ?_
  refine lv_iconst (v := 1) hx hb dL_law_334 (by decide) ?_
  refine lv_iadd hx hb dL_law_335 ?_
  refine lv_topi (fun z1 ez1 => ?_)
  have nz1 : z1.toInt = i.toInt + 1 := by rw [ez1]; exact i_add rfl rfl (by omega)
  refine va_sld hx hb hX hbl hbA hO.2.2 (i_in (X := i.toInt + 1) nz1 (by omega) (by omega)) dL_law_336 ?_
  refine lv_topi (fun w2 ew2 => ?_)
  refine fVi (w := cW cy a1) (pl := mW cy a2 u2) (As := [.int w2]) (rest := []) C hO (T_X10_fault l D cy a1 u1 hJ1 w2) (cwV 1 ht (gV wd_809 wd_810 wd_811 wd_110 wd_812) rfl rfl rfl hd_yX10_fault ⟨Nat.le_of_ble_eq_true rfl, Nat.le_of_ble_eq_true rfl⟩) 0 rfl cW_0 rfl rfl hl.1 (Nat.le_of_ble_eq_true rfl) dL_law_337 rfl ⟨Nat.le_of_ble_eq_true rfl, Nat.le_of_ble_eq_true rfl⟩ (fun r1 v1 H locs hp1 hO => ?_)
  have hu := hp1
  rw [hu] at hO
  refine lv_pop hx hb dL_law_340 rfl ?_
  refine lv_aload_n hx hb dL_law_341 rfl (lv_at hl 2 rfl) ?_
  refine lv_aload_n hx hb dL_law_342 rfl (lv_at hl 0 rfl) ?_
  refine lv_iload_n hx hb dL_law_343 rfl (lv_at hl 3 rfl) ?_
  refine lv_iconst (v := 1) hx hb dL_law_344 (by decide) ?_
  refine lv_iadd hx hb dL_law_345 ?_
  refine lv_topi (fun z3 ez3 => ?_)
  have nz3 : z3.toInt = i.toInt + 1 := by rw [ez3]; exact i_add rfl rfl (by omega)
  refine va_sld hx hb hX hbl hbA hO.2.2 (i_in (X := i.toInt + 1) nz3 (by omega) (by omega)) dL_law_346 ?_
  refine lv_topi (fun w4 ew4 => ?_)
  have hO : Wo D A (mW cy a2 u2 ++ cW cy a1 u1) s.heap H locs := Wo.swap (a := []) hO
  refine fVi (w := mW cy a2) (pl := cW cy a1 u1) (As := [.int w4]) (rest := []) C hO (T_X11_fault l D cy a2 u2 hJ2 w4) (cwV 1 ht (gV wd_1710 wd_1711 wd_1712 wd_121 wd_1713) rfl rfl rfl hd_yX11_fault ⟨Nat.le_of_ble_eq_true rfl, Nat.le_of_ble_eq_true rfl⟩) 0 rfl mW_0 rfl rfl hl.1 (Nat.le_of_ble_eq_true rfl) dL_law_347 rfl ⟨Nat.le_of_ble_eq_true rfl, Nat.le_of_ble_eq_true rfl⟩ (fun r2 v2 H locs hp2 hO => ?_)
  have hu := hp2
  rw [hu] at hO
  refine lv_pop hx hb dL_law_350 rfl ?_
  refine lv_goto (tgt := 1386) hx hb dL_law_351 (by decide) ?_
  exact kend a1 u1 u2 H locs ls (rfl) hJ1 hJ2 (Eq.trans (rfl) (Eq.trans hT (Eq.symm (rfl)))) (Wo.swap (a := []) hO) hl
theorem wd_813 : (Cond.methodLink "WebCourtLaw" (32 : Nat) ⟨"WebCourt", "knot", "(II)I"⟩) ∈ gtb := gtb_c3 224 (by decide +kernel) rfl
theorem wd_814 : (Cond.instanceMethod ⟨"WebCourt", "knot", "(II)I"⟩) ∈ gtb := gtb_c3 225 (by decide +kernel) rfl
theorem wd_815 : (Cond.selects "WebCourt" ⟨"WebCourt", "knot", "(II)I"⟩ ⟨"WebCourt", "knot", "(II)I"⟩) ∈ gtb := gtb_c3 226 (by decide +kernel) rfl
theorem hd_yX10_knot : yX10_knot.cls = RX10 ∧ yX10_knot.cls ≠ "java/lang/invoke/MethodHandle" ∧ yX10_knot.cls ≠ "java/lang/invoke/VarHandle" ∧ (parseMethodDescriptor yX10_knot.desc).map (fun d => d.parameters.length) = some 2 := by decide +kernel
theorem wd_1714 : (Cond.methodLink "WebCourtLaw" (36 : Nat) ⟨"WebCourtModel", "knot", "(II)I"⟩) ∈ gtb := gtb_c7 165 (by decide +kernel) rfl
theorem wd_1715 : (Cond.instanceMethod ⟨"WebCourtModel", "knot", "(II)I"⟩) ∈ gtb := gtb_c7 166 (by decide +kernel) rfl
theorem wd_1716 : (Cond.selects "WebCourtModel" ⟨"WebCourtModel", "knot", "(II)I"⟩ ⟨"WebCourtModel", "knot", "(II)I"⟩) ∈ gtb := gtb_c7 167 (by decide +kernel) rfl
theorem hd_yX11_knot : yX11_knot.cls = RX11 ∧ yX11_knot.cls ≠ "java/lang/invoke/MethodHandle" ∧ yX11_knot.cls ≠ "java/lang/invoke/VarHandle" ∧ (parseMethodDescriptor yX11_knot.desc).map (fun d => d.parameters.length) = some 2 := by decide +kernel
set_option maxHeartbeats 4000000 in
set_option maxRecDepth 100000 in
theorem lawc_4 {p : Program} {l : Launch} {e : Env} {s : State} {m : MethodId} {below : List Frame} {meth : Method} {c : Code} {b Ln : Nat} {xs : Nat → Int32} {D : va_G} {cy : Nat → ClassId} {a1 a2 : Nat → Nat} {u1 u2 : St} {i : Int32} {A : Nat → Prop} {Q : State → Prop} {H : Heap} {locs : List Loc} {ls : Array Slot} (C : Cx p s m #[Value.ref b] c code 4 RL D cy A) (hX : va_X b Ln xs s s.heap) (hbl : b < s.heap.size) (hbA : ¬ A b) (hi0 : 0 ≤ i.toInt) (hiL : i.toInt + 6 ≤ (Ln : Int)) (hLm : Ln ≤ 3072) (hJ1 : CI a1 u1) (hJ2 : MI a2 u2) (hT : fI u1 39 6 = fI u2 0 62) (kend : ∀ (b1 : Nat → Nat) (v1 v2 : St) (H : Heap) (locs : List Loc) (ls : Array Slot), b1 0 = a1 0 → CI b1 v1 → MI a2 v2 → fI v1 39 6 = fI v2 0 62 → Wo D A (cW cy b1 v1 ++ mW cy a2 v2) s.heap H locs → lv_has ls 4 [(0, .ref b), (1, .ref (a1 0)), (2, .ref (a2 0)), (3, .int i)] → W p l e room_1 s m #[Value.ref b] below meth c H locs 134 12281 Q (F0 m 1386 ls [])) (hO : Wo D A (cW cy a1 u1 ++ mW cy a2 u2) s.heap H locs) (hl : lv_has ls 4 [(0, .ref b), (1, .ref (a1 0)), (2, .ref (a2 0)), (3, .int i)]) : W p l e room_1 s m #[Value.ref b] below meth c H locs 134 12281 Q (F0 m 354 ls []) := by
  obtain ⟨hx, hb, hml, hown, ht, hK, hA⟩ := id C
  refine lv_aload_n hx hb dL_law_354 rfl (lv_at hl 1 rfl) ?_
  refine lv_aload_n hx hb dL_law_355 rfl (lv_at hl 0 rfl) ?_
  refine lv_iload_n hx hb dL_law_356 rfl (lv_at hl 3 rfl) ?_
  refine lv_iconst (v := 1) hx hb dL_law_357 (by decide) ?_
  refine lv_iadd hx hb dL_law_358 ?_
  refine lv_topi (fun z1 ez1 => ?_)
  have nz1 : z1.toInt = i.toInt + 1 := by rw [ez1]; exact i_add rfl rfl (by omega)
  refine va_sld hx hb hX hbl hbA hO.2.2 (i_in (X := i.toInt + 1) nz1 (by omega) (by omega)) dL_law_359 ?_
  refine lv_topi (fun w2 ew2 => ?_)
  refine lv_aload_n hx hb dL_law_360 rfl (lv_at hl 0 rfl) ?_
  refine lv_iload_n hx hb dL_law_361 rfl (lv_at hl 3 rfl) ?_
  refine lv_iconst (v := 2) hx hb dL_law_362 (by decide) ?_
  refine lv_iadd hx hb dL_law_363 ?_
  refine lv_topi (fun z3 ez3 => ?_)
  have nz3 : z3.toInt = i.toInt + 2 := by rw [ez3]; exact i_add rfl rfl (by omega)
  refine va_sld hx hb hX hbl hbA hO.2.2 (i_in (X := i.toInt + 2) nz3 (by omega) (by omega)) dL_law_364 ?_
  refine lv_topi (fun w4 ew4 => ?_)
  refine fVi (w := cW cy a1) (pl := mW cy a2 u2) (As := [.int w2, .int w4]) (rest := []) C hO (T_X10_knot l D cy a1 u1 hJ1 w2 w4) (cwV 2 ht (gV wd_813 wd_814 wd_815 wd_110 wd_816) rfl rfl rfl hd_yX10_knot ⟨Nat.le_of_ble_eq_true rfl, Nat.le_of_ble_eq_true rfl⟩) 0 rfl cW_0 rfl rfl hl.1 (Nat.le_of_ble_eq_true rfl) dL_law_365 rfl ⟨Nat.le_of_ble_eq_true rfl, Nat.le_of_ble_eq_true rfl⟩ (fun r1 v1 H locs hp1 hO => ?_)
  have hu := hp1
  rw [hu] at hO
  refine lv_pop hx hb dL_law_368 rfl ?_
  refine lv_aload_n hx hb dL_law_369 rfl (lv_at hl 2 rfl) ?_
  refine lv_aload_n hx hb dL_law_370 rfl (lv_at hl 0 rfl) ?_
  refine lv_iload_n hx hb dL_law_371 rfl (lv_at hl 3 rfl) ?_
  refine lv_iconst (v := 1) hx hb dL_law_372 (by decide) ?_
  refine lv_iadd hx hb dL_law_373 ?_
  refine lv_topi (fun z5 ez5 => ?_)
  have nz5 : z5.toInt = i.toInt + 1 := by rw [ez5]; exact i_add rfl rfl (by omega)
  refine va_sld hx hb hX hbl hbA hO.2.2 (i_in (X := i.toInt + 1) nz5 (by omega) (by omega)) dL_law_374 ?_
  refine lv_topi (fun w6 ew6 => ?_)
  refine lv_aload_n hx hb dL_law_375 rfl (lv_at hl 0 rfl) ?_
  refine lv_iload_n hx hb dL_law_376 rfl (lv_at hl 3 rfl) ?_
  refine lv_iconst (v := 2) hx hb dL_law_377 (by decide) ?_
  refine lv_iadd hx hb dL_law_378 ?_
  refine lv_topi (fun z7 ez7 => ?_)
  have nz7 : z7.toInt = i.toInt + 2 := by rw [ez7]; exact i_add rfl rfl (by omega)
  refine va_sld hx hb hX hbl hbA hO.2.2 (i_in (X := i.toInt + 2) nz7 (by omega) (by omega)) dL_law_379 ?_
  refine lv_topi (fun w8 ew8 => ?_)
  have hO : Wo D A (mW cy a2 u2 ++ cW cy a1 u1) s.heap H locs := Wo.swap (a := []) hO
  refine fVi (w := mW cy a2) (pl := cW cy a1 u1) (As := [.int w6, .int w8]) (rest := []) C hO (T_X11_knot l D cy a2 u2 hJ2 w6 w8) (cwV 2 ht (gV wd_1714 wd_1715 wd_1716 wd_121 wd_1717) rfl rfl rfl hd_yX11_knot ⟨Nat.le_of_ble_eq_true rfl, Nat.le_of_ble_eq_true rfl⟩) 0 rfl mW_0 rfl rfl hl.1 (Nat.le_of_ble_eq_true rfl) dL_law_380 rfl ⟨Nat.le_of_ble_eq_true rfl, Nat.le_of_ble_eq_true rfl⟩ (fun r2 v2 H locs hp2 hO => ?_)
  have hu := hp2
  rw [hu] at hO
  refine lv_pop hx hb dL_law_383 rfl ?_
  refine lv_goto (tgt := 1386) hx hb dL_law_384 (by decide) ?_
  exact kend a1 u1 u2 H locs ls (rfl) hJ1 hJ2 (Eq.trans (rfl) (Eq.trans hT (Eq.symm (rfl)))) (Wo.swap (a := []) hO) hl
theorem wd_829 : (Cond.methodLink "WebCourtLaw" (37 : Nat) ⟨"WebCourt", "plea", "(I)I"⟩) ∈ gtb := gtb_c4 0 (by decide +kernel) rfl
theorem wd_830 : (Cond.instanceMethod ⟨"WebCourt", "plea", "(I)I"⟩) ∈ gtb := gtb_c4 1 (by decide +kernel) rfl
theorem wd_831 : (Cond.selects "WebCourt" ⟨"WebCourt", "plea", "(I)I"⟩ ⟨"WebCourt", "plea", "(I)I"⟩) ∈ gtb := gtb_c4 2 (by decide +kernel) rfl
theorem hd_yX10_plea : yX10_plea.cls = RX10 ∧ yX10_plea.cls ≠ "java/lang/invoke/MethodHandle" ∧ yX10_plea.cls ≠ "java/lang/invoke/VarHandle" ∧ (parseMethodDescriptor yX10_plea.desc).map (fun d => d.parameters.length) = some 1 := by decide +kernel
theorem wd_1737 : (Cond.methodLink "WebCourtLaw" (40 : Nat) ⟨"WebCourtModel", "plea", "(I)I"⟩) ∈ gtb := gtb_c7 188 (by decide +kernel) rfl
theorem wd_1738 : (Cond.instanceMethod ⟨"WebCourtModel", "plea", "(I)I"⟩) ∈ gtb := gtb_c7 189 (by decide +kernel) rfl
theorem wd_1739 : (Cond.selects "WebCourtModel" ⟨"WebCourtModel", "plea", "(I)I"⟩ ⟨"WebCourtModel", "plea", "(I)I"⟩) ∈ gtb := gtb_c7 190 (by decide +kernel) rfl
theorem hd_yX11_plea : yX11_plea.cls = RX11 ∧ yX11_plea.cls ≠ "java/lang/invoke/MethodHandle" ∧ yX11_plea.cls ≠ "java/lang/invoke/VarHandle" ∧ (parseMethodDescriptor yX11_plea.desc).map (fun d => d.parameters.length) = some 1 := by decide +kernel
set_option maxHeartbeats 4000000 in
set_option maxRecDepth 100000 in
theorem lawc_5 {p : Program} {l : Launch} {e : Env} {s : State} {m : MethodId} {below : List Frame} {meth : Method} {c : Code} {b Ln : Nat} {xs : Nat → Int32} {D : va_G} {cy : Nat → ClassId} {a1 a2 : Nat → Nat} {u1 u2 : St} {i : Int32} {A : Nat → Prop} {Q : State → Prop} {H : Heap} {locs : List Loc} {ls : Array Slot} (C : Cx p s m #[Value.ref b] c code 4 RL D cy A) (hX : va_X b Ln xs s s.heap) (hbl : b < s.heap.size) (hbA : ¬ A b) (hi0 : 0 ≤ i.toInt) (hiL : i.toInt + 6 ≤ (Ln : Int)) (hLm : Ln ≤ 3072) (hJ1 : CI a1 u1) (hJ2 : MI a2 u2) (hT : fI u1 39 6 = fI u2 0 62) (kend : ∀ (b1 : Nat → Nat) (v1 v2 : St) (H : Heap) (locs : List Loc) (ls : Array Slot), b1 0 = a1 0 → CI b1 v1 → MI a2 v2 → fI v1 39 6 = fI v2 0 62 → Wo D A (cW cy b1 v1 ++ mW cy a2 v2) s.heap H locs → lv_has ls 4 [(0, .ref b), (1, .ref (a1 0)), (2, .ref (a2 0)), (3, .int i)] → W p l e room_1 s m #[Value.ref b] below meth c H locs 134 12281 Q (F0 m 1386 ls [])) (hO : Wo D A (cW cy a1 u1 ++ mW cy a2 u2) s.heap H locs) (hl : lv_has ls 4 [(0, .ref b), (1, .ref (a1 0)), (2, .ref (a2 0)), (3, .int i)]) : W p l e room_1 s m #[Value.ref b] below meth c H locs 134 12281 Q (F0 m 387 ls []) := by
  obtain ⟨hx, hb, hml, hown, ht, hK, hA⟩ := id C
  refine lv_aload_n hx hb dL_law_387 rfl (lv_at hl 1 rfl) ?_
  refine lv_aload_n hx hb dL_law_388 rfl (lv_at hl 0 rfl) ?_
  refine lv_iload_n hx hb dL_law_389 rfl (lv_at hl 3 rfl) ?_
  refine lv_iconst (v := 1) hx hb dL_law_390 (by decide) ?_
  refine lv_iadd hx hb dL_law_391 ?_
  refine lv_topi (fun z1 ez1 => ?_)
  have nz1 : z1.toInt = i.toInt + 1 := by rw [ez1]; exact i_add rfl rfl (by omega)
  refine va_sld hx hb hX hbl hbA hO.2.2 (i_in (X := i.toInt + 1) nz1 (by omega) (by omega)) dL_law_392 ?_
  refine lv_topi (fun w2 ew2 => ?_)
  refine fVi (w := cW cy a1) (pl := mW cy a2 u2) (As := [.int w2]) (rest := []) C hO (T_X10_plea l D cy a1 u1 hJ1 w2) (cwV 1 ht (gV wd_829 wd_830 wd_831 wd_110 wd_832) rfl rfl rfl hd_yX10_plea ⟨Nat.le_of_ble_eq_true rfl, Nat.le_of_ble_eq_true rfl⟩) 0 rfl cW_0 rfl rfl hl.1 (Nat.le_of_ble_eq_true rfl) dL_law_393 rfl ⟨Nat.le_of_ble_eq_true rfl, Nat.le_of_ble_eq_true rfl⟩ (fun r1 v1 H locs hp1 hO => ?_)
  have hu := hp1
  rw [hu] at hO
  refine lv_pop hx hb dL_law_396 rfl ?_
  refine lv_aload_n hx hb dL_law_397 rfl (lv_at hl 2 rfl) ?_
  refine lv_aload_n hx hb dL_law_398 rfl (lv_at hl 0 rfl) ?_
  refine lv_iload_n hx hb dL_law_399 rfl (lv_at hl 3 rfl) ?_
  refine lv_iconst (v := 1) hx hb dL_law_400 (by decide) ?_
  refine lv_iadd hx hb dL_law_401 ?_
  refine lv_topi (fun z3 ez3 => ?_)
  have nz3 : z3.toInt = i.toInt + 1 := by rw [ez3]; exact i_add rfl rfl (by omega)
  refine va_sld hx hb hX hbl hbA hO.2.2 (i_in (X := i.toInt + 1) nz3 (by omega) (by omega)) dL_law_402 ?_
  refine lv_topi (fun w4 ew4 => ?_)
  have hO : Wo D A (mW cy a2 u2 ++ cW cy a1 u1) s.heap H locs := Wo.swap (a := []) hO
  refine fVi (w := mW cy a2) (pl := cW cy a1 u1) (As := [.int w4]) (rest := []) C hO (T_X11_plea l D cy a2 u2 hJ2 w4) (cwV 1 ht (gV wd_1737 wd_1738 wd_1739 wd_121 wd_1740) rfl rfl rfl hd_yX11_plea ⟨Nat.le_of_ble_eq_true rfl, Nat.le_of_ble_eq_true rfl⟩) 0 rfl mW_0 rfl rfl hl.1 (Nat.le_of_ble_eq_true rfl) dL_law_403 rfl ⟨Nat.le_of_ble_eq_true rfl, Nat.le_of_ble_eq_true rfl⟩ (fun r2 v2 H locs hp2 hO => ?_)
  have hu := hp2
  rw [hu] at hO
  refine lv_pop hx hb dL_law_406 rfl ?_
  refine lv_goto (tgt := 1386) hx hb dL_law_407 (by decide) ?_
  exact kend a1 u1 u2 H locs ls (rfl) hJ1 hJ2 (Eq.trans (rfl) (Eq.trans hT (Eq.symm (rfl)))) (Wo.swap (a := []) hO) hl
theorem wd_837 : (Cond.methodLink "WebCourtLaw" (41 : Nat) ⟨"WebCourt", "item", "(II)I"⟩) ∈ gtb := gtb_c4 8 (by decide +kernel) rfl
theorem wd_838 : (Cond.instanceMethod ⟨"WebCourt", "item", "(II)I"⟩) ∈ gtb := gtb_c4 9 (by decide +kernel) rfl
theorem wd_839 : (Cond.selects "WebCourt" ⟨"WebCourt", "item", "(II)I"⟩ ⟨"WebCourt", "item", "(II)I"⟩) ∈ gtb := gtb_c4 10 (by decide +kernel) rfl
theorem hd_yX10_item : yX10_item.cls = RX10 ∧ yX10_item.cls ≠ "java/lang/invoke/MethodHandle" ∧ yX10_item.cls ≠ "java/lang/invoke/VarHandle" ∧ (parseMethodDescriptor yX10_item.desc).map (fun d => d.parameters.length) = some 2 := by decide +kernel
theorem wd_1749 : (Cond.methodLink "WebCourtLaw" (44 : Nat) ⟨"WebCourtModel", "item", "(II)I"⟩) ∈ gtb := gtb_c7 200 (by decide +kernel) rfl
theorem wd_1750 : (Cond.instanceMethod ⟨"WebCourtModel", "item", "(II)I"⟩) ∈ gtb := gtb_c7 201 (by decide +kernel) rfl
theorem wd_1751 : (Cond.selects "WebCourtModel" ⟨"WebCourtModel", "item", "(II)I"⟩ ⟨"WebCourtModel", "item", "(II)I"⟩) ∈ gtb := gtb_c7 202 (by decide +kernel) rfl
theorem hd_yX11_item : yX11_item.cls = RX11 ∧ yX11_item.cls ≠ "java/lang/invoke/MethodHandle" ∧ yX11_item.cls ≠ "java/lang/invoke/VarHandle" ∧ (parseMethodDescriptor yX11_item.desc).map (fun d => d.parameters.length) = some 2 := by decide +kernel
set_option maxHeartbeats 4000000 in
set_option maxRecDepth 100000 in
theorem lawc_6 {p : Program} {l : Launch} {e : Env} {s : State} {m : MethodId} {below : List Frame} {meth : Method} {c : Code} {b Ln : Nat} {xs : Nat → Int32} {D : va_G} {cy : Nat → ClassId} {a1 a2 : Nat → Nat} {u1 u2 : St} {i : Int32} {A : Nat → Prop} {Q : State → Prop} {H : Heap} {locs : List Loc} {ls : Array Slot} (C : Cx p s m #[Value.ref b] c code 4 RL D cy A) (hX : va_X b Ln xs s s.heap) (hbl : b < s.heap.size) (hbA : ¬ A b) (hi0 : 0 ≤ i.toInt) (hiL : i.toInt + 6 ≤ (Ln : Int)) (hLm : Ln ≤ 3072) (hJ1 : CI a1 u1) (hJ2 : MI a2 u2) (hT : fI u1 39 6 = fI u2 0 62) (kend : ∀ (b1 : Nat → Nat) (v1 v2 : St) (H : Heap) (locs : List Loc) (ls : Array Slot), b1 0 = a1 0 → CI b1 v1 → MI a2 v2 → fI v1 39 6 = fI v2 0 62 → Wo D A (cW cy b1 v1 ++ mW cy a2 v2) s.heap H locs → lv_has ls 4 [(0, .ref b), (1, .ref (a1 0)), (2, .ref (a2 0)), (3, .int i)] → W p l e room_1 s m #[Value.ref b] below meth c H locs 134 12281 Q (F0 m 1386 ls [])) (hO : Wo D A (cW cy a1 u1 ++ mW cy a2 u2) s.heap H locs) (hl : lv_has ls 4 [(0, .ref b), (1, .ref (a1 0)), (2, .ref (a2 0)), (3, .int i)]) : W p l e room_1 s m #[Value.ref b] below meth c H locs 134 12281 Q (F0 m 410 ls []) := by
  obtain ⟨hx, hb, hml, hown, ht, hK, hA⟩ := id C
  refine lv_aload_n hx hb dL_law_410 rfl (lv_at hl 1 rfl) ?_
  refine lv_aload_n hx hb dL_law_411 rfl (lv_at hl 0 rfl) ?_
  refine lv_iload_n hx hb dL_law_412 rfl (lv_at hl 3 rfl) ?_
  refine lv_iconst (v := 1) hx hb dL_law_413 (by decide) ?_
  refine lv_iadd hx hb dL_law_414 ?_
  refine lv_topi (fun z1 ez1 => ?_)
  have nz1 : z1.toInt = i.toInt + 1 := by rw [ez1]; exact i_add rfl rfl (by omega)
  refine va_sld hx hb hX hbl hbA hO.2.2 (i_in (X := i.toInt + 1) nz1 (by omega) (by omega)) dL_law_415 ?_
  refine lv_topi (fun w2 ew2 => ?_)
  refine lv_aload_n hx hb dL_law_416 rfl (lv_at hl 0 rfl) ?_
  refine lv_iload_n hx hb dL_law_417 rfl (lv_at hl 3 rfl) ?_
  refine lv_iconst (v := 2) hx hb dL_law_418 (by decide) ?_
  refine lv_iadd hx hb dL_law_419 ?_
  refine lv_topi (fun z3 ez3 => ?_)
  have nz3 : z3.toInt = i.toInt + 2 := by rw [ez3]; exact i_add rfl rfl (by omega)
  refine va_sld hx hb hX hbl hbA hO.2.2 (i_in (X := i.toInt + 2) nz3 (by omega) (by omega)) dL_law_420 ?_
  refine lv_topi (fun w4 ew4 => ?_)
  refine fVi (w := cW cy a1) (pl := mW cy a2 u2) (As := [.int w2, .int w4]) (rest := []) C hO (T_X10_item l D cy a1 u1 hJ1 w2 w4) (cwV 2 ht (gV wd_837 wd_838 wd_839 wd_110 wd_840) rfl rfl rfl hd_yX10_item ⟨Nat.le_of_ble_eq_true rfl, Nat.le_of_ble_eq_true rfl⟩) 0 rfl cW_0 rfl rfl hl.1 (Nat.le_of_ble_eq_true rfl) dL_law_421 rfl ⟨Nat.le_of_ble_eq_true rfl, Nat.le_of_ble_eq_true rfl⟩ (fun r1 v1 H locs hp1 hO => ?_)
  have hu := hp1
  rw [hu] at hO
  refine lv_pop hx hb dL_law_424 rfl ?_
  refine lv_aload_n hx hb dL_law_425 rfl (lv_at hl 2 rfl) ?_
  refine lv_aload_n hx hb dL_law_426 rfl (lv_at hl 0 rfl) ?_
  refine lv_iload_n hx hb dL_law_427 rfl (lv_at hl 3 rfl) ?_
  refine lv_iconst (v := 1) hx hb dL_law_428 (by decide) ?_
  refine lv_iadd hx hb dL_law_429 ?_
  refine lv_topi (fun z5 ez5 => ?_)
  have nz5 : z5.toInt = i.toInt + 1 := by rw [ez5]; exact i_add rfl rfl (by omega)
  refine va_sld hx hb hX hbl hbA hO.2.2 (i_in (X := i.toInt + 1) nz5 (by omega) (by omega)) dL_law_430 ?_
  refine lv_topi (fun w6 ew6 => ?_)
  refine lv_aload_n hx hb dL_law_431 rfl (lv_at hl 0 rfl) ?_
  refine lv_iload_n hx hb dL_law_432 rfl (lv_at hl 3 rfl) ?_
  refine lv_iconst (v := 2) hx hb dL_law_433 (by decide) ?_
  refine lv_iadd hx hb dL_law_434 ?_
  refine lv_topi (fun z7 ez7 => ?_)
  have nz7 : z7.toInt = i.toInt + 2 := by rw [ez7]; exact i_add rfl rfl (by omega)
  refine va_sld hx hb hX hbl hbA hO.2.2 (i_in (X := i.toInt + 2) nz7 (by omega) (by omega)) dL_law_435 ?_
  refine lv_topi (fun w8 ew8 => ?_)
  have hO : Wo D A (mW cy a2 u2 ++ cW cy a1 u1) s.heap H locs := Wo.swap (a := []) hO
  refine fVi (w := mW cy a2) (pl := cW cy a1 u1) (As := [.int w6, .int w8]) (rest := []) C hO (T_X11_item l D cy a2 u2 hJ2 w6 w8) (cwV 2 ht (gV wd_1749 wd_1750 wd_1751 wd_121 wd_1752) rfl rfl rfl hd_yX11_item ⟨Nat.le_of_ble_eq_true rfl, Nat.le_of_ble_eq_true rfl⟩) 0 rfl mW_0 rfl rfl hl.1 (Nat.le_of_ble_eq_true rfl) dL_law_436 rfl ⟨Nat.le_of_ble_eq_true rfl, Nat.le_of_ble_eq_true rfl⟩ (fun r2 v2 H locs hp2 hO => ?_)
  have hu := hp2
  rw [hu] at hO
  refine lv_pop hx hb dL_law_439 rfl ?_
  refine lv_goto (tgt := 1386) hx hb dL_law_440 (by decide) ?_
  exact kend a1 u1 u2 H locs ls (rfl) hJ1 hJ2 (Eq.trans (rfl) (Eq.trans hT (Eq.symm (rfl)))) (Wo.swap (a := []) hO) hl
theorem wd_845 : (Cond.methodLink "WebCourtLaw" (45 : Nat) ⟨"WebCourt", "verdict", "(I)I"⟩) ∈ gtb := gtb_c4 16 (by decide +kernel) rfl
theorem wd_846 : (Cond.instanceMethod ⟨"WebCourt", "verdict", "(I)I"⟩) ∈ gtb := gtb_c4 17 (by decide +kernel) rfl
theorem wd_847 : (Cond.selects "WebCourt" ⟨"WebCourt", "verdict", "(I)I"⟩ ⟨"WebCourt", "verdict", "(I)I"⟩) ∈ gtb := gtb_c4 18 (by decide +kernel) rfl
theorem hd_yX10_verdict : yX10_verdict.cls = RX10 ∧ yX10_verdict.cls ≠ "java/lang/invoke/MethodHandle" ∧ yX10_verdict.cls ≠ "java/lang/invoke/VarHandle" ∧ (parseMethodDescriptor yX10_verdict.desc).map (fun d => d.parameters.length) = some 1 := by decide +kernel
theorem wd_1757 : (Cond.methodLink "WebCourtLaw" (48 : Nat) ⟨"WebCourtModel", "verdict", "(I)I"⟩) ∈ gtb := gtb_c7 208 (by decide +kernel) rfl
theorem wd_1758 : (Cond.instanceMethod ⟨"WebCourtModel", "verdict", "(I)I"⟩) ∈ gtb := gtb_c7 209 (by decide +kernel) rfl
theorem wd_1759 : (Cond.selects "WebCourtModel" ⟨"WebCourtModel", "verdict", "(I)I"⟩ ⟨"WebCourtModel", "verdict", "(I)I"⟩) ∈ gtb := gtb_c7 210 (by decide +kernel) rfl
theorem hd_yX11_verdict : yX11_verdict.cls = RX11 ∧ yX11_verdict.cls ≠ "java/lang/invoke/MethodHandle" ∧ yX11_verdict.cls ≠ "java/lang/invoke/VarHandle" ∧ (parseMethodDescriptor yX11_verdict.desc).map (fun d => d.parameters.length) = some 1 := by decide +kernel
theorem Km2_I62 {u v : St} (h : Km2 u v) : fI v 0 62 = fI u 0 62 := h.2.2.2.2.2.2.2.2.2.2.2.2.2.2.2.2.2.2.2.2.1
set_option maxHeartbeats 4000000 in
set_option maxRecDepth 100000 in
theorem lawc_7 {p : Program} {l : Launch} {e : Env} {s : State} {m : MethodId} {below : List Frame} {meth : Method} {c : Code} {b Ln : Nat} {xs : Nat → Int32} {D : va_G} {cy : Nat → ClassId} {a1 a2 : Nat → Nat} {u1 u2 : St} {i : Int32} {A : Nat → Prop} {Q : State → Prop} {H : Heap} {locs : List Loc} {ls : Array Slot} (C : Cx p s m #[Value.ref b] c code 4 RL D cy A) (hX : va_X b Ln xs s s.heap) (hbl : b < s.heap.size) (hbA : ¬ A b) (hi0 : 0 ≤ i.toInt) (hiL : i.toInt + 6 ≤ (Ln : Int)) (hLm : Ln ≤ 3072) (hJ1 : CI a1 u1) (hJ2 : MI a2 u2) (hT : fI u1 39 6 = fI u2 0 62) (kend : ∀ (b1 : Nat → Nat) (v1 v2 : St) (H : Heap) (locs : List Loc) (ls : Array Slot), b1 0 = a1 0 → CI b1 v1 → MI a2 v2 → fI v1 39 6 = fI v2 0 62 → Wo D A (cW cy b1 v1 ++ mW cy a2 v2) s.heap H locs → lv_has ls 4 [(0, .ref b), (1, .ref (a1 0)), (2, .ref (a2 0)), (3, .int i)] → W p l e room_1 s m #[Value.ref b] below meth c H locs 134 12281 Q (F0 m 1386 ls [])) (hO : Wo D A (cW cy a1 u1 ++ mW cy a2 u2) s.heap H locs) (hl : lv_has ls 4 [(0, .ref b), (1, .ref (a1 0)), (2, .ref (a2 0)), (3, .int i)]) : W p l e room_1 s m #[Value.ref b] below meth c H locs 134 12281 Q (F0 m 443 ls []) := by
  obtain ⟨hx, hb, hml, hown, ht, hK, hA⟩ := id C
  refine lv_aload_n hx hb dL_law_443 rfl (lv_at hl 1 rfl) ?_
  refine lv_aload_n hx hb dL_law_444 rfl (lv_at hl 0 rfl) ?_
  refine lv_iload_n hx hb dL_law_445 rfl (lv_at hl 3 rfl) ?_
  refine lv_iconst (v := 1) hx hb dL_law_446 (by decide) ?_
  refine lv_iadd hx hb dL_law_447 ?_
  refine lv_topi (fun z1 ez1 => ?_)
  have nz1 : z1.toInt = i.toInt + 1 := by rw [ez1]; exact i_add rfl rfl (by omega)
  refine va_sld hx hb hX hbl hbA hO.2.2 (i_in (X := i.toInt + 1) nz1 (by omega) (by omega)) dL_law_448 ?_
  refine lv_topi (fun w2 ew2 => ?_)
  refine fVi (w := cW cy a1) (pl := mW cy a2 u2) (As := [.int w2]) (rest := []) C hO (T_X10_verdict l D cy a1 u1 hJ1 w2) (cwV 1 ht (gV wd_845 wd_846 wd_847 wd_110 wd_848) rfl rfl rfl hd_yX10_verdict ⟨Nat.le_of_ble_eq_true rfl, Nat.le_of_ble_eq_true rfl⟩) 0 rfl cW_0 rfl rfl hl.1 (Nat.le_of_ble_eq_true rfl) dL_law_449 rfl ⟨Nat.le_of_ble_eq_true rfl, Nat.le_of_ble_eq_true rfl⟩ (fun r1 v1 H locs hp1 hO => ?_)
  obtain ⟨hI1, hk1⟩ := hp1
  refine lv_pop hx hb dL_law_452 rfl ?_
  refine lv_aload_n hx hb dL_law_453 rfl (lv_at hl 2 rfl) ?_
  refine lv_aload_n hx hb dL_law_454 rfl (lv_at hl 0 rfl) ?_
  refine lv_iload_n hx hb dL_law_455 rfl (lv_at hl 3 rfl) ?_
  refine lv_iconst (v := 1) hx hb dL_law_456 (by decide) ?_
  refine lv_iadd hx hb dL_law_457 ?_
  refine lv_topi (fun z3 ez3 => ?_)
  have nz3 : z3.toInt = i.toInt + 1 := by rw [ez3]; exact i_add rfl rfl (by omega)
  refine va_sld hx hb hX hbl hbA hO.2.2 (i_in (X := i.toInt + 1) nz3 (by omega) (by omega)) dL_law_458 ?_
  refine lv_topi (fun w4 ew4 => ?_)
  have hO : Wo D A (mW cy a2 u2 ++ cW cy a1 v1) s.heap H locs := Wo.swap (a := []) hO
  refine fVi (w := mW cy a2) (pl := cW cy a1 v1) (As := [.int w4]) (rest := []) C hO (T_X11_verdict l D cy a2 u2 hJ2 w4) (cwV 1 ht (gV wd_1757 wd_1758 wd_1759 wd_121 wd_1760) rfl rfl rfl hd_yX11_verdict ⟨Nat.le_of_ble_eq_true rfl, Nat.le_of_ble_eq_true rfl⟩) 0 rfl mW_0 rfl rfl hl.1 (Nat.le_of_ble_eq_true rfl) dL_law_459 rfl ⟨Nat.le_of_ble_eq_true rfl, Nat.le_of_ble_eq_true rfl⟩ (fun r2 v2 H locs hp2 hO => ?_)
  obtain ⟨hI2, hk2⟩ := hp2
  refine lv_pop hx hb dL_law_462 rfl ?_
  refine lv_goto (tgt := 1386) hx hb dL_law_463 (by decide) ?_
  exact kend a1 v1 v2 H locs ls (rfl) hI1 hI2 (Eq.trans (hk1) (Eq.trans hT (Eq.symm ((Km2_I62 hk2))))) (Wo.swap (a := []) hO) hl
theorem wd_896 : (Cond.methodLink "WebCourtLaw" (49 : Nat) ⟨"WebCourt", "hour", "(I)I"⟩) ∈ gtb := gtb_c4 67 (by decide +kernel) rfl
theorem wd_897 : (Cond.instanceMethod ⟨"WebCourt", "hour", "(I)I"⟩) ∈ gtb := gtb_c4 68 (by decide +kernel) rfl
theorem wd_898 : (Cond.selects "WebCourt" ⟨"WebCourt", "hour", "(I)I"⟩ ⟨"WebCourt", "hour", "(I)I"⟩) ∈ gtb := gtb_c4 69 (by decide +kernel) rfl
theorem hd_yX10_hour : yX10_hour.cls = RX10 ∧ yX10_hour.cls ≠ "java/lang/invoke/MethodHandle" ∧ yX10_hour.cls ≠ "java/lang/invoke/VarHandle" ∧ (parseMethodDescriptor yX10_hour.desc).map (fun d => d.parameters.length) = some 1 := by decide +kernel
theorem wd_1813 : (Cond.methodLink "WebCourtLaw" (52 : Nat) ⟨"WebCourtModel", "hour", "(I)I"⟩) ∈ gtb := gtb_c8 24 (by decide +kernel) rfl
theorem wd_1814 : (Cond.instanceMethod ⟨"WebCourtModel", "hour", "(I)I"⟩) ∈ gtb := gtb_c8 25 (by decide +kernel) rfl
theorem wd_1815 : (Cond.selects "WebCourtModel" ⟨"WebCourtModel", "hour", "(I)I"⟩ ⟨"WebCourtModel", "hour", "(I)I"⟩) ∈ gtb := gtb_c8 26 (by decide +kernel) rfl
theorem hd_yX11_hour : yX11_hour.cls = RX11 ∧ yX11_hour.cls ≠ "java/lang/invoke/MethodHandle" ∧ yX11_hour.cls ≠ "java/lang/invoke/VarHandle" ∧ (parseMethodDescriptor yX11_hour.desc).map (fun d => d.parameters.length) = some 1 := by decide +kernel
theorem Km11_I62 {u v : St} (h : Km11 u v) : fI v 0 62 = fI u 0 62 := h.2.2.2.2.2.2.2.2.2.2.2.2.2.2.2.2.2.2.2.2.1
set_option maxHeartbeats 4000000 in
set_option maxRecDepth 100000 in
theorem lawc_8 {p : Program} {l : Launch} {e : Env} {s : State} {m : MethodId} {below : List Frame} {meth : Method} {c : Code} {b Ln : Nat} {xs : Nat → Int32} {D : va_G} {cy : Nat → ClassId} {a1 a2 : Nat → Nat} {u1 u2 : St} {i : Int32} {A : Nat → Prop} {Q : State → Prop} {H : Heap} {locs : List Loc} {ls : Array Slot} (C : Cx p s m #[Value.ref b] c code 4 RL D cy A) (hX : va_X b Ln xs s s.heap) (hbl : b < s.heap.size) (hbA : ¬ A b) (hi0 : 0 ≤ i.toInt) (hiL : i.toInt + 6 ≤ (Ln : Int)) (hLm : Ln ≤ 3072) (hJ1 : CI a1 u1) (hJ2 : MI a2 u2) (hT : fI u1 39 6 = fI u2 0 62) (kend : ∀ (b1 : Nat → Nat) (v1 v2 : St) (H : Heap) (locs : List Loc) (ls : Array Slot), b1 0 = a1 0 → CI b1 v1 → MI a2 v2 → fI v1 39 6 = fI v2 0 62 → Wo D A (cW cy b1 v1 ++ mW cy a2 v2) s.heap H locs → lv_has ls 4 [(0, .ref b), (1, .ref (a1 0)), (2, .ref (a2 0)), (3, .int i)] → W p l e room_1 s m #[Value.ref b] below meth c H locs 134 12281 Q (F0 m 1386 ls [])) (hO : Wo D A (cW cy a1 u1 ++ mW cy a2 u2) s.heap H locs) (hl : lv_has ls 4 [(0, .ref b), (1, .ref (a1 0)), (2, .ref (a2 0)), (3, .int i)]) : W p l e room_1 s m #[Value.ref b] below meth c H locs 134 12281 Q (F0 m 466 ls []) := by
  obtain ⟨hx, hb, hml, hown, ht, hK, hA⟩ := id C
  refine lv_aload_n hx hb dL_law_466 rfl (lv_at hl 1 rfl) ?_
  refine lv_aload_n hx hb dL_law_467 rfl (lv_at hl 0 rfl) ?_
  refine lv_iload_n hx hb dL_law_468 rfl (lv_at hl 3 rfl) ?_
  refine lv_iconst (v := 1) hx hb dL_law_469 (by decide) ?_
  refine lv_iadd hx hb dL_law_470 ?_
  refine lv_topi (fun z1 ez1 => ?_)
  have nz1 : z1.toInt = i.toInt + 1 := by rw [ez1]; exact i_add rfl rfl (by omega)
  refine va_sld hx hb hX hbl hbA hO.2.2 (i_in (X := i.toInt + 1) nz1 (by omega) (by omega)) dL_law_471 ?_
  refine lv_topi (fun w2 ew2 => ?_)
  refine fVi (w := cW cy a1) (pl := mW cy a2 u2) (As := [.int w2]) (rest := []) C hO (T_X10_hour l D cy a1 u1 hJ1 w2) (cwV 1 ht (gV wd_896 wd_897 wd_898 wd_110 wd_899) rfl rfl rfl hd_yX10_hour ⟨Nat.le_of_ble_eq_true rfl, Nat.le_of_ble_eq_true rfl⟩) 0 rfl cW_0 rfl rfl hl.1 (Nat.le_of_ble_eq_true rfl) dL_law_472 rfl ⟨Nat.le_of_ble_eq_true rfl, Nat.le_of_ble_eq_true rfl⟩ (fun r1 v1 H locs hp1 hO => ?_)
  obtain ⟨hI1, hk1⟩ := hp1
  refine lv_pop hx hb dL_law_475 rfl ?_
  refine lv_aload_n hx hb dL_law_476 rfl (lv_at hl 2 rfl) ?_
  refine lv_aload_n hx hb dL_law_477 rfl (lv_at hl 0 rfl) ?_
  refine lv_iload_n hx hb dL_law_478 rfl (lv_at hl 3 rfl) ?_
  refine lv_iconst (v := 1) hx hb dL_law_479 (by decide) ?_
  refine lv_iadd hx hb dL_law_480 ?_
  refine lv_topi (fun z3 ez3 => ?_)
  have nz3 : z3.toInt = i.toInt + 1 := by rw [ez3]; exact i_add rfl rfl (by omega)
  refine va_sld hx hb hX hbl hbA hO.2.2 (i_in (X := i.toInt + 1) nz3 (by omega) (by omega)) dL_law_481 ?_
  refine lv_topi (fun w4 ew4 => ?_)
  have hO : Wo D A (mW cy a2 u2 ++ cW cy a1 v1) s.heap H locs := Wo.swap (a := []) hO
  refine fVi (w := mW cy a2) (pl := cW cy a1 v1) (As := [.int w4]) (rest := []) C hO (T_X11_hour l D cy a2 u2 hJ2 w4) (cwV 1 ht (gV wd_1813 wd_1814 wd_1815 wd_121 wd_1816) rfl rfl rfl hd_yX11_hour ⟨Nat.le_of_ble_eq_true rfl, Nat.le_of_ble_eq_true rfl⟩) 0 rfl mW_0 rfl rfl hl.1 (Nat.le_of_ble_eq_true rfl) dL_law_482 rfl ⟨Nat.le_of_ble_eq_true rfl, Nat.le_of_ble_eq_true rfl⟩ (fun r2 v2 H locs hp2 hO => ?_)
  obtain ⟨hI2, hk2⟩ := hp2
  refine lv_pop hx hb dL_law_485 rfl ?_
  refine lv_goto (tgt := 1386) hx hb dL_law_486 (by decide) ?_
  exact kend a1 v1 v2 H locs ls (rfl) hI1 hI2 (Eq.trans (hk1) (Eq.trans hT (Eq.symm ((Km11_I62 hk2))))) (Wo.swap (a := []) hO) hl
theorem wd_921 : (Cond.methodLink "WebCourtLaw" (53 : Nat) ⟨"WebCourt", "hear", "(I)I"⟩) ∈ gtb := gtb_c4 92 (by decide +kernel) rfl
theorem wd_922 : (Cond.instanceMethod ⟨"WebCourt", "hear", "(I)I"⟩) ∈ gtb := gtb_c4 93 (by decide +kernel) rfl
theorem wd_923 : (Cond.selects "WebCourt" ⟨"WebCourt", "hear", "(I)I"⟩ ⟨"WebCourt", "hear", "(I)I"⟩) ∈ gtb := gtb_c4 94 (by decide +kernel) rfl
theorem hd_yX10_hear : yX10_hear.cls = RX10 ∧ yX10_hear.cls ≠ "java/lang/invoke/MethodHandle" ∧ yX10_hear.cls ≠ "java/lang/invoke/VarHandle" ∧ (parseMethodDescriptor yX10_hear.desc).map (fun d => d.parameters.length) = some 1 := by decide +kernel
theorem wd_1821 : (Cond.methodLink "WebCourtLaw" (56 : Nat) ⟨"WebCourtModel", "hear", "(I)I"⟩) ∈ gtb := gtb_c8 32 (by decide +kernel) rfl
theorem wd_1822 : (Cond.instanceMethod ⟨"WebCourtModel", "hear", "(I)I"⟩) ∈ gtb := gtb_c8 33 (by decide +kernel) rfl
theorem wd_1823 : (Cond.selects "WebCourtModel" ⟨"WebCourtModel", "hear", "(I)I"⟩ ⟨"WebCourtModel", "hear", "(I)I"⟩) ∈ gtb := gtb_c8 34 (by decide +kernel) rfl
theorem hd_yX11_hear : yX11_hear.cls = RX11 ∧ yX11_hear.cls ≠ "java/lang/invoke/MethodHandle" ∧ yX11_hear.cls ≠ "java/lang/invoke/VarHandle" ∧ (parseMethodDescriptor yX11_hear.desc).map (fun d => d.parameters.length) = some 1 := by decide +kernel
theorem Km16_I62 {u v : St} (h : Km16 u v) : fI v 0 62 = fI u 0 62 := h.2.2.2.2.2.2.2.2.2.2.2.2.2.2.2.2.2.2.1
set_option maxHeartbeats 4000000 in
set_option maxRecDepth 100000 in
theorem lawc_9 {p : Program} {l : Launch} {e : Env} {s : State} {m : MethodId} {below : List Frame} {meth : Method} {c : Code} {b Ln : Nat} {xs : Nat → Int32} {D : va_G} {cy : Nat → ClassId} {a1 a2 : Nat → Nat} {u1 u2 : St} {i : Int32} {A : Nat → Prop} {Q : State → Prop} {H : Heap} {locs : List Loc} {ls : Array Slot} (C : Cx p s m #[Value.ref b] c code 4 RL D cy A) (hX : va_X b Ln xs s s.heap) (hbl : b < s.heap.size) (hbA : ¬ A b) (hi0 : 0 ≤ i.toInt) (hiL : i.toInt + 6 ≤ (Ln : Int)) (hLm : Ln ≤ 3072) (hJ1 : CI a1 u1) (hJ2 : MI a2 u2) (hT : fI u1 39 6 = fI u2 0 62) (kend : ∀ (b1 : Nat → Nat) (v1 v2 : St) (H : Heap) (locs : List Loc) (ls : Array Slot), b1 0 = a1 0 → CI b1 v1 → MI a2 v2 → fI v1 39 6 = fI v2 0 62 → Wo D A (cW cy b1 v1 ++ mW cy a2 v2) s.heap H locs → lv_has ls 4 [(0, .ref b), (1, .ref (a1 0)), (2, .ref (a2 0)), (3, .int i)] → W p l e room_1 s m #[Value.ref b] below meth c H locs 134 12281 Q (F0 m 1386 ls [])) (hO : Wo D A (cW cy a1 u1 ++ mW cy a2 u2) s.heap H locs) (hl : lv_has ls 4 [(0, .ref b), (1, .ref (a1 0)), (2, .ref (a2 0)), (3, .int i)]) : W p l e room_1 s m #[Value.ref b] below meth c H locs 134 12281 Q (F0 m 489 ls []) := by
  obtain ⟨hx, hb, hml, hown, ht, hK, hA⟩ := id C
  refine lv_aload_n hx hb dL_law_489 rfl (lv_at hl 1 rfl) ?_
  refine lv_aload_n hx hb dL_law_490 rfl (lv_at hl 0 rfl) ?_
  refine lv_iload_n hx hb dL_law_491 rfl (lv_at hl 3 rfl) ?_
  refine lv_iconst (v := 1) hx hb dL_law_492 (by decide) ?_
  refine lv_iadd hx hb dL_law_493 ?_
  refine lv_topi (fun z1 ez1 => ?_)
  have nz1 : z1.toInt = i.toInt + 1 := by rw [ez1]; exact i_add rfl rfl (by omega)
  refine va_sld hx hb hX hbl hbA hO.2.2 (i_in (X := i.toInt + 1) nz1 (by omega) (by omega)) dL_law_494 ?_
  refine lv_topi (fun w2 ew2 => ?_)
  refine fVi (w := cW cy a1) (pl := mW cy a2 u2) (As := [.int w2]) (rest := []) C hO (T_X10_hear l D cy a1 u1 hJ1 w2) (cwV 1 ht (gV wd_921 wd_922 wd_923 wd_110 wd_924) rfl rfl rfl hd_yX10_hear ⟨Nat.le_of_ble_eq_true rfl, Nat.le_of_ble_eq_true rfl⟩) 0 rfl cW_0 rfl rfl hl.1 (Nat.le_of_ble_eq_true rfl) dL_law_495 rfl ⟨Nat.le_of_ble_eq_true rfl, Nat.le_of_ble_eq_true rfl⟩ (fun r1 v1 H locs hp1 hO => ?_)
  obtain ⟨hI1, hk1⟩ := hp1
  refine lv_pop hx hb dL_law_498 rfl ?_
  refine lv_aload_n hx hb dL_law_499 rfl (lv_at hl 2 rfl) ?_
  refine lv_aload_n hx hb dL_law_500 rfl (lv_at hl 0 rfl) ?_
  refine lv_iload_n hx hb dL_law_501 rfl (lv_at hl 3 rfl) ?_
  refine lv_iconst (v := 1) hx hb dL_law_502 (by decide) ?_
  refine lv_iadd hx hb dL_law_503 ?_
  refine lv_topi (fun z3 ez3 => ?_)
  have nz3 : z3.toInt = i.toInt + 1 := by rw [ez3]; exact i_add rfl rfl (by omega)
  refine va_sld hx hb hX hbl hbA hO.2.2 (i_in (X := i.toInt + 1) nz3 (by omega) (by omega)) dL_law_504 ?_
  refine lv_topi (fun w4 ew4 => ?_)
  have hO : Wo D A (mW cy a2 u2 ++ cW cy a1 v1) s.heap H locs := Wo.swap (a := []) hO
  refine fVi (w := mW cy a2) (pl := cW cy a1 v1) (As := [.int w4]) (rest := []) C hO (T_X11_hear l D cy a2 u2 hJ2 w4) (cwV 1 ht (gV wd_1821 wd_1822 wd_1823 wd_121 wd_1824) rfl rfl rfl hd_yX11_hear ⟨Nat.le_of_ble_eq_true rfl, Nat.le_of_ble_eq_true rfl⟩) 0 rfl mW_0 rfl rfl hl.1 (Nat.le_of_ble_eq_true rfl) dL_law_505 rfl ⟨Nat.le_of_ble_eq_true rfl, Nat.le_of_ble_eq_true rfl⟩ (fun r2 v2 H locs hp2 hO => ?_)
  obtain ⟨hI2, hk2⟩ := hp2
  refine lv_pop hx hb dL_law_508 rfl ?_
  refine lv_goto (tgt := 1386) hx hb dL_law_509 (by decide) ?_
  exact kend a1 v1 v2 H locs ls (rfl) hI1 hI2 (Eq.trans (hk1) (Eq.trans hT (Eq.symm ((Km16_I62 hk2))))) (Wo.swap (a := []) hO) hl
theorem wd_940 : (Cond.methodLink "WebCourtLaw" (57 : Nat) ⟨"WebCourt", "plead", "(II)I"⟩) ∈ gtb := gtb_c4 111 (by decide +kernel) rfl
theorem wd_941 : (Cond.instanceMethod ⟨"WebCourt", "plead", "(II)I"⟩) ∈ gtb := gtb_c4 112 (by decide +kernel) rfl
theorem wd_942 : (Cond.selects "WebCourt" ⟨"WebCourt", "plead", "(II)I"⟩ ⟨"WebCourt", "plead", "(II)I"⟩) ∈ gtb := gtb_c4 113 (by decide +kernel) rfl
theorem hd_yX10_plead : yX10_plead.cls = RX10 ∧ yX10_plead.cls ≠ "java/lang/invoke/MethodHandle" ∧ yX10_plead.cls ≠ "java/lang/invoke/VarHandle" ∧ (parseMethodDescriptor yX10_plead.desc).map (fun d => d.parameters.length) = some 2 := by decide +kernel
theorem wd_1828 : (Cond.methodLink "WebCourtLaw" (60 : Nat) ⟨"WebCourtModel", "plead", "(II)I"⟩) ∈ gtb := gtb_c8 39 (by decide +kernel) rfl
theorem wd_1829 : (Cond.instanceMethod ⟨"WebCourtModel", "plead", "(II)I"⟩) ∈ gtb := gtb_c8 40 (by decide +kernel) rfl
theorem wd_1830 : (Cond.selects "WebCourtModel" ⟨"WebCourtModel", "plead", "(II)I"⟩ ⟨"WebCourtModel", "plead", "(II)I"⟩) ∈ gtb := gtb_c8 41 (by decide +kernel) rfl
theorem hd_yX11_plead : yX11_plead.cls = RX11 ∧ yX11_plead.cls ≠ "java/lang/invoke/MethodHandle" ∧ yX11_plead.cls ≠ "java/lang/invoke/VarHandle" ∧ (parseMethodDescriptor yX11_plead.desc).map (fun d => d.parameters.length) = some 2 := by decide +kernel
set_option maxHeartbeats 4000000 in
set_option maxRecDepth 100000 in
theorem lawc_10 {p : Program} {l : Launch} {e : Env} {s : State} {m : MethodId} {below : List Frame} {meth : Method} {c : Code} {b Ln : Nat} {xs : Nat → Int32} {D : va_G} {cy : Nat → ClassId} {a1 a2 : Nat → Nat} {u1 u2 : St} {i : Int32} {A : Nat → Prop} {Q : State → Prop} {H : Heap} {locs : List Loc} {ls : Array Slot} (C : Cx p s m #[Value.ref b] c code 4 RL D cy A) (hX : va_X b Ln xs s s.heap) (hbl : b < s.heap.size) (hbA : ¬ A b) (hi0 : 0 ≤ i.toInt) (hiL : i.toInt + 6 ≤ (Ln : Int)) (hLm : Ln ≤ 3072) (hJ1 : CI a1 u1) (hJ2 : MI a2 u2) (hT : fI u1 39 6 = fI u2 0 62) (kend : ∀ (b1 : Nat → Nat) (v1 v2 : St) (H : Heap) (locs : List Loc) (ls : Array Slot), b1 0 = a1 0 → CI b1 v1 → MI a2 v2 → fI v1 39 6 = fI v2 0 62 → Wo D A (cW cy b1 v1 ++ mW cy a2 v2) s.heap H locs → lv_has ls 4 [(0, .ref b), (1, .ref (a1 0)), (2, .ref (a2 0)), (3, .int i)] → W p l e room_1 s m #[Value.ref b] below meth c H locs 134 12281 Q (F0 m 1386 ls [])) (hO : Wo D A (cW cy a1 u1 ++ mW cy a2 u2) s.heap H locs) (hl : lv_has ls 4 [(0, .ref b), (1, .ref (a1 0)), (2, .ref (a2 0)), (3, .int i)]) : W p l e room_1 s m #[Value.ref b] below meth c H locs 134 12281 Q (F0 m 512 ls []) := by
  obtain ⟨hx, hb, hml, hown, ht, hK, hA⟩ := id C
  refine lv_aload_n hx hb dL_law_512 rfl (lv_at hl 1 rfl) ?_
  refine lv_aload_n hx hb dL_law_513 rfl (lv_at hl 0 rfl) ?_
  refine lv_iload_n hx hb dL_law_514 rfl (lv_at hl 3 rfl) ?_
  refine lv_iconst (v := 1) hx hb dL_law_515 (by decide) ?_
  refine lv_iadd hx hb dL_law_516 ?_
  refine lv_topi (fun z1 ez1 => ?_)
  have nz1 : z1.toInt = i.toInt + 1 := by rw [ez1]; exact i_add rfl rfl (by omega)
  refine va_sld hx hb hX hbl hbA hO.2.2 (i_in (X := i.toInt + 1) nz1 (by omega) (by omega)) dL_law_517 ?_
  refine lv_topi (fun w2 ew2 => ?_)
  refine lv_aload_n hx hb dL_law_518 rfl (lv_at hl 0 rfl) ?_
  refine lv_iload_n hx hb dL_law_519 rfl (lv_at hl 3 rfl) ?_
  refine lv_iconst (v := 2) hx hb dL_law_520 (by decide) ?_
  refine lv_iadd hx hb dL_law_521 ?_
  refine lv_topi (fun z3 ez3 => ?_)
  have nz3 : z3.toInt = i.toInt + 2 := by rw [ez3]; exact i_add rfl rfl (by omega)
  refine va_sld hx hb hX hbl hbA hO.2.2 (i_in (X := i.toInt + 2) nz3 (by omega) (by omega)) dL_law_522 ?_
  refine lv_topi (fun w4 ew4 => ?_)
  refine fVi (w := cW cy a1) (pl := mW cy a2 u2) (As := [.int w2, .int w4]) (rest := []) C hO (T_X10_plead l D cy a1 u1 hJ1 w2 w4) (cwV 2 ht (gV wd_940 wd_941 wd_942 wd_110 wd_943) rfl rfl rfl hd_yX10_plead ⟨Nat.le_of_ble_eq_true rfl, Nat.le_of_ble_eq_true rfl⟩) 0 rfl cW_0 rfl rfl hl.1 (Nat.le_of_ble_eq_true rfl) dL_law_523 rfl ⟨Nat.le_of_ble_eq_true rfl, Nat.le_of_ble_eq_true rfl⟩ (fun r1 v1 H locs hp1 hO => ?_)
  obtain ⟨hI1, hk1⟩ := hp1
  refine lv_pop hx hb dL_law_526 rfl ?_
  refine lv_aload_n hx hb dL_law_527 rfl (lv_at hl 2 rfl) ?_
  refine lv_aload_n hx hb dL_law_528 rfl (lv_at hl 0 rfl) ?_
  refine lv_iload_n hx hb dL_law_529 rfl (lv_at hl 3 rfl) ?_
  refine lv_iconst (v := 1) hx hb dL_law_530 (by decide) ?_
  refine lv_iadd hx hb dL_law_531 ?_
  refine lv_topi (fun z5 ez5 => ?_)
  have nz5 : z5.toInt = i.toInt + 1 := by rw [ez5]; exact i_add rfl rfl (by omega)
  refine va_sld hx hb hX hbl hbA hO.2.2 (i_in (X := i.toInt + 1) nz5 (by omega) (by omega)) dL_law_532 ?_
  refine lv_topi (fun w6 ew6 => ?_)
  refine lv_aload_n hx hb dL_law_533 rfl (lv_at hl 0 rfl) ?_
  refine lv_iload_n hx hb dL_law_534 rfl (lv_at hl 3 rfl) ?_
  refine lv_iconst (v := 2) hx hb dL_law_535 (by decide) ?_
  refine lv_iadd hx hb dL_law_536 ?_
  refine lv_topi (fun z7 ez7 => ?_)
  have nz7 : z7.toInt = i.toInt + 2 := by rw [ez7]; exact i_add rfl rfl (by omega)
  refine va_sld hx hb hX hbl hbA hO.2.2 (i_in (X := i.toInt + 2) nz7 (by omega) (by omega)) dL_law_537 ?_
  refine lv_topi (fun w8 ew8 => ?_)
  have hO : Wo D A (mW cy a2 u2 ++ cW cy a1 v1) s.heap H locs := Wo.swap (a := []) hO
  refine fVi (w := mW cy a2) (pl := cW cy a1 v1) (As := [.int w6, .int w8]) (rest := []) C hO (T_X11_plead l D cy a2 u2 hJ2 w6 w8) (cwV 2 ht (gV wd_1828 wd_1829 wd_1830 wd_121 wd_1831) rfl rfl rfl hd_yX11_plead ⟨Nat.le_of_ble_eq_true rfl, Nat.le_of_ble_eq_true rfl⟩) 0 rfl mW_0 rfl rfl hl.1 (Nat.le_of_ble_eq_true rfl) dL_law_538 rfl ⟨Nat.le_of_ble_eq_true rfl, Nat.le_of_ble_eq_true rfl⟩ (fun r2 v2 H locs hp2 hO => ?_)
  obtain ⟨hI2, hk2⟩ := hp2
  refine lv_pop hx hb dL_law_541 rfl ?_
  refine lv_goto (tgt := 1386) hx hb dL_law_542 (by decide) ?_
  exact kend a1 v1 v2 H locs ls (rfl) hI1 hI2 (Eq.trans (hk1) (Eq.trans hT (Eq.symm ((Km16_I62 hk2))))) (Wo.swap (a := []) hO) hl
theorem wd_953 : (Cond.methodLink "WebCourtLaw" (61 : Nat) ⟨"WebCourt", "drop", "(II)I"⟩) ∈ gtb := gtb_c4 124 (by decide +kernel) rfl
theorem wd_954 : (Cond.instanceMethod ⟨"WebCourt", "drop", "(II)I"⟩) ∈ gtb := gtb_c4 125 (by decide +kernel) rfl
theorem wd_955 : (Cond.selects "WebCourt" ⟨"WebCourt", "drop", "(II)I"⟩ ⟨"WebCourt", "drop", "(II)I"⟩) ∈ gtb := gtb_c4 126 (by decide +kernel) rfl
theorem hd_yX10_drop : yX10_drop.cls = RX10 ∧ yX10_drop.cls ≠ "java/lang/invoke/MethodHandle" ∧ yX10_drop.cls ≠ "java/lang/invoke/VarHandle" ∧ (parseMethodDescriptor yX10_drop.desc).map (fun d => d.parameters.length) = some 2 := by decide +kernel
theorem wd_1832 : (Cond.methodLink "WebCourtLaw" (64 : Nat) ⟨"WebCourtModel", "drop", "(II)I"⟩) ∈ gtb := gtb_c8 43 (by decide +kernel) rfl
theorem wd_1833 : (Cond.instanceMethod ⟨"WebCourtModel", "drop", "(II)I"⟩) ∈ gtb := gtb_c8 44 (by decide +kernel) rfl
theorem wd_1834 : (Cond.selects "WebCourtModel" ⟨"WebCourtModel", "drop", "(II)I"⟩ ⟨"WebCourtModel", "drop", "(II)I"⟩) ∈ gtb := gtb_c8 45 (by decide +kernel) rfl
theorem hd_yX11_drop : yX11_drop.cls = RX11 ∧ yX11_drop.cls ≠ "java/lang/invoke/MethodHandle" ∧ yX11_drop.cls ≠ "java/lang/invoke/VarHandle" ∧ (parseMethodDescriptor yX11_drop.desc).map (fun d => d.parameters.length) = some 2 := by decide +kernel
set_option maxHeartbeats 4000000 in
set_option maxRecDepth 100000 in
theorem lawc_11 {p : Program} {l : Launch} {e : Env} {s : State} {m : MethodId} {below : List Frame} {meth : Method} {c : Code} {b Ln : Nat} {xs : Nat → Int32} {D : va_G} {cy : Nat → ClassId} {a1 a2 : Nat → Nat} {u1 u2 : St} {i : Int32} {A : Nat → Prop} {Q : State → Prop} {H : Heap} {locs : List Loc} {ls : Array Slot} (C : Cx p s m #[Value.ref b] c code 4 RL D cy A) (hX : va_X b Ln xs s s.heap) (hbl : b < s.heap.size) (hbA : ¬ A b) (hi0 : 0 ≤ i.toInt) (hiL : i.toInt + 6 ≤ (Ln : Int)) (hLm : Ln ≤ 3072) (hJ1 : CI a1 u1) (hJ2 : MI a2 u2) (hT : fI u1 39 6 = fI u2 0 62) (kend : ∀ (b1 : Nat → Nat) (v1 v2 : St) (H : Heap) (locs : List Loc) (ls : Array Slot), b1 0 = a1 0 → CI b1 v1 → MI a2 v2 → fI v1 39 6 = fI v2 0 62 → Wo D A (cW cy b1 v1 ++ mW cy a2 v2) s.heap H locs → lv_has ls 4 [(0, .ref b), (1, .ref (a1 0)), (2, .ref (a2 0)), (3, .int i)] → W p l e room_1 s m #[Value.ref b] below meth c H locs 134 12281 Q (F0 m 1386 ls [])) (hO : Wo D A (cW cy a1 u1 ++ mW cy a2 u2) s.heap H locs) (hl : lv_has ls 4 [(0, .ref b), (1, .ref (a1 0)), (2, .ref (a2 0)), (3, .int i)]) : W p l e room_1 s m #[Value.ref b] below meth c H locs 134 12281 Q (F0 m 545 ls []) := by
  obtain ⟨hx, hb, hml, hown, ht, hK, hA⟩ := id C
  refine lv_aload_n hx hb dL_law_545 rfl (lv_at hl 1 rfl) ?_
  refine lv_aload_n hx hb dL_law_546 rfl (lv_at hl 0 rfl) ?_
  refine lv_iload_n hx hb dL_law_547 rfl (lv_at hl 3 rfl) ?_
  refine lv_iconst (v := 1) hx hb dL_law_548 (by decide) ?_
  refine lv_iadd hx hb dL_law_549 ?_
  refine lv_topi (fun z1 ez1 => ?_)
  have nz1 : z1.toInt = i.toInt + 1 := by rw [ez1]; exact i_add rfl rfl (by omega)
  refine va_sld hx hb hX hbl hbA hO.2.2 (i_in (X := i.toInt + 1) nz1 (by omega) (by omega)) dL_law_550 ?_
  refine lv_topi (fun w2 ew2 => ?_)
  refine lv_aload_n hx hb dL_law_551 rfl (lv_at hl 0 rfl) ?_
  refine lv_iload_n hx hb dL_law_552 rfl (lv_at hl 3 rfl) ?_
  refine lv_iconst (v := 2) hx hb dL_law_553 (by decide) ?_
  refine lv_iadd hx hb dL_law_554 ?_
  refine lv_topi (fun z3 ez3 => ?_)
  have nz3 : z3.toInt = i.toInt + 2 := by rw [ez3]; exact i_add rfl rfl (by omega)
  refine va_sld hx hb hX hbl hbA hO.2.2 (i_in (X := i.toInt + 2) nz3 (by omega) (by omega)) dL_law_555 ?_
  refine lv_topi (fun w4 ew4 => ?_)
  refine fVi (w := cW cy a1) (pl := mW cy a2 u2) (As := [.int w2, .int w4]) (rest := []) C hO (T_X10_drop l D cy a1 u1 hJ1 w2 w4) (cwV 2 ht (gV wd_953 wd_954 wd_955 wd_110 wd_956) rfl rfl rfl hd_yX10_drop ⟨Nat.le_of_ble_eq_true rfl, Nat.le_of_ble_eq_true rfl⟩) 0 rfl cW_0 rfl rfl hl.1 (Nat.le_of_ble_eq_true rfl) dL_law_556 rfl ⟨Nat.le_of_ble_eq_true rfl, Nat.le_of_ble_eq_true rfl⟩ (fun r1 v1 H locs hp1 hO => ?_)
  obtain ⟨hI1, hk1⟩ := hp1
  refine lv_pop hx hb dL_law_559 rfl ?_
  refine lv_aload_n hx hb dL_law_560 rfl (lv_at hl 2 rfl) ?_
  refine lv_aload_n hx hb dL_law_561 rfl (lv_at hl 0 rfl) ?_
  refine lv_iload_n hx hb dL_law_562 rfl (lv_at hl 3 rfl) ?_
  refine lv_iconst (v := 1) hx hb dL_law_563 (by decide) ?_
  refine lv_iadd hx hb dL_law_564 ?_
  refine lv_topi (fun z5 ez5 => ?_)
  have nz5 : z5.toInt = i.toInt + 1 := by rw [ez5]; exact i_add rfl rfl (by omega)
  refine va_sld hx hb hX hbl hbA hO.2.2 (i_in (X := i.toInt + 1) nz5 (by omega) (by omega)) dL_law_565 ?_
  refine lv_topi (fun w6 ew6 => ?_)
  refine lv_aload_n hx hb dL_law_566 rfl (lv_at hl 0 rfl) ?_
  refine lv_iload_n hx hb dL_law_567 rfl (lv_at hl 3 rfl) ?_
  refine lv_iconst (v := 2) hx hb dL_law_568 (by decide) ?_
  refine lv_iadd hx hb dL_law_569 ?_
  refine lv_topi (fun z7 ez7 => ?_)
  have nz7 : z7.toInt = i.toInt + 2 := by rw [ez7]; exact i_add rfl rfl (by omega)
  refine va_sld hx hb hX hbl hbA hO.2.2 (i_in (X := i.toInt + 2) nz7 (by omega) (by omega)) dL_law_570 ?_
  refine lv_topi (fun w8 ew8 => ?_)
  have hO : Wo D A (mW cy a2 u2 ++ cW cy a1 v1) s.heap H locs := Wo.swap (a := []) hO
  refine fVi (w := mW cy a2) (pl := cW cy a1 v1) (As := [.int w6, .int w8]) (rest := []) C hO (T_X11_drop l D cy a2 u2 hJ2 w6 w8) (cwV 2 ht (gV wd_1832 wd_1833 wd_1834 wd_121 wd_1835) rfl rfl rfl hd_yX11_drop ⟨Nat.le_of_ble_eq_true rfl, Nat.le_of_ble_eq_true rfl⟩) 0 rfl mW_0 rfl rfl hl.1 (Nat.le_of_ble_eq_true rfl) dL_law_571 rfl ⟨Nat.le_of_ble_eq_true rfl, Nat.le_of_ble_eq_true rfl⟩ (fun r2 v2 H locs hp2 hO => ?_)
  obtain ⟨hI2, hk2⟩ := hp2
  refine lv_pop hx hb dL_law_574 rfl ?_
  refine lv_goto (tgt := 1386) hx hb dL_law_575 (by decide) ?_
  exact kend a1 v1 v2 H locs ls (rfl) hI1 hI2 (Eq.trans (hk1) (Eq.trans hT (Eq.symm ((Km16_I62 hk2))))) (Wo.swap (a := []) hO) hl
theorem wd_957 : (Cond.methodLink "WebCourtLaw" (65 : Nat) ⟨"WebCourt", "grab", "(I)I"⟩) ∈ gtb := gtb_c4 128 (by decide +kernel) rfl
theorem wd_958 : (Cond.instanceMethod ⟨"WebCourt", "grab", "(I)I"⟩) ∈ gtb := gtb_c4 129 (by decide +kernel) rfl
theorem wd_959 : (Cond.selects "WebCourt" ⟨"WebCourt", "grab", "(I)I"⟩ ⟨"WebCourt", "grab", "(I)I"⟩) ∈ gtb := gtb_c4 130 (by decide +kernel) rfl
theorem hd_yX10_grab : yX10_grab.cls = RX10 ∧ yX10_grab.cls ≠ "java/lang/invoke/MethodHandle" ∧ yX10_grab.cls ≠ "java/lang/invoke/VarHandle" ∧ (parseMethodDescriptor yX10_grab.desc).map (fun d => d.parameters.length) = some 1 := by decide +kernel
theorem wd_1836 : (Cond.methodLink "WebCourtLaw" (68 : Nat) ⟨"WebCourtModel", "grab", "(I)I"⟩) ∈ gtb := gtb_c8 47 (by decide +kernel) rfl
theorem wd_1837 : (Cond.instanceMethod ⟨"WebCourtModel", "grab", "(I)I"⟩) ∈ gtb := gtb_c8 48 (by decide +kernel) rfl
theorem wd_1838 : (Cond.selects "WebCourtModel" ⟨"WebCourtModel", "grab", "(I)I"⟩ ⟨"WebCourtModel", "grab", "(I)I"⟩) ∈ gtb := gtb_c8 49 (by decide +kernel) rfl
theorem hd_yX11_grab : yX11_grab.cls = RX11 ∧ yX11_grab.cls ≠ "java/lang/invoke/MethodHandle" ∧ yX11_grab.cls ≠ "java/lang/invoke/VarHandle" ∧ (parseMethodDescriptor yX11_grab.desc).map (fun d => d.parameters.length) = some 1 := by decide +kernel
set_option maxHeartbeats 4000000 in
set_option maxRecDepth 100000 in
theorem lawc_12 {p : Program} {l : Launch} {e : Env} {s : State} {m : MethodId} {below : List Frame} {meth : Method} {c : Code} {b Ln : Nat} {xs : Nat → Int32} {D : va_G} {cy : Nat → ClassId} {a1 a2 : Nat → Nat} {u1 u2 : St} {i : Int32} {A : Nat → Prop} {Q : State → Prop} {H : Heap} {locs : List Loc} {ls : Array Slot} (C : Cx p s m #[Value.ref b] c code 4 RL D cy A) (hX : va_X b Ln xs s s.heap) (hbl : b < s.heap.size) (hbA : ¬ A b) (hi0 : 0 ≤ i.toInt) (hiL : i.toInt + 6 ≤ (Ln : Int)) (hLm : Ln ≤ 3072) (hJ1 : CI a1 u1) (hJ2 : MI a2 u2) (hT : fI u1 39 6 = fI u2 0 62) (kend : ∀ (b1 : Nat → Nat) (v1 v2 : St) (H : Heap) (locs : List Loc) (ls : Array Slot), b1 0 = a1 0 → CI b1 v1 → MI a2 v2 → fI v1 39 6 = fI v2 0 62 → Wo D A (cW cy b1 v1 ++ mW cy a2 v2) s.heap H locs → lv_has ls 4 [(0, .ref b), (1, .ref (a1 0)), (2, .ref (a2 0)), (3, .int i)] → W p l e room_1 s m #[Value.ref b] below meth c H locs 134 12281 Q (F0 m 1386 ls [])) (hO : Wo D A (cW cy a1 u1 ++ mW cy a2 u2) s.heap H locs) (hl : lv_has ls 4 [(0, .ref b), (1, .ref (a1 0)), (2, .ref (a2 0)), (3, .int i)]) : W p l e room_1 s m #[Value.ref b] below meth c H locs 134 12281 Q (F0 m 578 ls []) := by
  obtain ⟨hx, hb, hml, hown, ht, hK, hA⟩ := id C
  refine lv_aload_n hx hb dL_law_578 rfl (lv_at hl 1 rfl) ?_
  refine lv_aload_n hx hb dL_law_579 rfl (lv_at hl 0 rfl) ?_
  refine lv_iload_n hx hb dL_law_580 rfl (lv_at hl 3 rfl) ?_
  refine lv_iconst (v := 1) hx hb dL_law_581 (by decide) ?_
  refine lv_iadd hx hb dL_law_582 ?_
  refine lv_topi (fun z1 ez1 => ?_)
  have nz1 : z1.toInt = i.toInt + 1 := by rw [ez1]; exact i_add rfl rfl (by omega)
  refine va_sld hx hb hX hbl hbA hO.2.2 (i_in (X := i.toInt + 1) nz1 (by omega) (by omega)) dL_law_583 ?_
  refine lv_topi (fun w2 ew2 => ?_)
  refine fVi (w := cW cy a1) (pl := mW cy a2 u2) (As := [.int w2]) (rest := []) C hO (T_X10_grab l D cy a1 u1 hJ1 w2) (cwV 1 ht (gV wd_957 wd_958 wd_959 wd_110 wd_960) rfl rfl rfl hd_yX10_grab ⟨Nat.le_of_ble_eq_true rfl, Nat.le_of_ble_eq_true rfl⟩) 0 rfl cW_0 rfl rfl hl.1 (Nat.le_of_ble_eq_true rfl) dL_law_584 rfl ⟨Nat.le_of_ble_eq_true rfl, Nat.le_of_ble_eq_true rfl⟩ (fun r1 v1 H locs hp1 hO => ?_)
  obtain ⟨hI1, hk1⟩ := hp1
  refine lv_pop hx hb dL_law_587 rfl ?_
  refine lv_aload_n hx hb dL_law_588 rfl (lv_at hl 2 rfl) ?_
  refine lv_aload_n hx hb dL_law_589 rfl (lv_at hl 0 rfl) ?_
  refine lv_iload_n hx hb dL_law_590 rfl (lv_at hl 3 rfl) ?_
  refine lv_iconst (v := 1) hx hb dL_law_591 (by decide) ?_
  refine lv_iadd hx hb dL_law_592 ?_
  refine lv_topi (fun z3 ez3 => ?_)
  have nz3 : z3.toInt = i.toInt + 1 := by rw [ez3]; exact i_add rfl rfl (by omega)
  refine va_sld hx hb hX hbl hbA hO.2.2 (i_in (X := i.toInt + 1) nz3 (by omega) (by omega)) dL_law_593 ?_
  refine lv_topi (fun w4 ew4 => ?_)
  have hO : Wo D A (mW cy a2 u2 ++ cW cy a1 v1) s.heap H locs := Wo.swap (a := []) hO
  refine fVi (w := mW cy a2) (pl := cW cy a1 v1) (As := [.int w4]) (rest := []) C hO (T_X11_grab l D cy a2 u2 hJ2 w4) (cwV 1 ht (gV wd_1836 wd_1837 wd_1838 wd_121 wd_1839) rfl rfl rfl hd_yX11_grab ⟨Nat.le_of_ble_eq_true rfl, Nat.le_of_ble_eq_true rfl⟩) 0 rfl mW_0 rfl rfl hl.1 (Nat.le_of_ble_eq_true rfl) dL_law_594 rfl ⟨Nat.le_of_ble_eq_true rfl, Nat.le_of_ble_eq_true rfl⟩ (fun r2 v2 H locs hp2 hO => ?_)
  obtain ⟨hI2, hk2⟩ := hp2
  refine lv_pop hx hb dL_law_597 rfl ?_
  refine lv_goto (tgt := 1386) hx hb dL_law_598 (by decide) ?_
  exact kend a1 v1 v2 H locs ls (rfl) hI1 hI2 (Eq.trans (hk1) (Eq.trans hT (Eq.symm ((Km11_I62 hk2))))) (Wo.swap (a := []) hO) hl
theorem wd_963 : (Cond.methodLink "WebCourtLaw" (69 : Nat) ⟨"WebCourt", "spin", "(I)I"⟩) ∈ gtb := gtb_c4 134 (by decide +kernel) rfl
theorem wd_964 : (Cond.instanceMethod ⟨"WebCourt", "spin", "(I)I"⟩) ∈ gtb := gtb_c4 135 (by decide +kernel) rfl
theorem wd_965 : (Cond.selects "WebCourt" ⟨"WebCourt", "spin", "(I)I"⟩ ⟨"WebCourt", "spin", "(I)I"⟩) ∈ gtb := gtb_c4 136 (by decide +kernel) rfl
theorem hd_yX10_spin : yX10_spin.cls = RX10 ∧ yX10_spin.cls ≠ "java/lang/invoke/MethodHandle" ∧ yX10_spin.cls ≠ "java/lang/invoke/VarHandle" ∧ (parseMethodDescriptor yX10_spin.desc).map (fun d => d.parameters.length) = some 1 := by decide +kernel
theorem wd_1844 : (Cond.methodLink "WebCourtLaw" (72 : Nat) ⟨"WebCourtModel", "spin", "(I)I"⟩) ∈ gtb := gtb_c8 55 (by decide +kernel) rfl
theorem wd_1845 : (Cond.instanceMethod ⟨"WebCourtModel", "spin", "(I)I"⟩) ∈ gtb := gtb_c8 56 (by decide +kernel) rfl
theorem wd_1846 : (Cond.selects "WebCourtModel" ⟨"WebCourtModel", "spin", "(I)I"⟩ ⟨"WebCourtModel", "spin", "(I)I"⟩) ∈ gtb := gtb_c8 57 (by decide +kernel) rfl
theorem hd_yX11_spin : yX11_spin.cls = RX11 ∧ yX11_spin.cls ≠ "java/lang/invoke/MethodHandle" ∧ yX11_spin.cls ≠ "java/lang/invoke/VarHandle" ∧ (parseMethodDescriptor yX11_spin.desc).map (fun d => d.parameters.length) = some 1 := by decide +kernel
set_option maxHeartbeats 4000000 in
set_option maxRecDepth 100000 in
theorem lawc_13 {p : Program} {l : Launch} {e : Env} {s : State} {m : MethodId} {below : List Frame} {meth : Method} {c : Code} {b Ln : Nat} {xs : Nat → Int32} {D : va_G} {cy : Nat → ClassId} {a1 a2 : Nat → Nat} {u1 u2 : St} {i : Int32} {A : Nat → Prop} {Q : State → Prop} {H : Heap} {locs : List Loc} {ls : Array Slot} (C : Cx p s m #[Value.ref b] c code 4 RL D cy A) (hX : va_X b Ln xs s s.heap) (hbl : b < s.heap.size) (hbA : ¬ A b) (hi0 : 0 ≤ i.toInt) (hiL : i.toInt + 6 ≤ (Ln : Int)) (hLm : Ln ≤ 3072) (hJ1 : CI a1 u1) (hJ2 : MI a2 u2) (hT : fI u1 39 6 = fI u2 0 62) (kend : ∀ (b1 : Nat → Nat) (v1 v2 : St) (H : Heap) (locs : List Loc) (ls : Array Slot), b1 0 = a1 0 → CI b1 v1 → MI a2 v2 → fI v1 39 6 = fI v2 0 62 → Wo D A (cW cy b1 v1 ++ mW cy a2 v2) s.heap H locs → lv_has ls 4 [(0, .ref b), (1, .ref (a1 0)), (2, .ref (a2 0)), (3, .int i)] → W p l e room_1 s m #[Value.ref b] below meth c H locs 134 12281 Q (F0 m 1386 ls [])) (hO : Wo D A (cW cy a1 u1 ++ mW cy a2 u2) s.heap H locs) (hl : lv_has ls 4 [(0, .ref b), (1, .ref (a1 0)), (2, .ref (a2 0)), (3, .int i)]) : W p l e room_1 s m #[Value.ref b] below meth c H locs 134 12281 Q (F0 m 601 ls []) := by
  obtain ⟨hx, hb, hml, hown, ht, hK, hA⟩ := id C
  refine lv_aload_n hx hb dL_law_601 rfl (lv_at hl 1 rfl) ?_
  refine lv_aload_n hx hb dL_law_602 rfl (lv_at hl 0 rfl) ?_
  refine lv_iload_n hx hb dL_law_603 rfl (lv_at hl 3 rfl) ?_
  refine lv_iconst (v := 1) hx hb dL_law_604 (by decide) ?_
  refine lv_iadd hx hb dL_law_605 ?_
  refine lv_topi (fun z1 ez1 => ?_)
  have nz1 : z1.toInt = i.toInt + 1 := by rw [ez1]; exact i_add rfl rfl (by omega)
  refine va_sld hx hb hX hbl hbA hO.2.2 (i_in (X := i.toInt + 1) nz1 (by omega) (by omega)) dL_law_606 ?_
  refine lv_topi (fun w2 ew2 => ?_)
  refine fVi (w := cW cy a1) (pl := mW cy a2 u2) (As := [.int w2]) (rest := []) C hO (T_X10_spin l D cy a1 u1 hJ1 w2) (cwV 1 ht (gV wd_963 wd_964 wd_965 wd_110 wd_966) rfl rfl rfl hd_yX10_spin ⟨Nat.le_of_ble_eq_true rfl, Nat.le_of_ble_eq_true rfl⟩) 0 rfl cW_0 rfl rfl hl.1 (Nat.le_of_ble_eq_true rfl) dL_law_607 rfl ⟨Nat.le_of_ble_eq_true rfl, Nat.le_of_ble_eq_true rfl⟩ (fun r1 v1 H locs hp1 hO => ?_)
  obtain ⟨hI1, hk1⟩ := hp1
  refine lv_pop hx hb dL_law_610 rfl ?_
  refine lv_aload_n hx hb dL_law_611 rfl (lv_at hl 2 rfl) ?_
  refine lv_aload_n hx hb dL_law_612 rfl (lv_at hl 0 rfl) ?_
  refine lv_iload_n hx hb dL_law_613 rfl (lv_at hl 3 rfl) ?_
  refine lv_iconst (v := 1) hx hb dL_law_614 (by decide) ?_
  refine lv_iadd hx hb dL_law_615 ?_
  refine lv_topi (fun z3 ez3 => ?_)
  have nz3 : z3.toInt = i.toInt + 1 := by rw [ez3]; exact i_add rfl rfl (by omega)
  refine va_sld hx hb hX hbl hbA hO.2.2 (i_in (X := i.toInt + 1) nz3 (by omega) (by omega)) dL_law_616 ?_
  refine lv_topi (fun w4 ew4 => ?_)
  have hO : Wo D A (mW cy a2 u2 ++ cW cy a1 v1) s.heap H locs := Wo.swap (a := []) hO
  refine fVi (w := mW cy a2) (pl := cW cy a1 v1) (As := [.int w4]) (rest := []) C hO (T_X11_spin l D cy a2 u2 hJ2 w4) (cwV 1 ht (gV wd_1844 wd_1845 wd_1846 wd_121 wd_1847) rfl rfl rfl hd_yX11_spin ⟨Nat.le_of_ble_eq_true rfl, Nat.le_of_ble_eq_true rfl⟩) 0 rfl mW_0 rfl rfl hl.1 (Nat.le_of_ble_eq_true rfl) dL_law_617 rfl ⟨Nat.le_of_ble_eq_true rfl, Nat.le_of_ble_eq_true rfl⟩ (fun r2 v2 H locs hp2 hO => ?_)
  obtain ⟨hI2, hk2⟩ := hp2
  refine lv_pop hx hb dL_law_620 rfl ?_
  refine lv_goto (tgt := 1386) hx hb dL_law_621 (by decide) ?_
  exact kend a1 v1 v2 H locs ls (rfl) hI1 hI2 (Eq.trans (hk1) (Eq.trans hT (Eq.symm ((Km11_I62 hk2))))) (Wo.swap (a := []) hO) hl
theorem wd_967 : (Cond.methodLink "WebCourtLaw" (73 : Nat) ⟨"WebCourt", "undo", "()Z"⟩) ∈ gtb := gtb_c4 138 (by decide +kernel) rfl
theorem wd_968 : (Cond.instanceMethod ⟨"WebCourt", "undo", "()Z"⟩) ∈ gtb := gtb_c4 139 (by decide +kernel) rfl
theorem wd_969 : (Cond.selects "WebCourt" ⟨"WebCourt", "undo", "()Z"⟩ ⟨"WebCourt", "undo", "()Z"⟩) ∈ gtb := gtb_c4 140 (by decide +kernel) rfl
theorem hd_yX10_undo : yX10_undo.cls = RX10 ∧ yX10_undo.cls ≠ "java/lang/invoke/MethodHandle" ∧ yX10_undo.cls ≠ "java/lang/invoke/VarHandle" ∧ (parseMethodDescriptor yX10_undo.desc).map (fun d => d.parameters.length) = some 0 := by decide +kernel
theorem wd_1848 : (Cond.methodLink "WebCourtLaw" (77 : Nat) ⟨"WebCourtModel", "undo", "()Z"⟩) ∈ gtb := gtb_c8 59 (by decide +kernel) rfl
theorem wd_1849 : (Cond.instanceMethod ⟨"WebCourtModel", "undo", "()Z"⟩) ∈ gtb := gtb_c8 60 (by decide +kernel) rfl
theorem wd_1850 : (Cond.selects "WebCourtModel" ⟨"WebCourtModel", "undo", "()Z"⟩ ⟨"WebCourtModel", "undo", "()Z"⟩) ∈ gtb := gtb_c8 61 (by decide +kernel) rfl
theorem hd_yX11_undo : yX11_undo.cls = RX11 ∧ yX11_undo.cls ≠ "java/lang/invoke/MethodHandle" ∧ yX11_undo.cls ≠ "java/lang/invoke/VarHandle" ∧ (parseMethodDescriptor yX11_undo.desc).map (fun d => d.parameters.length) = some 0 := by decide +kernel
set_option maxHeartbeats 4000000 in
set_option maxRecDepth 100000 in
theorem lawc_14 {p : Program} {l : Launch} {e : Env} {s : State} {m : MethodId} {below : List Frame} {meth : Method} {c : Code} {b Ln : Nat} {xs : Nat → Int32} {D : va_G} {cy : Nat → ClassId} {a1 a2 : Nat → Nat} {u1 u2 : St} {i : Int32} {A : Nat → Prop} {Q : State → Prop} {H : Heap} {locs : List Loc} {ls : Array Slot} (C : Cx p s m #[Value.ref b] c code 4 RL D cy A) (hX : va_X b Ln xs s s.heap) (hbl : b < s.heap.size) (hbA : ¬ A b) (hi0 : 0 ≤ i.toInt) (hiL : i.toInt + 6 ≤ (Ln : Int)) (hLm : Ln ≤ 3072) (hJ1 : CI a1 u1) (hJ2 : MI a2 u2) (hT : fI u1 39 6 = fI u2 0 62) (kend : ∀ (b1 : Nat → Nat) (v1 v2 : St) (H : Heap) (locs : List Loc) (ls : Array Slot), b1 0 = a1 0 → CI b1 v1 → MI a2 v2 → fI v1 39 6 = fI v2 0 62 → Wo D A (cW cy b1 v1 ++ mW cy a2 v2) s.heap H locs → lv_has ls 4 [(0, .ref b), (1, .ref (a1 0)), (2, .ref (a2 0)), (3, .int i)] → W p l e room_1 s m #[Value.ref b] below meth c H locs 134 12281 Q (F0 m 1386 ls [])) (hO : Wo D A (cW cy a1 u1 ++ mW cy a2 u2) s.heap H locs) (hl : lv_has ls 4 [(0, .ref b), (1, .ref (a1 0)), (2, .ref (a2 0)), (3, .int i)]) : W p l e room_1 s m #[Value.ref b] below meth c H locs 134 12281 Q (F0 m 624 ls []) := by
  obtain ⟨hx, hb, hml, hown, ht, hK, hA⟩ := id C
  refine lv_aload_n hx hb dL_law_624 rfl (lv_at hl 1 rfl) ?_
  refine fVi (w := cW cy a1) (pl := mW cy a2 u2) (As := []) (rest := []) C hO (T_X10_undo l D cy a1 u1 hJ1 ) (cwV 0 ht (gV wd_967 wd_968 wd_969 wd_110 wd_970) rfl rfl rfl hd_yX10_undo ⟨Nat.le_of_ble_eq_true rfl, Nat.le_of_ble_eq_true rfl⟩) 0 rfl cW_0 rfl rfl hl.1 (Nat.le_of_ble_eq_true rfl) dL_law_625 rfl ⟨Nat.le_of_ble_eq_true rfl, Nat.le_of_ble_eq_true rfl⟩ (fun r1 v1 H locs hp1 hO => ?_)
  obtain ⟨hr, hI1, hk1⟩ := hp1
  refine lv_pop hx hb dL_law_628 rfl ?_
  refine lv_aload_n hx hb dL_law_629 rfl (lv_at hl 2 rfl) ?_
  have hO : Wo D A (mW cy a2 u2 ++ cW cy a1 v1) s.heap H locs := Wo.swap (a := []) hO
  refine fVi (w := mW cy a2) (pl := cW cy a1 v1) (As := []) (rest := []) C hO (T_X11_undo l D cy a2 u2 hJ2 ) (cwV 0 ht (gV wd_1848 wd_1849 wd_1850 wd_121 wd_1851) rfl rfl rfl hd_yX11_undo ⟨Nat.le_of_ble_eq_true rfl, Nat.le_of_ble_eq_true rfl⟩) 0 rfl mW_0 rfl rfl hl.1 (Nat.le_of_ble_eq_true rfl) dL_law_630 rfl ⟨Nat.le_of_ble_eq_true rfl, Nat.le_of_ble_eq_true rfl⟩ (fun r2 v2 H locs hp2 hO => ?_)
  obtain ⟨hr, hI2, hk2⟩ := hp2
  refine lv_pop hx hb dL_law_633 rfl ?_
  refine lv_goto (tgt := 1386) hx hb dL_law_634 (by decide) ?_
  exact kend a1 v1 v2 H locs ls (rfl) hI1 hI2 (Eq.trans (hk1) (Eq.trans hT (Eq.symm ((Km11_I62 hk2))))) (Wo.swap (a := []) hO) hl
theorem wd_975 : (Cond.methodLink "WebCourtLaw" (78 : Nat) ⟨"WebCourt", "redo", "()Z"⟩) ∈ gtb := gtb_c4 146 (by decide +kernel) rfl
theorem wd_976 : (Cond.instanceMethod ⟨"WebCourt", "redo", "()Z"⟩) ∈ gtb := gtb_c4 147 (by decide +kernel) rfl
theorem wd_977 : (Cond.selects "WebCourt" ⟨"WebCourt", "redo", "()Z"⟩ ⟨"WebCourt", "redo", "()Z"⟩) ∈ gtb := gtb_c4 148 (by decide +kernel) rfl
theorem hd_yX10_redo : yX10_redo.cls = RX10 ∧ yX10_redo.cls ≠ "java/lang/invoke/MethodHandle" ∧ yX10_redo.cls ≠ "java/lang/invoke/VarHandle" ∧ (parseMethodDescriptor yX10_redo.desc).map (fun d => d.parameters.length) = some 0 := by decide +kernel
theorem wd_1856 : (Cond.methodLink "WebCourtLaw" (81 : Nat) ⟨"WebCourtModel", "redo", "()Z"⟩) ∈ gtb := gtb_c8 67 (by decide +kernel) rfl
theorem wd_1857 : (Cond.instanceMethod ⟨"WebCourtModel", "redo", "()Z"⟩) ∈ gtb := gtb_c8 68 (by decide +kernel) rfl
theorem wd_1858 : (Cond.selects "WebCourtModel" ⟨"WebCourtModel", "redo", "()Z"⟩ ⟨"WebCourtModel", "redo", "()Z"⟩) ∈ gtb := gtb_c8 69 (by decide +kernel) rfl
theorem hd_yX11_redo : yX11_redo.cls = RX11 ∧ yX11_redo.cls ≠ "java/lang/invoke/MethodHandle" ∧ yX11_redo.cls ≠ "java/lang/invoke/VarHandle" ∧ (parseMethodDescriptor yX11_redo.desc).map (fun d => d.parameters.length) = some 0 := by decide +kernel
set_option maxHeartbeats 4000000 in
set_option maxRecDepth 100000 in
theorem lawc_15 {p : Program} {l : Launch} {e : Env} {s : State} {m : MethodId} {below : List Frame} {meth : Method} {c : Code} {b Ln : Nat} {xs : Nat → Int32} {D : va_G} {cy : Nat → ClassId} {a1 a2 : Nat → Nat} {u1 u2 : St} {i : Int32} {A : Nat → Prop} {Q : State → Prop} {H : Heap} {locs : List Loc} {ls : Array Slot} (C : Cx p s m #[Value.ref b] c code 4 RL D cy A) (hX : va_X b Ln xs s s.heap) (hbl : b < s.heap.size) (hbA : ¬ A b) (hi0 : 0 ≤ i.toInt) (hiL : i.toInt + 6 ≤ (Ln : Int)) (hLm : Ln ≤ 3072) (hJ1 : CI a1 u1) (hJ2 : MI a2 u2) (hT : fI u1 39 6 = fI u2 0 62) (kend : ∀ (b1 : Nat → Nat) (v1 v2 : St) (H : Heap) (locs : List Loc) (ls : Array Slot), b1 0 = a1 0 → CI b1 v1 → MI a2 v2 → fI v1 39 6 = fI v2 0 62 → Wo D A (cW cy b1 v1 ++ mW cy a2 v2) s.heap H locs → lv_has ls 4 [(0, .ref b), (1, .ref (a1 0)), (2, .ref (a2 0)), (3, .int i)] → W p l e room_1 s m #[Value.ref b] below meth c H locs 134 12281 Q (F0 m 1386 ls [])) (hO : Wo D A (cW cy a1 u1 ++ mW cy a2 u2) s.heap H locs) (hl : lv_has ls 4 [(0, .ref b), (1, .ref (a1 0)), (2, .ref (a2 0)), (3, .int i)]) : W p l e room_1 s m #[Value.ref b] below meth c H locs 134 12281 Q (F0 m 637 ls []) := by
  obtain ⟨hx, hb, hml, hown, ht, hK, hA⟩ := id C
  refine lv_aload_n hx hb dL_law_637 rfl (lv_at hl 1 rfl) ?_
  refine fVi (w := cW cy a1) (pl := mW cy a2 u2) (As := []) (rest := []) C hO (T_X10_redo l D cy a1 u1 hJ1 ) (cwV 0 ht (gV wd_975 wd_976 wd_977 wd_110 wd_978) rfl rfl rfl hd_yX10_redo ⟨Nat.le_of_ble_eq_true rfl, Nat.le_of_ble_eq_true rfl⟩) 0 rfl cW_0 rfl rfl hl.1 (Nat.le_of_ble_eq_true rfl) dL_law_638 rfl ⟨Nat.le_of_ble_eq_true rfl, Nat.le_of_ble_eq_true rfl⟩ (fun r1 v1 H locs hp1 hO => ?_)
  obtain ⟨hr, hI1, hk1⟩ := hp1
  refine lv_pop hx hb dL_law_641 rfl ?_
  refine lv_aload_n hx hb dL_law_642 rfl (lv_at hl 2 rfl) ?_
  have hO : Wo D A (mW cy a2 u2 ++ cW cy a1 v1) s.heap H locs := Wo.swap (a := []) hO
  refine fVi (w := mW cy a2) (pl := cW cy a1 v1) (As := []) (rest := []) C hO (T_X11_redo l D cy a2 u2 hJ2 ) (cwV 0 ht (gV wd_1856 wd_1857 wd_1858 wd_121 wd_1859) rfl rfl rfl hd_yX11_redo ⟨Nat.le_of_ble_eq_true rfl, Nat.le_of_ble_eq_true rfl⟩) 0 rfl mW_0 rfl rfl hl.1 (Nat.le_of_ble_eq_true rfl) dL_law_643 rfl ⟨Nat.le_of_ble_eq_true rfl, Nat.le_of_ble_eq_true rfl⟩ (fun r2 v2 H locs hp2 hO => ?_)
  obtain ⟨hr, hI2, hk2⟩ := hp2
  refine lv_pop hx hb dL_law_646 rfl ?_
  refine lv_goto (tgt := 1386) hx hb dL_law_647 (by decide) ?_
  exact kend a1 v1 v2 H locs ls (rfl) hI1 hI2 (Eq.trans (hk1) (Eq.trans hT (Eq.symm ((Km11_I62 hk2))))) (Wo.swap (a := []) hO) hl
theorem wd_983 : (Cond.methodLink "WebCourtLaw" (82 : Nat) ⟨"WebCourt", "shortest", "(II)I"⟩) ∈ gtb := gtb_c4 154 (by decide +kernel) rfl
theorem wd_984 : (Cond.instanceMethod ⟨"WebCourt", "shortest", "(II)I"⟩) ∈ gtb := gtb_c4 155 (by decide +kernel) rfl
theorem wd_985 : (Cond.selects "WebCourt" ⟨"WebCourt", "shortest", "(II)I"⟩ ⟨"WebCourt", "shortest", "(II)I"⟩) ∈ gtb := gtb_c4 156 (by decide +kernel) rfl
theorem hd_yX10_shortest : yX10_shortest.cls = RX10 ∧ yX10_shortest.cls ≠ "java/lang/invoke/MethodHandle" ∧ yX10_shortest.cls ≠ "java/lang/invoke/VarHandle" ∧ (parseMethodDescriptor yX10_shortest.desc).map (fun d => d.parameters.length) = some 2 := by decide +kernel
theorem wd_1864 : (Cond.methodLink "WebCourtLaw" (85 : Nat) ⟨"WebCourtModel", "shortest", "(II)I"⟩) ∈ gtb := gtb_c8 75 (by decide +kernel) rfl
theorem wd_1865 : (Cond.instanceMethod ⟨"WebCourtModel", "shortest", "(II)I"⟩) ∈ gtb := gtb_c8 76 (by decide +kernel) rfl
theorem wd_1866 : (Cond.selects "WebCourtModel" ⟨"WebCourtModel", "shortest", "(II)I"⟩ ⟨"WebCourtModel", "shortest", "(II)I"⟩) ∈ gtb := gtb_c8 77 (by decide +kernel) rfl
theorem hd_yX11_shortest : yX11_shortest.cls = RX11 ∧ yX11_shortest.cls ≠ "java/lang/invoke/MethodHandle" ∧ yX11_shortest.cls ≠ "java/lang/invoke/VarHandle" ∧ (parseMethodDescriptor yX11_shortest.desc).map (fun d => d.parameters.length) = some 2 := by decide +kernel
set_option maxHeartbeats 4000000 in
set_option maxRecDepth 100000 in
theorem lawc_16 {p : Program} {l : Launch} {e : Env} {s : State} {m : MethodId} {below : List Frame} {meth : Method} {c : Code} {b Ln : Nat} {xs : Nat → Int32} {D : va_G} {cy : Nat → ClassId} {a1 a2 : Nat → Nat} {u1 u2 : St} {i : Int32} {A : Nat → Prop} {Q : State → Prop} {H : Heap} {locs : List Loc} {ls : Array Slot} (C : Cx p s m #[Value.ref b] c code 4 RL D cy A) (hX : va_X b Ln xs s s.heap) (hbl : b < s.heap.size) (hbA : ¬ A b) (hi0 : 0 ≤ i.toInt) (hiL : i.toInt + 6 ≤ (Ln : Int)) (hLm : Ln ≤ 3072) (hJ1 : CI a1 u1) (hJ2 : MI a2 u2) (hT : fI u1 39 6 = fI u2 0 62) (kend : ∀ (b1 : Nat → Nat) (v1 v2 : St) (H : Heap) (locs : List Loc) (ls : Array Slot), b1 0 = a1 0 → CI b1 v1 → MI a2 v2 → fI v1 39 6 = fI v2 0 62 → Wo D A (cW cy b1 v1 ++ mW cy a2 v2) s.heap H locs → lv_has ls 4 [(0, .ref b), (1, .ref (a1 0)), (2, .ref (a2 0)), (3, .int i)] → W p l e room_1 s m #[Value.ref b] below meth c H locs 134 12281 Q (F0 m 1386 ls [])) (hO : Wo D A (cW cy a1 u1 ++ mW cy a2 u2) s.heap H locs) (hl : lv_has ls 4 [(0, .ref b), (1, .ref (a1 0)), (2, .ref (a2 0)), (3, .int i)]) : W p l e room_1 s m #[Value.ref b] below meth c H locs 134 12281 Q (F0 m 650 ls []) := by
  obtain ⟨hx, hb, hml, hown, ht, hK, hA⟩ := id C
  refine lv_aload_n hx hb dL_law_650 rfl (lv_at hl 1 rfl) ?_
  refine lv_aload_n hx hb dL_law_651 rfl (lv_at hl 0 rfl) ?_
  refine lv_iload_n hx hb dL_law_652 rfl (lv_at hl 3 rfl) ?_
  refine lv_iconst (v := 1) hx hb dL_law_653 (by decide) ?_
  refine lv_iadd hx hb dL_law_654 ?_
  refine lv_topi (fun z1 ez1 => ?_)
  have nz1 : z1.toInt = i.toInt + 1 := by rw [ez1]; exact i_add rfl rfl (by omega)
  refine va_sld hx hb hX hbl hbA hO.2.2 (i_in (X := i.toInt + 1) nz1 (by omega) (by omega)) dL_law_655 ?_
  refine lv_topi (fun w2 ew2 => ?_)
  refine lv_aload_n hx hb dL_law_656 rfl (lv_at hl 0 rfl) ?_
  refine lv_iload_n hx hb dL_law_657 rfl (lv_at hl 3 rfl) ?_
  refine lv_iconst (v := 2) hx hb dL_law_658 (by decide) ?_
  refine lv_iadd hx hb dL_law_659 ?_
  refine lv_topi (fun z3 ez3 => ?_)
  have nz3 : z3.toInt = i.toInt + 2 := by rw [ez3]; exact i_add rfl rfl (by omega)
  refine va_sld hx hb hX hbl hbA hO.2.2 (i_in (X := i.toInt + 2) nz3 (by omega) (by omega)) dL_law_660 ?_
  refine lv_topi (fun w4 ew4 => ?_)
  refine fVi (w := cW cy a1) (pl := mW cy a2 u2) (As := [.int w2, .int w4]) (rest := []) C hO (T_X10_shortest l D cy a1 u1 hJ1 w2 w4) (cwV 2 ht (gV wd_983 wd_984 wd_985 wd_110 wd_986) rfl rfl rfl hd_yX10_shortest ⟨Nat.le_of_ble_eq_true rfl, Nat.le_of_ble_eq_true rfl⟩) 0 rfl cW_0 rfl rfl hl.1 (Nat.le_of_ble_eq_true rfl) dL_law_661 rfl ⟨Nat.le_of_ble_eq_true rfl, Nat.le_of_ble_eq_true rfl⟩ (fun r1 v1 H locs hp1 hO => ?_)
  obtain ⟨hI1, hk1⟩ := hp1
  refine lv_pop hx hb dL_law_664 rfl ?_
  refine lv_aload_n hx hb dL_law_665 rfl (lv_at hl 2 rfl) ?_
  refine lv_aload_n hx hb dL_law_666 rfl (lv_at hl 0 rfl) ?_
  refine lv_iload_n hx hb dL_law_667 rfl (lv_at hl 3 rfl) ?_
  refine lv_iconst (v := 1) hx hb dL_law_668 (by decide) ?_
  refine lv_iadd hx hb dL_law_669 ?_
  refine lv_topi (fun z5 ez5 => ?_)
  have nz5 : z5.toInt = i.toInt + 1 := by rw [ez5]; exact i_add rfl rfl (by omega)
  refine va_sld hx hb hX hbl hbA hO.2.2 (i_in (X := i.toInt + 1) nz5 (by omega) (by omega)) dL_law_670 ?_
  refine lv_topi (fun w6 ew6 => ?_)
  refine lv_aload_n hx hb dL_law_671 rfl (lv_at hl 0 rfl) ?_
  refine lv_iload_n hx hb dL_law_672 rfl (lv_at hl 3 rfl) ?_
  refine lv_iconst (v := 2) hx hb dL_law_673 (by decide) ?_
  refine lv_iadd hx hb dL_law_674 ?_
  refine lv_topi (fun z7 ez7 => ?_)
  have nz7 : z7.toInt = i.toInt + 2 := by rw [ez7]; exact i_add rfl rfl (by omega)
  refine va_sld hx hb hX hbl hbA hO.2.2 (i_in (X := i.toInt + 2) nz7 (by omega) (by omega)) dL_law_675 ?_
  refine lv_topi (fun w8 ew8 => ?_)
  have hO : Wo D A (mW cy a2 u2 ++ cW cy a1 v1) s.heap H locs := Wo.swap (a := []) hO
  refine fVi (w := mW cy a2) (pl := cW cy a1 v1) (As := [.int w6, .int w8]) (rest := []) C hO (T_X11_shortest l D cy a2 u2 hJ2 w6 w8) (cwV 2 ht (gV wd_1864 wd_1865 wd_1866 wd_121 wd_1867) rfl rfl rfl hd_yX11_shortest ⟨Nat.le_of_ble_eq_true rfl, Nat.le_of_ble_eq_true rfl⟩) 0 rfl mW_0 rfl rfl hl.1 (Nat.le_of_ble_eq_true rfl) dL_law_676 rfl ⟨Nat.le_of_ble_eq_true rfl, Nat.le_of_ble_eq_true rfl⟩ (fun r2 v2 H locs hp2 hO => ?_)
  obtain ⟨hI2, hk2⟩ := hp2
  refine lv_pop hx hb dL_law_679 rfl ?_
  refine lv_goto (tgt := 1386) hx hb dL_law_680 (by decide) ?_
  exact kend a1 v1 v2 H locs ls (rfl) hI1 hI2 (Eq.trans (hk1) (Eq.trans hT (Eq.symm ((Km2_I62 hk2))))) (Wo.swap (a := []) hO) hl
theorem wd_1000 : (Cond.methodLink "WebCourtLaw" (86 : Nat) ⟨"WebCourt", "honest", "(II)I"⟩) ∈ gtb := gtb_c4 171 (by decide +kernel) rfl
theorem wd_1001 : (Cond.instanceMethod ⟨"WebCourt", "honest", "(II)I"⟩) ∈ gtb := gtb_c4 172 (by decide +kernel) rfl
theorem wd_1002 : (Cond.selects "WebCourt" ⟨"WebCourt", "honest", "(II)I"⟩ ⟨"WebCourt", "honest", "(II)I"⟩) ∈ gtb := gtb_c4 173 (by decide +kernel) rfl
theorem hd_yX10_honest : yX10_honest.cls = RX10 ∧ yX10_honest.cls ≠ "java/lang/invoke/MethodHandle" ∧ yX10_honest.cls ≠ "java/lang/invoke/VarHandle" ∧ (parseMethodDescriptor yX10_honest.desc).map (fun d => d.parameters.length) = some 2 := by decide +kernel
theorem wd_1880 : (Cond.methodLink "WebCourtLaw" (89 : Nat) ⟨"WebCourtModel", "honest", "(II)I"⟩) ∈ gtb := gtb_c8 91 (by decide +kernel) rfl
theorem wd_1881 : (Cond.instanceMethod ⟨"WebCourtModel", "honest", "(II)I"⟩) ∈ gtb := gtb_c8 92 (by decide +kernel) rfl
theorem wd_1882 : (Cond.selects "WebCourtModel" ⟨"WebCourtModel", "honest", "(II)I"⟩ ⟨"WebCourtModel", "honest", "(II)I"⟩) ∈ gtb := gtb_c8 93 (by decide +kernel) rfl
theorem hd_yX11_honest : yX11_honest.cls = RX11 ∧ yX11_honest.cls ≠ "java/lang/invoke/MethodHandle" ∧ yX11_honest.cls ≠ "java/lang/invoke/VarHandle" ∧ (parseMethodDescriptor yX11_honest.desc).map (fun d => d.parameters.length) = some 2 := by decide +kernel
set_option maxHeartbeats 4000000 in
set_option maxRecDepth 100000 in
theorem lawc_17 {p : Program} {l : Launch} {e : Env} {s : State} {m : MethodId} {below : List Frame} {meth : Method} {c : Code} {b Ln : Nat} {xs : Nat → Int32} {D : va_G} {cy : Nat → ClassId} {a1 a2 : Nat → Nat} {u1 u2 : St} {i : Int32} {A : Nat → Prop} {Q : State → Prop} {H : Heap} {locs : List Loc} {ls : Array Slot} (C : Cx p s m #[Value.ref b] c code 4 RL D cy A) (hX : va_X b Ln xs s s.heap) (hbl : b < s.heap.size) (hbA : ¬ A b) (hi0 : 0 ≤ i.toInt) (hiL : i.toInt + 6 ≤ (Ln : Int)) (hLm : Ln ≤ 3072) (hJ1 : CI a1 u1) (hJ2 : MI a2 u2) (hT : fI u1 39 6 = fI u2 0 62) (kend : ∀ (b1 : Nat → Nat) (v1 v2 : St) (H : Heap) (locs : List Loc) (ls : Array Slot), b1 0 = a1 0 → CI b1 v1 → MI a2 v2 → fI v1 39 6 = fI v2 0 62 → Wo D A (cW cy b1 v1 ++ mW cy a2 v2) s.heap H locs → lv_has ls 4 [(0, .ref b), (1, .ref (a1 0)), (2, .ref (a2 0)), (3, .int i)] → W p l e room_1 s m #[Value.ref b] below meth c H locs 134 12281 Q (F0 m 1386 ls [])) (hO : Wo D A (cW cy a1 u1 ++ mW cy a2 u2) s.heap H locs) (hl : lv_has ls 4 [(0, .ref b), (1, .ref (a1 0)), (2, .ref (a2 0)), (3, .int i)]) : W p l e room_1 s m #[Value.ref b] below meth c H locs 134 12281 Q (F0 m 683 ls []) := by
  obtain ⟨hx, hb, hml, hown, ht, hK, hA⟩ := id C
  refine lv_aload_n hx hb dL_law_683 rfl (lv_at hl 1 rfl) ?_
  refine lv_aload_n hx hb dL_law_684 rfl (lv_at hl 0 rfl) ?_
  refine lv_iload_n hx hb dL_law_685 rfl (lv_at hl 3 rfl) ?_
  refine lv_iconst (v := 1) hx hb dL_law_686 (by decide) ?_
  refine lv_iadd hx hb dL_law_687 ?_
  refine lv_topi (fun z1 ez1 => ?_)
  have nz1 : z1.toInt = i.toInt + 1 := by rw [ez1]; exact i_add rfl rfl (by omega)
  refine va_sld hx hb hX hbl hbA hO.2.2 (i_in (X := i.toInt + 1) nz1 (by omega) (by omega)) dL_law_688 ?_
  refine lv_topi (fun w2 ew2 => ?_)
  refine lv_aload_n hx hb dL_law_689 rfl (lv_at hl 0 rfl) ?_
  refine lv_iload_n hx hb dL_law_690 rfl (lv_at hl 3 rfl) ?_
  refine lv_iconst (v := 2) hx hb dL_law_691 (by decide) ?_
  refine lv_iadd hx hb dL_law_692 ?_
  refine lv_topi (fun z3 ez3 => ?_)
  have nz3 : z3.toInt = i.toInt + 2 := by rw [ez3]; exact i_add rfl rfl (by omega)
  refine va_sld hx hb hX hbl hbA hO.2.2 (i_in (X := i.toInt + 2) nz3 (by omega) (by omega)) dL_law_693 ?_
  refine lv_topi (fun w4 ew4 => ?_)
  refine fVi (w := cW cy a1) (pl := mW cy a2 u2) (As := [.int w2, .int w4]) (rest := []) C hO (T_X10_honest l D cy a1 u1 hJ1 w2 w4) (cwV 2 ht (gV wd_1000 wd_1001 wd_1002 wd_110 wd_1003) rfl rfl rfl hd_yX10_honest ⟨Nat.le_of_ble_eq_true rfl, Nat.le_of_ble_eq_true rfl⟩) 0 rfl cW_0 rfl rfl hl.1 (Nat.le_of_ble_eq_true rfl) dL_law_694 rfl ⟨Nat.le_of_ble_eq_true rfl, Nat.le_of_ble_eq_true rfl⟩ (fun r1 v1 H locs hp1 hO => ?_)
  obtain ⟨hI1, hk1⟩ := hp1
  refine lv_pop hx hb dL_law_697 rfl ?_
  refine lv_aload_n hx hb dL_law_698 rfl (lv_at hl 2 rfl) ?_
  refine lv_aload_n hx hb dL_law_699 rfl (lv_at hl 0 rfl) ?_
  refine lv_iload_n hx hb dL_law_700 rfl (lv_at hl 3 rfl) ?_
  refine lv_iconst (v := 1) hx hb dL_law_701 (by decide) ?_
  refine lv_iadd hx hb dL_law_702 ?_
  refine lv_topi (fun z5 ez5 => ?_)
  have nz5 : z5.toInt = i.toInt + 1 := by rw [ez5]; exact i_add rfl rfl (by omega)
  refine va_sld hx hb hX hbl hbA hO.2.2 (i_in (X := i.toInt + 1) nz5 (by omega) (by omega)) dL_law_703 ?_
  refine lv_topi (fun w6 ew6 => ?_)
  refine lv_aload_n hx hb dL_law_704 rfl (lv_at hl 0 rfl) ?_
  refine lv_iload_n hx hb dL_law_705 rfl (lv_at hl 3 rfl) ?_
  refine lv_iconst (v := 2) hx hb dL_law_706 (by decide) ?_
  refine lv_iadd hx hb dL_law_707 ?_
  refine lv_topi (fun z7 ez7 => ?_)
  have nz7 : z7.toInt = i.toInt + 2 := by rw [ez7]; exact i_add rfl rfl (by omega)
  refine va_sld hx hb hX hbl hbA hO.2.2 (i_in (X := i.toInt + 2) nz7 (by omega) (by omega)) dL_law_708 ?_
  refine lv_topi (fun w8 ew8 => ?_)
  have hO : Wo D A (mW cy a2 u2 ++ cW cy a1 v1) s.heap H locs := Wo.swap (a := []) hO
  refine fVi (w := mW cy a2) (pl := cW cy a1 v1) (As := [.int w6, .int w8]) (rest := []) C hO (T_X11_honest l D cy a2 u2 hJ2 w6 w8) (cwV 2 ht (gV wd_1880 wd_1881 wd_1882 wd_121 wd_1883) rfl rfl rfl hd_yX11_honest ⟨Nat.le_of_ble_eq_true rfl, Nat.le_of_ble_eq_true rfl⟩) 0 rfl mW_0 rfl rfl hl.1 (Nat.le_of_ble_eq_true rfl) dL_law_709 rfl ⟨Nat.le_of_ble_eq_true rfl, Nat.le_of_ble_eq_true rfl⟩ (fun r2 v2 H locs hp2 hO => ?_)
  obtain ⟨hI2, hk2⟩ := hp2
  refine lv_pop hx hb dL_law_712 rfl ?_
  refine lv_goto (tgt := 1386) hx hb dL_law_713 (by decide) ?_
  exact kend a1 v1 v2 H locs ls (rfl) hI1 hI2 (Eq.trans (hk1) (Eq.trans hT (Eq.symm ((Km2_I62 hk2))))) (Wo.swap (a := []) hO) hl
theorem wd_1004 : (Cond.methodLink "WebCourtLaw" (90 : Nat) ⟨"WebCourt", "way", "(I)I"⟩) ∈ gtb := gtb_c4 175 (by decide +kernel) rfl
theorem wd_1005 : (Cond.instanceMethod ⟨"WebCourt", "way", "(I)I"⟩) ∈ gtb := gtb_c4 176 (by decide +kernel) rfl
theorem wd_1006 : (Cond.selects "WebCourt" ⟨"WebCourt", "way", "(I)I"⟩ ⟨"WebCourt", "way", "(I)I"⟩) ∈ gtb := gtb_c4 177 (by decide +kernel) rfl
theorem hd_yX10_way : yX10_way.cls = RX10 ∧ yX10_way.cls ≠ "java/lang/invoke/MethodHandle" ∧ yX10_way.cls ≠ "java/lang/invoke/VarHandle" ∧ (parseMethodDescriptor yX10_way.desc).map (fun d => d.parameters.length) = some 1 := by decide +kernel
theorem wd_1932 : (Cond.methodLink "WebCourtLaw" (93 : Nat) ⟨"WebCourtModel", "way", "(I)I"⟩) ∈ gtb := gtb_c8 143 (by decide +kernel) rfl
theorem wd_1933 : (Cond.instanceMethod ⟨"WebCourtModel", "way", "(I)I"⟩) ∈ gtb := gtb_c8 144 (by decide +kernel) rfl
theorem wd_1934 : (Cond.selects "WebCourtModel" ⟨"WebCourtModel", "way", "(I)I"⟩ ⟨"WebCourtModel", "way", "(I)I"⟩) ∈ gtb := gtb_c8 145 (by decide +kernel) rfl
theorem hd_yX11_way : yX11_way.cls = RX11 ∧ yX11_way.cls ≠ "java/lang/invoke/MethodHandle" ∧ yX11_way.cls ≠ "java/lang/invoke/VarHandle" ∧ (parseMethodDescriptor yX11_way.desc).map (fun d => d.parameters.length) = some 1 := by decide +kernel
theorem Km8_I62 {u v : St} (h : Km8 u v) : fI v 0 62 = fI u 0 62 := h.2.2.2.2.2.2.2.2.2.2.2.2.2.2.2.2.2.2.2.2.2.1
set_option maxHeartbeats 4000000 in
set_option maxRecDepth 100000 in
theorem lawc_18 {p : Program} {l : Launch} {e : Env} {s : State} {m : MethodId} {below : List Frame} {meth : Method} {c : Code} {b Ln : Nat} {xs : Nat → Int32} {D : va_G} {cy : Nat → ClassId} {a1 a2 : Nat → Nat} {u1 u2 : St} {i : Int32} {A : Nat → Prop} {Q : State → Prop} {H : Heap} {locs : List Loc} {ls : Array Slot} (C : Cx p s m #[Value.ref b] c code 4 RL D cy A) (hX : va_X b Ln xs s s.heap) (hbl : b < s.heap.size) (hbA : ¬ A b) (hi0 : 0 ≤ i.toInt) (hiL : i.toInt + 6 ≤ (Ln : Int)) (hLm : Ln ≤ 3072) (hJ1 : CI a1 u1) (hJ2 : MI a2 u2) (hT : fI u1 39 6 = fI u2 0 62) (kend : ∀ (b1 : Nat → Nat) (v1 v2 : St) (H : Heap) (locs : List Loc) (ls : Array Slot), b1 0 = a1 0 → CI b1 v1 → MI a2 v2 → fI v1 39 6 = fI v2 0 62 → Wo D A (cW cy b1 v1 ++ mW cy a2 v2) s.heap H locs → lv_has ls 4 [(0, .ref b), (1, .ref (a1 0)), (2, .ref (a2 0)), (3, .int i)] → W p l e room_1 s m #[Value.ref b] below meth c H locs 134 12281 Q (F0 m 1386 ls [])) (hO : Wo D A (cW cy a1 u1 ++ mW cy a2 u2) s.heap H locs) (hl : lv_has ls 4 [(0, .ref b), (1, .ref (a1 0)), (2, .ref (a2 0)), (3, .int i)]) : W p l e room_1 s m #[Value.ref b] below meth c H locs 134 12281 Q (F0 m 716 ls []) := by
  obtain ⟨hx, hb, hml, hown, ht, hK, hA⟩ := id C
  refine lv_aload_n hx hb dL_law_716 rfl (lv_at hl 1 rfl) ?_
  refine lv_aload_n hx hb dL_law_717 rfl (lv_at hl 0 rfl) ?_
  refine lv_iload_n hx hb dL_law_718 rfl (lv_at hl 3 rfl) ?_
  refine lv_iconst (v := 1) hx hb dL_law_719 (by decide) ?_
  refine lv_iadd hx hb dL_law_720 ?_
  refine lv_topi (fun z1 ez1 => ?_)
  have nz1 : z1.toInt = i.toInt + 1 := by rw [ez1]; exact i_add rfl rfl (by omega)
  refine va_sld hx hb hX hbl hbA hO.2.2 (i_in (X := i.toInt + 1) nz1 (by omega) (by omega)) dL_law_721 ?_
  refine lv_topi (fun w2 ew2 => ?_)
  refine fVi (w := cW cy a1) (pl := mW cy a2 u2) (As := [.int w2]) (rest := []) C hO (T_X10_way l D cy a1 u1 hJ1 w2) (cwV 1 ht (gV wd_1004 wd_1005 wd_1006 wd_110 wd_1007) rfl rfl rfl hd_yX10_way ⟨Nat.le_of_ble_eq_true rfl, Nat.le_of_ble_eq_true rfl⟩) 0 rfl cW_0 rfl rfl hl.1 (Nat.le_of_ble_eq_true rfl) dL_law_722 rfl ⟨Nat.le_of_ble_eq_true rfl, Nat.le_of_ble_eq_true rfl⟩ (fun r1 v1 H locs hp1 hO => ?_)
  obtain ⟨hI1, hk1⟩ := hp1
  refine lv_pop hx hb dL_law_725 rfl ?_
  refine lv_aload_n hx hb dL_law_726 rfl (lv_at hl 2 rfl) ?_
  refine lv_aload_n hx hb dL_law_727 rfl (lv_at hl 0 rfl) ?_
  refine lv_iload_n hx hb dL_law_728 rfl (lv_at hl 3 rfl) ?_
  refine lv_iconst (v := 1) hx hb dL_law_729 (by decide) ?_
  refine lv_iadd hx hb dL_law_730 ?_
  refine lv_topi (fun z3 ez3 => ?_)
  have nz3 : z3.toInt = i.toInt + 1 := by rw [ez3]; exact i_add rfl rfl (by omega)
  refine va_sld hx hb hX hbl hbA hO.2.2 (i_in (X := i.toInt + 1) nz3 (by omega) (by omega)) dL_law_731 ?_
  refine lv_topi (fun w4 ew4 => ?_)
  have hO : Wo D A (mW cy a2 u2 ++ cW cy a1 v1) s.heap H locs := Wo.swap (a := []) hO
  refine fVi (w := mW cy a2) (pl := cW cy a1 v1) (As := [.int w4]) (rest := []) C hO (T_X11_way l D cy a2 u2 hJ2 (fA u2 3 (fI u2 0 36).toNatClampNeg) rfl w4) (cwV 1 ht (gV wd_1932 wd_1933 wd_1934 wd_121 wd_1935) rfl rfl rfl hd_yX11_way ⟨Nat.le_of_ble_eq_true rfl, Nat.le_of_ble_eq_true rfl⟩) 0 rfl mW_0 rfl rfl hl.1 (Nat.le_of_ble_eq_true rfl) dL_law_732 rfl ⟨Nat.le_of_ble_eq_true rfl, Nat.le_of_ble_eq_true rfl⟩ (fun r2 v2 H locs hp2 hO => ?_)
  obtain ⟨hI2, hk2⟩ := hp2
  refine lv_pop hx hb dL_law_735 rfl ?_
  refine lv_goto (tgt := 1386) hx hb dL_law_736 (by decide) ?_
  exact kend a1 v1 v2 H locs ls (rfl) hI1 hI2 (Eq.trans (hk1) (Eq.trans hT (Eq.symm ((Km8_I62 hk2))))) (Wo.swap (a := []) hO) hl
theorem wd_1031 : (Cond.methodLink "WebCourtLaw" (94 : Nat) ⟨"WebCourt", "round", "()I"⟩) ∈ gtb := gtb_c4 202 (by decide +kernel) rfl
theorem wd_1032 : (Cond.instanceMethod ⟨"WebCourt", "round", "()I"⟩) ∈ gtb := gtb_c4 203 (by decide +kernel) rfl
theorem wd_1033 : (Cond.selects "WebCourt" ⟨"WebCourt", "round", "()I"⟩ ⟨"WebCourt", "round", "()I"⟩) ∈ gtb := gtb_c4 204 (by decide +kernel) rfl
theorem hd_yX10_round : yX10_round.cls = RX10 ∧ yX10_round.cls ≠ "java/lang/invoke/MethodHandle" ∧ yX10_round.cls ≠ "java/lang/invoke/VarHandle" ∧ (parseMethodDescriptor yX10_round.desc).map (fun d => d.parameters.length) = some 0 := by decide +kernel
theorem wd_1952 : (Cond.methodLink "WebCourtLaw" (97 : Nat) ⟨"WebCourtModel", "round", "()I"⟩) ∈ gtb := gtb_c8 163 (by decide +kernel) rfl
theorem wd_1953 : (Cond.instanceMethod ⟨"WebCourtModel", "round", "()I"⟩) ∈ gtb := gtb_c8 164 (by decide +kernel) rfl
theorem wd_1954 : (Cond.selects "WebCourtModel" ⟨"WebCourtModel", "round", "()I"⟩ ⟨"WebCourtModel", "round", "()I"⟩) ∈ gtb := gtb_c8 165 (by decide +kernel) rfl
theorem hd_yX11_round : yX11_round.cls = RX11 ∧ yX11_round.cls ≠ "java/lang/invoke/MethodHandle" ∧ yX11_round.cls ≠ "java/lang/invoke/VarHandle" ∧ (parseMethodDescriptor yX11_round.desc).map (fun d => d.parameters.length) = some 0 := by decide +kernel
set_option maxHeartbeats 4000000 in
set_option maxRecDepth 100000 in
theorem lawc_19 {p : Program} {l : Launch} {e : Env} {s : State} {m : MethodId} {below : List Frame} {meth : Method} {c : Code} {b Ln : Nat} {xs : Nat → Int32} {D : va_G} {cy : Nat → ClassId} {a1 a2 : Nat → Nat} {u1 u2 : St} {i : Int32} {A : Nat → Prop} {Q : State → Prop} {H : Heap} {locs : List Loc} {ls : Array Slot} (C : Cx p s m #[Value.ref b] c code 4 RL D cy A) (hX : va_X b Ln xs s s.heap) (hbl : b < s.heap.size) (hbA : ¬ A b) (hi0 : 0 ≤ i.toInt) (hiL : i.toInt + 6 ≤ (Ln : Int)) (hLm : Ln ≤ 3072) (hJ1 : CI a1 u1) (hJ2 : MI a2 u2) (hT : fI u1 39 6 = fI u2 0 62) (kend : ∀ (b1 : Nat → Nat) (v1 v2 : St) (H : Heap) (locs : List Loc) (ls : Array Slot), b1 0 = a1 0 → CI b1 v1 → MI a2 v2 → fI v1 39 6 = fI v2 0 62 → Wo D A (cW cy b1 v1 ++ mW cy a2 v2) s.heap H locs → lv_has ls 4 [(0, .ref b), (1, .ref (a1 0)), (2, .ref (a2 0)), (3, .int i)] → W p l e room_1 s m #[Value.ref b] below meth c H locs 134 12281 Q (F0 m 1386 ls [])) (hO : Wo D A (cW cy a1 u1 ++ mW cy a2 u2) s.heap H locs) (hl : lv_has ls 4 [(0, .ref b), (1, .ref (a1 0)), (2, .ref (a2 0)), (3, .int i)]) : W p l e room_1 s m #[Value.ref b] below meth c H locs 134 12281 Q (F0 m 739 ls []) := by
  obtain ⟨hx, hb, hml, hown, ht, hK, hA⟩ := id C
  refine lv_aload_n hx hb dL_law_739 rfl (lv_at hl 1 rfl) ?_
  refine fVi (w := cW cy a1) (pl := mW cy a2 u2) (As := []) (rest := []) C hO (T_X10_round l D cy a1 u1 hJ1 ) (cwV 0 ht (gV wd_1031 wd_1032 wd_1033 wd_110 wd_1034) rfl rfl rfl hd_yX10_round ⟨Nat.le_of_ble_eq_true rfl, Nat.le_of_ble_eq_true rfl⟩) 0 rfl cW_0 rfl rfl hl.1 (Nat.le_of_ble_eq_true rfl) dL_law_740 rfl ⟨Nat.le_of_ble_eq_true rfl, Nat.le_of_ble_eq_true rfl⟩ (fun r1 v1 H locs hp1 hO => ?_)
  obtain ⟨hI1, hk1⟩ := hp1
  refine lv_pop hx hb dL_law_743 rfl ?_
  refine lv_aload_n hx hb dL_law_744 rfl (lv_at hl 2 rfl) ?_
  have hO : Wo D A (mW cy a2 u2 ++ cW cy a1 v1) s.heap H locs := Wo.swap (a := []) hO
  refine fVi (w := mW cy a2) (pl := cW cy a1 v1) (As := []) (rest := []) C hO (T_X11_round l D cy a2 u2 hJ2 (fA u2 6 (fI u2 0 36).toNatClampNeg) rfl ) (cwV 0 ht (gV wd_1952 wd_1953 wd_1954 wd_121 wd_1955) rfl rfl rfl hd_yX11_round ⟨Nat.le_of_ble_eq_true rfl, Nat.le_of_ble_eq_true rfl⟩) 0 rfl mW_0 rfl rfl hl.1 (Nat.le_of_ble_eq_true rfl) dL_law_745 rfl ⟨Nat.le_of_ble_eq_true rfl, Nat.le_of_ble_eq_true rfl⟩ (fun r2 v2 H locs hp2 hO => ?_)
  obtain ⟨hI2, hk2⟩ := hp2
  refine lv_pop hx hb dL_law_748 rfl ?_
  refine lv_goto (tgt := 1386) hx hb dL_law_749 (by decide) ?_
  exact kend a1 v1 v2 H locs ls (rfl) hI1 hI2 (Eq.trans (hk1) (Eq.trans hT (Eq.symm ((Km8_I62 hk2))))) (Wo.swap (a := []) hO) hl
theorem wd_1063 : (Cond.methodLink "WebCourtLaw" (98 : Nat) ⟨"WebCourt", "term", "(I)I"⟩) ∈ gtb := gtb_c4 234 (by decide +kernel) rfl
theorem wd_1064 : (Cond.instanceMethod ⟨"WebCourt", "term", "(I)I"⟩) ∈ gtb := gtb_c4 235 (by decide +kernel) rfl
theorem wd_1065 : (Cond.selects "WebCourt" ⟨"WebCourt", "term", "(I)I"⟩ ⟨"WebCourt", "term", "(I)I"⟩) ∈ gtb := gtb_c4 236 (by decide +kernel) rfl
theorem hd_yX10_term : yX10_term.cls = RX10 ∧ yX10_term.cls ≠ "java/lang/invoke/MethodHandle" ∧ yX10_term.cls ≠ "java/lang/invoke/VarHandle" ∧ (parseMethodDescriptor yX10_term.desc).map (fun d => d.parameters.length) = some 1 := by decide +kernel
theorem wd_1967 : (Cond.methodLink "WebCourtLaw" (101 : Nat) ⟨"WebCourtModel", "term", "(I)I"⟩) ∈ gtb := gtb_c8 178 (by decide +kernel) rfl
theorem wd_1968 : (Cond.instanceMethod ⟨"WebCourtModel", "term", "(I)I"⟩) ∈ gtb := gtb_c8 179 (by decide +kernel) rfl
theorem wd_1969 : (Cond.selects "WebCourtModel" ⟨"WebCourtModel", "term", "(I)I"⟩ ⟨"WebCourtModel", "term", "(I)I"⟩) ∈ gtb := gtb_c8 180 (by decide +kernel) rfl
theorem hd_yX11_term : yX11_term.cls = RX11 ∧ yX11_term.cls ≠ "java/lang/invoke/MethodHandle" ∧ yX11_term.cls ≠ "java/lang/invoke/VarHandle" ∧ (parseMethodDescriptor yX11_term.desc).map (fun d => d.parameters.length) = some 1 := by decide +kernel
theorem Km6_I62 {u v : St} (h : Km6 u v) : fI v 0 62 = fI u 0 62 := h.2.2.2.2.2.2.2.2.2.2.2.2.2.2.2.2.2.2.2.2.2.2.1
set_option maxHeartbeats 4000000 in
set_option maxRecDepth 100000 in
theorem lawc_20 {p : Program} {l : Launch} {e : Env} {s : State} {m : MethodId} {below : List Frame} {meth : Method} {c : Code} {b Ln : Nat} {xs : Nat → Int32} {D : va_G} {cy : Nat → ClassId} {a1 a2 : Nat → Nat} {u1 u2 : St} {i : Int32} {A : Nat → Prop} {Q : State → Prop} {H : Heap} {locs : List Loc} {ls : Array Slot} (C : Cx p s m #[Value.ref b] c code 4 RL D cy A) (hX : va_X b Ln xs s s.heap) (hbl : b < s.heap.size) (hbA : ¬ A b) (hi0 : 0 ≤ i.toInt) (hiL : i.toInt + 6 ≤ (Ln : Int)) (hLm : Ln ≤ 3072) (hJ1 : CI a1 u1) (hJ2 : MI a2 u2) (hT : fI u1 39 6 = fI u2 0 62) (kend : ∀ (b1 : Nat → Nat) (v1 v2 : St) (H : Heap) (locs : List Loc) (ls : Array Slot), b1 0 = a1 0 → CI b1 v1 → MI a2 v2 → fI v1 39 6 = fI v2 0 62 → Wo D A (cW cy b1 v1 ++ mW cy a2 v2) s.heap H locs → lv_has ls 4 [(0, .ref b), (1, .ref (a1 0)), (2, .ref (a2 0)), (3, .int i)] → W p l e room_1 s m #[Value.ref b] below meth c H locs 134 12281 Q (F0 m 1386 ls [])) (hO : Wo D A (cW cy a1 u1 ++ mW cy a2 u2) s.heap H locs) (hl : lv_has ls 4 [(0, .ref b), (1, .ref (a1 0)), (2, .ref (a2 0)), (3, .int i)]) : W p l e room_1 s m #[Value.ref b] below meth c H locs 134 12281 Q (F0 m 752 ls []) := by
  obtain ⟨hx, hb, hml, hown, ht, hK, hA⟩ := id C
  refine lv_aload_n hx hb dL_law_752 rfl (lv_at hl 1 rfl) ?_
  refine lv_aload_n hx hb dL_law_753 rfl (lv_at hl 0 rfl) ?_
  refine lv_iload_n hx hb dL_law_754 rfl (lv_at hl 3 rfl) ?_
  refine lv_iconst (v := 1) hx hb dL_law_755 (by decide) ?_
  refine lv_iadd hx hb dL_law_756 ?_
  refine lv_topi (fun z1 ez1 => ?_)
  have nz1 : z1.toInt = i.toInt + 1 := by rw [ez1]; exact i_add rfl rfl (by omega)
  refine va_sld hx hb hX hbl hbA hO.2.2 (i_in (X := i.toInt + 1) nz1 (by omega) (by omega)) dL_law_757 ?_
  refine lv_topi (fun w2 ew2 => ?_)
  refine fVi (w := cW cy a1) (pl := mW cy a2 u2) (As := [.int w2]) (rest := []) C hO (T_X10_term l D cy a1 u1 hJ1 w2) (cwV 1 ht (gV wd_1063 wd_1064 wd_1065 wd_110 wd_1066) rfl rfl rfl hd_yX10_term ⟨Nat.le_of_ble_eq_true rfl, Nat.le_of_ble_eq_true rfl⟩) 0 rfl cW_0 rfl rfl hl.1 (Nat.le_of_ble_eq_true rfl) dL_law_758 rfl ⟨Nat.le_of_ble_eq_true rfl, Nat.le_of_ble_eq_true rfl⟩ (fun r1 v1 H locs hp1 hO => ?_)
  obtain ⟨hI1, hk1⟩ := hp1
  refine lv_pop hx hb dL_law_761 rfl ?_
  refine lv_aload_n hx hb dL_law_762 rfl (lv_at hl 2 rfl) ?_
  refine lv_aload_n hx hb dL_law_763 rfl (lv_at hl 0 rfl) ?_
  refine lv_iload_n hx hb dL_law_764 rfl (lv_at hl 3 rfl) ?_
  refine lv_iconst (v := 1) hx hb dL_law_765 (by decide) ?_
  refine lv_iadd hx hb dL_law_766 ?_
  refine lv_topi (fun z3 ez3 => ?_)
  have nz3 : z3.toInt = i.toInt + 1 := by rw [ez3]; exact i_add rfl rfl (by omega)
  refine va_sld hx hb hX hbl hbA hO.2.2 (i_in (X := i.toInt + 1) nz3 (by omega) (by omega)) dL_law_767 ?_
  refine lv_topi (fun w4 ew4 => ?_)
  have hO : Wo D A (mW cy a2 u2 ++ cW cy a1 v1) s.heap H locs := Wo.swap (a := []) hO
  refine fVi (w := mW cy a2) (pl := cW cy a1 v1) (As := [.int w4]) (rest := []) C hO (T_X11_term l D cy a2 u2 hJ2 (fA u2 6 (fI u2 0 36).toNatClampNeg) rfl w4) (cwV 1 ht (gV wd_1967 wd_1968 wd_1969 wd_121 wd_1970) rfl rfl rfl hd_yX11_term ⟨Nat.le_of_ble_eq_true rfl, Nat.le_of_ble_eq_true rfl⟩) 0 rfl mW_0 rfl rfl hl.1 (Nat.le_of_ble_eq_true rfl) dL_law_768 rfl ⟨Nat.le_of_ble_eq_true rfl, Nat.le_of_ble_eq_true rfl⟩ (fun r2 v2 H locs hp2 hO => ?_)
  obtain ⟨hI2, hk2⟩ := hp2
  refine lv_pop hx hb dL_law_771 rfl ?_
  refine lv_goto (tgt := 1386) hx hb dL_law_772 (by decide) ?_
  exact kend a1 v1 v2 H locs ls (rfl) hI1 hI2 (Eq.trans (hk1) (Eq.trans hT (Eq.symm ((Km6_I62 hk2))))) (Wo.swap (a := []) hO) hl
theorem wd_1073 : (Cond.methodLink "WebCourtLaw" (102 : Nat) ⟨"WebCourt", "leave", "(I)I"⟩) ∈ gtb := gtb_c5 4 (by decide +kernel) rfl
theorem wd_1074 : (Cond.instanceMethod ⟨"WebCourt", "leave", "(I)I"⟩) ∈ gtb := gtb_c5 5 (by decide +kernel) rfl
theorem wd_1075 : (Cond.selects "WebCourt" ⟨"WebCourt", "leave", "(I)I"⟩ ⟨"WebCourt", "leave", "(I)I"⟩) ∈ gtb := gtb_c5 6 (by decide +kernel) rfl
theorem hd_yX10_leave : yX10_leave.cls = RX10 ∧ yX10_leave.cls ≠ "java/lang/invoke/MethodHandle" ∧ yX10_leave.cls ≠ "java/lang/invoke/VarHandle" ∧ (parseMethodDescriptor yX10_leave.desc).map (fun d => d.parameters.length) = some 1 := by decide +kernel
theorem wd_1908 : (Cond.methodLink "WebCourtLaw" (105 : Nat) ⟨"WebCourtModel", "leave", "(I)I"⟩) ∈ gtb := gtb_c8 119 (by decide +kernel) rfl
theorem wd_1909 : (Cond.instanceMethod ⟨"WebCourtModel", "leave", "(I)I"⟩) ∈ gtb := gtb_c8 120 (by decide +kernel) rfl
theorem wd_1910 : (Cond.selects "WebCourtModel" ⟨"WebCourtModel", "leave", "(I)I"⟩ ⟨"WebCourtModel", "leave", "(I)I"⟩) ∈ gtb := gtb_c8 121 (by decide +kernel) rfl
theorem hd_yX11_leave : yX11_leave.cls = RX11 ∧ yX11_leave.cls ≠ "java/lang/invoke/MethodHandle" ∧ yX11_leave.cls ≠ "java/lang/invoke/VarHandle" ∧ (parseMethodDescriptor yX11_leave.desc).map (fun d => d.parameters.length) = some 1 := by decide +kernel
theorem Km3_I62 {u v : St} (h : Km3 u v) : fI v 0 62 = fI u 0 62 := h.2.2.2.2.2.2.2.2.2.2.2.2.2.2.2.2.2.2.2.2.1
set_option maxHeartbeats 4000000 in
set_option maxRecDepth 100000 in
theorem lawc_21 {p : Program} {l : Launch} {e : Env} {s : State} {m : MethodId} {below : List Frame} {meth : Method} {c : Code} {b Ln : Nat} {xs : Nat → Int32} {D : va_G} {cy : Nat → ClassId} {a1 a2 : Nat → Nat} {u1 u2 : St} {i : Int32} {A : Nat → Prop} {Q : State → Prop} {H : Heap} {locs : List Loc} {ls : Array Slot} (C : Cx p s m #[Value.ref b] c code 4 RL D cy A) (hX : va_X b Ln xs s s.heap) (hbl : b < s.heap.size) (hbA : ¬ A b) (hi0 : 0 ≤ i.toInt) (hiL : i.toInt + 6 ≤ (Ln : Int)) (hLm : Ln ≤ 3072) (hJ1 : CI a1 u1) (hJ2 : MI a2 u2) (hT : fI u1 39 6 = fI u2 0 62) (kend : ∀ (b1 : Nat → Nat) (v1 v2 : St) (H : Heap) (locs : List Loc) (ls : Array Slot), b1 0 = a1 0 → CI b1 v1 → MI a2 v2 → fI v1 39 6 = fI v2 0 62 → Wo D A (cW cy b1 v1 ++ mW cy a2 v2) s.heap H locs → lv_has ls 4 [(0, .ref b), (1, .ref (a1 0)), (2, .ref (a2 0)), (3, .int i)] → W p l e room_1 s m #[Value.ref b] below meth c H locs 134 12281 Q (F0 m 1386 ls [])) (hO : Wo D A (cW cy a1 u1 ++ mW cy a2 u2) s.heap H locs) (hl : lv_has ls 4 [(0, .ref b), (1, .ref (a1 0)), (2, .ref (a2 0)), (3, .int i)]) : W p l e room_1 s m #[Value.ref b] below meth c H locs 134 12281 Q (F0 m 775 ls []) := by
  obtain ⟨hx, hb, hml, hown, ht, hK, hA⟩ := id C
  refine lv_aload_n hx hb dL_law_775 rfl (lv_at hl 1 rfl) ?_
  refine lv_aload_n hx hb dL_law_776 rfl (lv_at hl 0 rfl) ?_
  refine lv_iload_n hx hb dL_law_777 rfl (lv_at hl 3 rfl) ?_
  refine lv_iconst (v := 1) hx hb dL_law_778 (by decide) ?_
  refine lv_iadd hx hb dL_law_779 ?_
  refine lv_topi (fun z1 ez1 => ?_)
  have nz1 : z1.toInt = i.toInt + 1 := by rw [ez1]; exact i_add rfl rfl (by omega)
  refine va_sld hx hb hX hbl hbA hO.2.2 (i_in (X := i.toInt + 1) nz1 (by omega) (by omega)) dL_law_780 ?_
  refine lv_topi (fun w2 ew2 => ?_)
  refine fVi (w := cW cy a1) (pl := mW cy a2 u2) (As := [.int w2]) (rest := []) C hO (T_X10_leave l D cy a1 u1 hJ1 w2) (cwV 1 ht (gV wd_1073 wd_1074 wd_1075 wd_110 wd_1076) rfl rfl rfl hd_yX10_leave ⟨Nat.le_of_ble_eq_true rfl, Nat.le_of_ble_eq_true rfl⟩) 0 rfl cW_0 rfl rfl hl.1 (Nat.le_of_ble_eq_true rfl) dL_law_781 rfl ⟨Nat.le_of_ble_eq_true rfl, Nat.le_of_ble_eq_true rfl⟩ (fun r1 v1 H locs hp1 hO => ?_)
  obtain ⟨hI1, hk1⟩ := hp1
  refine lv_pop hx hb dL_law_784 rfl ?_
  refine lv_aload_n hx hb dL_law_785 rfl (lv_at hl 2 rfl) ?_
  refine lv_aload_n hx hb dL_law_786 rfl (lv_at hl 0 rfl) ?_
  refine lv_iload_n hx hb dL_law_787 rfl (lv_at hl 3 rfl) ?_
  refine lv_iconst (v := 1) hx hb dL_law_788 (by decide) ?_
  refine lv_iadd hx hb dL_law_789 ?_
  refine lv_topi (fun z3 ez3 => ?_)
  have nz3 : z3.toInt = i.toInt + 1 := by rw [ez3]; exact i_add rfl rfl (by omega)
  refine va_sld hx hb hX hbl hbA hO.2.2 (i_in (X := i.toInt + 1) nz3 (by omega) (by omega)) dL_law_790 ?_
  refine lv_topi (fun w4 ew4 => ?_)
  have hO : Wo D A (mW cy a2 u2 ++ cW cy a1 v1) s.heap H locs := Wo.swap (a := []) hO
  refine fVi (w := mW cy a2) (pl := cW cy a1 v1) (As := [.int w4]) (rest := []) C hO (T_X11_leave l D cy a2 u2 hJ2 w4) (cwV 1 ht (gV wd_1908 wd_1909 wd_1910 wd_121 wd_1911) rfl rfl rfl hd_yX11_leave ⟨Nat.le_of_ble_eq_true rfl, Nat.le_of_ble_eq_true rfl⟩) 0 rfl mW_0 rfl rfl hl.1 (Nat.le_of_ble_eq_true rfl) dL_law_791 rfl ⟨Nat.le_of_ble_eq_true rfl, Nat.le_of_ble_eq_true rfl⟩ (fun r2 v2 H locs hp2 hO => ?_)
  obtain ⟨hI2, hk2⟩ := hp2
  refine lv_pop hx hb dL_law_794 rfl ?_
  refine lv_goto (tgt := 1386) hx hb dL_law_795 (by decide) ?_
  exact kend a1 v1 v2 H locs ls (rfl) hI1 hI2 (Eq.trans (hk1) (Eq.trans hT (Eq.symm ((Km3_I62 hk2))))) (Wo.swap (a := []) hO) hl
theorem wd_1083 : (Cond.methodLink "WebCourtLaw" (106 : Nat) ⟨"WebCourt", "contrary", "(I)I"⟩) ∈ gtb := gtb_c5 14 (by decide +kernel) rfl
theorem wd_1084 : (Cond.instanceMethod ⟨"WebCourt", "contrary", "(I)I"⟩) ∈ gtb := gtb_c5 15 (by decide +kernel) rfl
theorem wd_1085 : (Cond.selects "WebCourt" ⟨"WebCourt", "contrary", "(I)I"⟩ ⟨"WebCourt", "contrary", "(I)I"⟩) ∈ gtb := gtb_c5 16 (by decide +kernel) rfl
theorem hd_yX10_contrary : yX10_contrary.cls = RX10 ∧ yX10_contrary.cls ≠ "java/lang/invoke/MethodHandle" ∧ yX10_contrary.cls ≠ "java/lang/invoke/VarHandle" ∧ (parseMethodDescriptor yX10_contrary.desc).map (fun d => d.parameters.length) = some 1 := by decide +kernel
theorem wd_1904 : (Cond.methodLink "WebCourtLaw" (109 : Nat) ⟨"WebCourtModel", "contrary", "(I)I"⟩) ∈ gtb := gtb_c8 115 (by decide +kernel) rfl
theorem wd_1905 : (Cond.instanceMethod ⟨"WebCourtModel", "contrary", "(I)I"⟩) ∈ gtb := gtb_c8 116 (by decide +kernel) rfl
theorem wd_1906 : (Cond.selects "WebCourtModel" ⟨"WebCourtModel", "contrary", "(I)I"⟩ ⟨"WebCourtModel", "contrary", "(I)I"⟩) ∈ gtb := gtb_c8 117 (by decide +kernel) rfl
theorem hd_yX11_contrary : yX11_contrary.cls = RX11 ∧ yX11_contrary.cls ≠ "java/lang/invoke/MethodHandle" ∧ yX11_contrary.cls ≠ "java/lang/invoke/VarHandle" ∧ (parseMethodDescriptor yX11_contrary.desc).map (fun d => d.parameters.length) = some 1 := by decide +kernel
set_option maxHeartbeats 4000000 in
set_option maxRecDepth 100000 in
theorem lawc_22 {p : Program} {l : Launch} {e : Env} {s : State} {m : MethodId} {below : List Frame} {meth : Method} {c : Code} {b Ln : Nat} {xs : Nat → Int32} {D : va_G} {cy : Nat → ClassId} {a1 a2 : Nat → Nat} {u1 u2 : St} {i : Int32} {A : Nat → Prop} {Q : State → Prop} {H : Heap} {locs : List Loc} {ls : Array Slot} (C : Cx p s m #[Value.ref b] c code 4 RL D cy A) (hX : va_X b Ln xs s s.heap) (hbl : b < s.heap.size) (hbA : ¬ A b) (hi0 : 0 ≤ i.toInt) (hiL : i.toInt + 6 ≤ (Ln : Int)) (hLm : Ln ≤ 3072) (hJ1 : CI a1 u1) (hJ2 : MI a2 u2) (hT : fI u1 39 6 = fI u2 0 62) (kend : ∀ (b1 : Nat → Nat) (v1 v2 : St) (H : Heap) (locs : List Loc) (ls : Array Slot), b1 0 = a1 0 → CI b1 v1 → MI a2 v2 → fI v1 39 6 = fI v2 0 62 → Wo D A (cW cy b1 v1 ++ mW cy a2 v2) s.heap H locs → lv_has ls 4 [(0, .ref b), (1, .ref (a1 0)), (2, .ref (a2 0)), (3, .int i)] → W p l e room_1 s m #[Value.ref b] below meth c H locs 134 12281 Q (F0 m 1386 ls [])) (hO : Wo D A (cW cy a1 u1 ++ mW cy a2 u2) s.heap H locs) (hl : lv_has ls 4 [(0, .ref b), (1, .ref (a1 0)), (2, .ref (a2 0)), (3, .int i)]) : W p l e room_1 s m #[Value.ref b] below meth c H locs 134 12281 Q (F0 m 798 ls []) := by
  obtain ⟨hx, hb, hml, hown, ht, hK, hA⟩ := id C
  refine lv_aload_n hx hb dL_law_798 rfl (lv_at hl 1 rfl) ?_
  refine lv_aload_n hx hb dL_law_799 rfl (lv_at hl 0 rfl) ?_
  refine lv_iload_n hx hb dL_law_800 rfl (lv_at hl 3 rfl) ?_
  refine lv_iconst (v := 1) hx hb dL_law_801 (by decide) ?_
  refine lv_iadd hx hb dL_law_802 ?_
  refine lv_topi (fun z1 ez1 => ?_)
  have nz1 : z1.toInt = i.toInt + 1 := by rw [ez1]; exact i_add rfl rfl (by omega)
  refine va_sld hx hb hX hbl hbA hO.2.2 (i_in (X := i.toInt + 1) nz1 (by omega) (by omega)) dL_law_803 ?_
  refine lv_topi (fun w2 ew2 => ?_)
  refine fVi (w := cW cy a1) (pl := mW cy a2 u2) (As := [.int w2]) (rest := []) C hO (T_X10_contrary l D cy a1 u1 hJ1 w2) (cwV 1 ht (gV wd_1083 wd_1084 wd_1085 wd_110 wd_1086) rfl rfl rfl hd_yX10_contrary ⟨Nat.le_of_ble_eq_true rfl, Nat.le_of_ble_eq_true rfl⟩) 0 rfl cW_0 rfl rfl hl.1 (Nat.le_of_ble_eq_true rfl) dL_law_804 rfl ⟨Nat.le_of_ble_eq_true rfl, Nat.le_of_ble_eq_true rfl⟩ (fun r1 v1 H locs hp1 hO => ?_)
  obtain ⟨hI1, hk1⟩ := hp1
  refine lv_pop hx hb dL_law_807 rfl ?_
  refine lv_aload_n hx hb dL_law_808 rfl (lv_at hl 2 rfl) ?_
  refine lv_aload_n hx hb dL_law_809 rfl (lv_at hl 0 rfl) ?_
  refine lv_iload_n hx hb dL_law_810 rfl (lv_at hl 3 rfl) ?_
  refine lv_iconst (v := 1) hx hb dL_law_811 (by decide) ?_
  refine lv_iadd hx hb dL_law_812 ?_
  refine lv_topi (fun z3 ez3 => ?_)
  have nz3 : z3.toInt = i.toInt + 1 := by rw [ez3]; exact i_add rfl rfl (by omega)
  refine va_sld hx hb hX hbl hbA hO.2.2 (i_in (X := i.toInt + 1) nz3 (by omega) (by omega)) dL_law_813 ?_
  refine lv_topi (fun w4 ew4 => ?_)
  have hO : Wo D A (mW cy a2 u2 ++ cW cy a1 v1) s.heap H locs := Wo.swap (a := []) hO
  refine fVi (w := mW cy a2) (pl := cW cy a1 v1) (As := [.int w4]) (rest := []) C hO (T_X11_contrary l D cy a2 u2 hJ2 w4) (cwV 1 ht (gV wd_1904 wd_1905 wd_1906 wd_121 wd_1907) rfl rfl rfl hd_yX11_contrary ⟨Nat.le_of_ble_eq_true rfl, Nat.le_of_ble_eq_true rfl⟩) 0 rfl mW_0 rfl rfl hl.1 (Nat.le_of_ble_eq_true rfl) dL_law_814 rfl ⟨Nat.le_of_ble_eq_true rfl, Nat.le_of_ble_eq_true rfl⟩ (fun r2 v2 H locs hp2 hO => ?_)
  obtain ⟨hI2, hk2⟩ := hp2
  refine lv_pop hx hb dL_law_817 rfl ?_
  refine lv_goto (tgt := 1386) hx hb dL_law_818 (by decide) ?_
  exact kend a1 v1 v2 H locs ls (rfl) hI1 hI2 (Eq.trans (hk1) (Eq.trans hT (Eq.symm ((Km2_I62 hk2))))) (Wo.swap (a := []) hO) hl
theorem wd_1103 : (Cond.methodLink "WebCourtLaw" (110 : Nat) ⟨"WebCourt", "hopeless", "()I"⟩) ∈ gtb := gtb_c5 34 (by decide +kernel) rfl
theorem wd_1104 : (Cond.instanceMethod ⟨"WebCourt", "hopeless", "()I"⟩) ∈ gtb := gtb_c5 35 (by decide +kernel) rfl
theorem wd_1105 : (Cond.selects "WebCourt" ⟨"WebCourt", "hopeless", "()I"⟩ ⟨"WebCourt", "hopeless", "()I"⟩) ∈ gtb := gtb_c5 36 (by decide +kernel) rfl
theorem hd_yX10_hopeless : yX10_hopeless.cls = RX10 ∧ yX10_hopeless.cls ≠ "java/lang/invoke/MethodHandle" ∧ yX10_hopeless.cls ≠ "java/lang/invoke/VarHandle" ∧ (parseMethodDescriptor yX10_hopeless.desc).map (fun d => d.parameters.length) = some 0 := by decide +kernel
theorem wd_1884 : (Cond.methodLink "WebCourtLaw" (113 : Nat) ⟨"WebCourtModel", "hopeless", "()I"⟩) ∈ gtb := gtb_c8 95 (by decide +kernel) rfl
theorem wd_1885 : (Cond.instanceMethod ⟨"WebCourtModel", "hopeless", "()I"⟩) ∈ gtb := gtb_c8 96 (by decide +kernel) rfl
theorem wd_1886 : (Cond.selects "WebCourtModel" ⟨"WebCourtModel", "hopeless", "()I"⟩ ⟨"WebCourtModel", "hopeless", "()I"⟩) ∈ gtb := gtb_c8 97 (by decide +kernel) rfl
theorem hd_yX11_hopeless : yX11_hopeless.cls = RX11 ∧ yX11_hopeless.cls ≠ "java/lang/invoke/MethodHandle" ∧ yX11_hopeless.cls ≠ "java/lang/invoke/VarHandle" ∧ (parseMethodDescriptor yX11_hopeless.desc).map (fun d => d.parameters.length) = some 0 := by decide +kernel
set_option maxHeartbeats 4000000 in
set_option maxRecDepth 100000 in
theorem lawc_23 {p : Program} {l : Launch} {e : Env} {s : State} {m : MethodId} {below : List Frame} {meth : Method} {c : Code} {b Ln : Nat} {xs : Nat → Int32} {D : va_G} {cy : Nat → ClassId} {a1 a2 : Nat → Nat} {u1 u2 : St} {i : Int32} {A : Nat → Prop} {Q : State → Prop} {H : Heap} {locs : List Loc} {ls : Array Slot} (C : Cx p s m #[Value.ref b] c code 4 RL D cy A) (hX : va_X b Ln xs s s.heap) (hbl : b < s.heap.size) (hbA : ¬ A b) (hi0 : 0 ≤ i.toInt) (hiL : i.toInt + 6 ≤ (Ln : Int)) (hLm : Ln ≤ 3072) (hJ1 : CI a1 u1) (hJ2 : MI a2 u2) (hT : fI u1 39 6 = fI u2 0 62) (kend : ∀ (b1 : Nat → Nat) (v1 v2 : St) (H : Heap) (locs : List Loc) (ls : Array Slot), b1 0 = a1 0 → CI b1 v1 → MI a2 v2 → fI v1 39 6 = fI v2 0 62 → Wo D A (cW cy b1 v1 ++ mW cy a2 v2) s.heap H locs → lv_has ls 4 [(0, .ref b), (1, .ref (a1 0)), (2, .ref (a2 0)), (3, .int i)] → W p l e room_1 s m #[Value.ref b] below meth c H locs 134 12281 Q (F0 m 1386 ls [])) (hO : Wo D A (cW cy a1 u1 ++ mW cy a2 u2) s.heap H locs) (hl : lv_has ls 4 [(0, .ref b), (1, .ref (a1 0)), (2, .ref (a2 0)), (3, .int i)]) : W p l e room_1 s m #[Value.ref b] below meth c H locs 134 12281 Q (F0 m 821 ls []) := by
  obtain ⟨hx, hb, hml, hown, ht, hK, hA⟩ := id C
  refine lv_aload_n hx hb dL_law_821 rfl (lv_at hl 1 rfl) ?_
  refine fVi (w := cW cy a1) (pl := mW cy a2 u2) (As := []) (rest := []) C hO (T_X10_hopeless l D cy a1 u1 hJ1 ) (cwV 0 ht (gV wd_1103 wd_1104 wd_1105 wd_110 wd_1106) rfl rfl rfl hd_yX10_hopeless ⟨Nat.le_of_ble_eq_true rfl, Nat.le_of_ble_eq_true rfl⟩) 0 rfl cW_0 rfl rfl hl.1 (Nat.le_of_ble_eq_true rfl) dL_law_822 rfl ⟨Nat.le_of_ble_eq_true rfl, Nat.le_of_ble_eq_true rfl⟩ (fun r1 v1 H locs hp1 hO => ?_)
  obtain ⟨hI1, hk1⟩ := hp1
  refine lv_pop hx hb dL_law_825 rfl ?_
  refine lv_aload_n hx hb dL_law_826 rfl (lv_at hl 2 rfl) ?_
  have hO : Wo D A (mW cy a2 u2 ++ cW cy a1 v1) s.heap H locs := Wo.swap (a := []) hO
  refine fVi (w := mW cy a2) (pl := cW cy a1 v1) (As := []) (rest := []) C hO (T_X11_hopeless l D cy a2 u2 hJ2 ) (cwV 0 ht (gV wd_1884 wd_1885 wd_1886 wd_121 wd_1887) rfl rfl rfl hd_yX11_hopeless ⟨Nat.le_of_ble_eq_true rfl, Nat.le_of_ble_eq_true rfl⟩) 0 rfl mW_0 rfl rfl hl.1 (Nat.le_of_ble_eq_true rfl) dL_law_827 rfl ⟨Nat.le_of_ble_eq_true rfl, Nat.le_of_ble_eq_true rfl⟩ (fun r2 v2 H locs hp2 hO => ?_)
  obtain ⟨hI2, hk2⟩ := hp2
  refine lv_pop hx hb dL_law_830 rfl ?_
  refine lv_goto (tgt := 1386) hx hb dL_law_831 (by decide) ?_
  exact kend a1 v1 v2 H locs ls (rfl) hI1 hI2 (Eq.trans (hk1) (Eq.trans hT (Eq.symm ((Km2_I62 hk2))))) (Wo.swap (a := []) hO) hl
theorem wd_1112 : (Cond.methodLink "WebCourtLaw" (114 : Nat) ⟨"WebCourt", "rivals", "(II)I"⟩) ∈ gtb := gtb_c5 43 (by decide +kernel) rfl
theorem wd_1113 : (Cond.instanceMethod ⟨"WebCourt", "rivals", "(II)I"⟩) ∈ gtb := gtb_c5 44 (by decide +kernel) rfl
theorem wd_1114 : (Cond.selects "WebCourt" ⟨"WebCourt", "rivals", "(II)I"⟩ ⟨"WebCourt", "rivals", "(II)I"⟩) ∈ gtb := gtb_c5 45 (by decide +kernel) rfl
theorem hd_yX10_rivals : yX10_rivals.cls = RX10 ∧ yX10_rivals.cls ≠ "java/lang/invoke/MethodHandle" ∧ yX10_rivals.cls ≠ "java/lang/invoke/VarHandle" ∧ (parseMethodDescriptor yX10_rivals.desc).map (fun d => d.parameters.length) = some 2 := by decide +kernel
theorem wd_1920 : (Cond.methodLink "WebCourtLaw" (117 : Nat) ⟨"WebCourtModel", "rivals", "(II)I"⟩) ∈ gtb := gtb_c8 131 (by decide +kernel) rfl
theorem wd_1921 : (Cond.instanceMethod ⟨"WebCourtModel", "rivals", "(II)I"⟩) ∈ gtb := gtb_c8 132 (by decide +kernel) rfl
theorem wd_1922 : (Cond.selects "WebCourtModel" ⟨"WebCourtModel", "rivals", "(II)I"⟩ ⟨"WebCourtModel", "rivals", "(II)I"⟩) ∈ gtb := gtb_c8 133 (by decide +kernel) rfl
theorem hd_yX11_rivals : yX11_rivals.cls = RX11 ∧ yX11_rivals.cls ≠ "java/lang/invoke/MethodHandle" ∧ yX11_rivals.cls ≠ "java/lang/invoke/VarHandle" ∧ (parseMethodDescriptor yX11_rivals.desc).map (fun d => d.parameters.length) = some 2 := by decide +kernel
theorem Km5_I62 {u v : St} (h : Km5 u v) : fI v 0 62 = fI u 0 62 := h.2.2.2.2.2.2.2.2.2.2.2.2.2.2.2.2.2.2.2.1
set_option maxHeartbeats 4000000 in
set_option maxRecDepth 100000 in
theorem lawc_24 {p : Program} {l : Launch} {e : Env} {s : State} {m : MethodId} {below : List Frame} {meth : Method} {c : Code} {b Ln : Nat} {xs : Nat → Int32} {D : va_G} {cy : Nat → ClassId} {a1 a2 : Nat → Nat} {u1 u2 : St} {i : Int32} {A : Nat → Prop} {Q : State → Prop} {H : Heap} {locs : List Loc} {ls : Array Slot} (C : Cx p s m #[Value.ref b] c code 4 RL D cy A) (hX : va_X b Ln xs s s.heap) (hbl : b < s.heap.size) (hbA : ¬ A b) (hi0 : 0 ≤ i.toInt) (hiL : i.toInt + 6 ≤ (Ln : Int)) (hLm : Ln ≤ 3072) (hJ1 : CI a1 u1) (hJ2 : MI a2 u2) (hT : fI u1 39 6 = fI u2 0 62) (kend : ∀ (b1 : Nat → Nat) (v1 v2 : St) (H : Heap) (locs : List Loc) (ls : Array Slot), b1 0 = a1 0 → CI b1 v1 → MI a2 v2 → fI v1 39 6 = fI v2 0 62 → Wo D A (cW cy b1 v1 ++ mW cy a2 v2) s.heap H locs → lv_has ls 4 [(0, .ref b), (1, .ref (a1 0)), (2, .ref (a2 0)), (3, .int i)] → W p l e room_1 s m #[Value.ref b] below meth c H locs 134 12281 Q (F0 m 1386 ls [])) (hO : Wo D A (cW cy a1 u1 ++ mW cy a2 u2) s.heap H locs) (hl : lv_has ls 4 [(0, .ref b), (1, .ref (a1 0)), (2, .ref (a2 0)), (3, .int i)]) : W p l e room_1 s m #[Value.ref b] below meth c H locs 134 12281 Q (F0 m 834 ls []) := by
  obtain ⟨hx, hb, hml, hown, ht, hK, hA⟩ := id C
  refine lv_aload_n hx hb dL_law_834 rfl (lv_at hl 1 rfl) ?_
  refine lv_aload_n hx hb dL_law_835 rfl (lv_at hl 0 rfl) ?_
  refine lv_iload_n hx hb dL_law_836 rfl (lv_at hl 3 rfl) ?_
  refine lv_iconst (v := 1) hx hb dL_law_837 (by decide) ?_
  refine lv_iadd hx hb dL_law_838 ?_
  refine lv_topi (fun z1 ez1 => ?_)
  have nz1 : z1.toInt = i.toInt + 1 := by rw [ez1]; exact i_add rfl rfl (by omega)
  refine va_sld hx hb hX hbl hbA hO.2.2 (i_in (X := i.toInt + 1) nz1 (by omega) (by omega)) dL_law_839 ?_
  refine lv_topi (fun w2 ew2 => ?_)
  refine lv_aload_n hx hb dL_law_840 rfl (lv_at hl 0 rfl) ?_
  refine lv_iload_n hx hb dL_law_841 rfl (lv_at hl 3 rfl) ?_
  refine lv_iconst (v := 2) hx hb dL_law_842 (by decide) ?_
  refine lv_iadd hx hb dL_law_843 ?_
  refine lv_topi (fun z3 ez3 => ?_)
  have nz3 : z3.toInt = i.toInt + 2 := by rw [ez3]; exact i_add rfl rfl (by omega)
  refine va_sld hx hb hX hbl hbA hO.2.2 (i_in (X := i.toInt + 2) nz3 (by omega) (by omega)) dL_law_844 ?_
  refine lv_topi (fun w4 ew4 => ?_)
  refine fVi (w := cW cy a1) (pl := mW cy a2 u2) (As := [.int w2, .int w4]) (rest := []) C hO (T_X10_rivals l D cy a1 u1 hJ1 w2 w4) (cwV 2 ht (gV wd_1112 wd_1113 wd_1114 wd_110 wd_1115) rfl rfl rfl hd_yX10_rivals ⟨Nat.le_of_ble_eq_true rfl, Nat.le_of_ble_eq_true rfl⟩) 0 rfl cW_0 rfl rfl hl.1 (Nat.le_of_ble_eq_true rfl) dL_law_845 rfl ⟨Nat.le_of_ble_eq_true rfl, Nat.le_of_ble_eq_true rfl⟩ (fun r1 v1 H locs hp1 hO => ?_)
  obtain ⟨hI1, hk1⟩ := hp1
  refine lv_pop hx hb dL_law_848 rfl ?_
  refine lv_aload_n hx hb dL_law_849 rfl (lv_at hl 2 rfl) ?_
  refine lv_aload_n hx hb dL_law_850 rfl (lv_at hl 0 rfl) ?_
  refine lv_iload_n hx hb dL_law_851 rfl (lv_at hl 3 rfl) ?_
  refine lv_iconst (v := 1) hx hb dL_law_852 (by decide) ?_
  refine lv_iadd hx hb dL_law_853 ?_
  refine lv_topi (fun z5 ez5 => ?_)
  have nz5 : z5.toInt = i.toInt + 1 := by rw [ez5]; exact i_add rfl rfl (by omega)
  refine va_sld hx hb hX hbl hbA hO.2.2 (i_in (X := i.toInt + 1) nz5 (by omega) (by omega)) dL_law_854 ?_
  refine lv_topi (fun w6 ew6 => ?_)
  refine lv_aload_n hx hb dL_law_855 rfl (lv_at hl 0 rfl) ?_
  refine lv_iload_n hx hb dL_law_856 rfl (lv_at hl 3 rfl) ?_
  refine lv_iconst (v := 2) hx hb dL_law_857 (by decide) ?_
  refine lv_iadd hx hb dL_law_858 ?_
  refine lv_topi (fun z7 ez7 => ?_)
  have nz7 : z7.toInt = i.toInt + 2 := by rw [ez7]; exact i_add rfl rfl (by omega)
  refine va_sld hx hb hX hbl hbA hO.2.2 (i_in (X := i.toInt + 2) nz7 (by omega) (by omega)) dL_law_859 ?_
  refine lv_topi (fun w8 ew8 => ?_)
  have hO : Wo D A (mW cy a2 u2 ++ cW cy a1 v1) s.heap H locs := Wo.swap (a := []) hO
  refine fVi (w := mW cy a2) (pl := cW cy a1 v1) (As := [.int w6, .int w8]) (rest := []) C hO (T_X11_rivals l D cy a2 u2 hJ2 w6 w8) (cwV 2 ht (gV wd_1920 wd_1921 wd_1922 wd_121 wd_1923) rfl rfl rfl hd_yX11_rivals ⟨Nat.le_of_ble_eq_true rfl, Nat.le_of_ble_eq_true rfl⟩) 0 rfl mW_0 rfl rfl hl.1 (Nat.le_of_ble_eq_true rfl) dL_law_860 rfl ⟨Nat.le_of_ble_eq_true rfl, Nat.le_of_ble_eq_true rfl⟩ (fun r2 v2 H locs hp2 hO => ?_)
  obtain ⟨hI2, hk2⟩ := hp2
  refine lv_pop hx hb dL_law_863 rfl ?_
  refine lv_goto (tgt := 1386) hx hb dL_law_864 (by decide) ?_
  exact kend a1 v1 v2 H locs ls (rfl) hI1 hI2 (Eq.trans (hk1) (Eq.trans hT (Eq.symm ((Km5_I62 hk2))))) (Wo.swap (a := []) hO) hl
theorem wd_1124 : (Cond.methodLink "WebCourtLaw" (118 : Nat) ⟨"WebCourt", "bridge", "(I)I"⟩) ∈ gtb := gtb_c5 55 (by decide +kernel) rfl
theorem wd_1125 : (Cond.instanceMethod ⟨"WebCourt", "bridge", "(I)I"⟩) ∈ gtb := gtb_c5 56 (by decide +kernel) rfl
theorem wd_1126 : (Cond.selects "WebCourt" ⟨"WebCourt", "bridge", "(I)I"⟩ ⟨"WebCourt", "bridge", "(I)I"⟩) ∈ gtb := gtb_c5 57 (by decide +kernel) rfl
theorem hd_yX10_bridge : yX10_bridge.cls = RX10 ∧ yX10_bridge.cls ≠ "java/lang/invoke/MethodHandle" ∧ yX10_bridge.cls ≠ "java/lang/invoke/VarHandle" ∧ (parseMethodDescriptor yX10_bridge.desc).map (fun d => d.parameters.length) = some 1 := by decide +kernel
theorem wd_1948 : (Cond.methodLink "WebCourtLaw" (121 : Nat) ⟨"WebCourtModel", "bridge", "(I)I"⟩) ∈ gtb := gtb_c8 159 (by decide +kernel) rfl
theorem wd_1949 : (Cond.instanceMethod ⟨"WebCourtModel", "bridge", "(I)I"⟩) ∈ gtb := gtb_c8 160 (by decide +kernel) rfl
theorem wd_1950 : (Cond.selects "WebCourtModel" ⟨"WebCourtModel", "bridge", "(I)I"⟩ ⟨"WebCourtModel", "bridge", "(I)I"⟩) ∈ gtb := gtb_c8 161 (by decide +kernel) rfl
theorem hd_yX11_bridge : yX11_bridge.cls = RX11 ∧ yX11_bridge.cls ≠ "java/lang/invoke/MethodHandle" ∧ yX11_bridge.cls ≠ "java/lang/invoke/VarHandle" ∧ (parseMethodDescriptor yX11_bridge.desc).map (fun d => d.parameters.length) = some 1 := by decide +kernel
theorem Km7_I62 {u v : St} (h : Km7 u v) : fI v 0 62 = fI u 0 62 := h.2.2.2.2.2.2.2.2.2.2.2.2.2.2.2.2.2.2.2.2.2.2.1
set_option maxHeartbeats 4000000 in
set_option maxRecDepth 100000 in
theorem lawc_25 {p : Program} {l : Launch} {e : Env} {s : State} {m : MethodId} {below : List Frame} {meth : Method} {c : Code} {b Ln : Nat} {xs : Nat → Int32} {D : va_G} {cy : Nat → ClassId} {a1 a2 : Nat → Nat} {u1 u2 : St} {i : Int32} {A : Nat → Prop} {Q : State → Prop} {H : Heap} {locs : List Loc} {ls : Array Slot} (C : Cx p s m #[Value.ref b] c code 4 RL D cy A) (hX : va_X b Ln xs s s.heap) (hbl : b < s.heap.size) (hbA : ¬ A b) (hi0 : 0 ≤ i.toInt) (hiL : i.toInt + 6 ≤ (Ln : Int)) (hLm : Ln ≤ 3072) (hJ1 : CI a1 u1) (hJ2 : MI a2 u2) (hT : fI u1 39 6 = fI u2 0 62) (kend : ∀ (b1 : Nat → Nat) (v1 v2 : St) (H : Heap) (locs : List Loc) (ls : Array Slot), b1 0 = a1 0 → CI b1 v1 → MI a2 v2 → fI v1 39 6 = fI v2 0 62 → Wo D A (cW cy b1 v1 ++ mW cy a2 v2) s.heap H locs → lv_has ls 4 [(0, .ref b), (1, .ref (a1 0)), (2, .ref (a2 0)), (3, .int i)] → W p l e room_1 s m #[Value.ref b] below meth c H locs 134 12281 Q (F0 m 1386 ls [])) (hO : Wo D A (cW cy a1 u1 ++ mW cy a2 u2) s.heap H locs) (hl : lv_has ls 4 [(0, .ref b), (1, .ref (a1 0)), (2, .ref (a2 0)), (3, .int i)]) : W p l e room_1 s m #[Value.ref b] below meth c H locs 134 12281 Q (F0 m 867 ls []) := by
  obtain ⟨hx, hb, hml, hown, ht, hK, hA⟩ := id C
  refine lv_aload_n hx hb dL_law_867 rfl (lv_at hl 1 rfl) ?_
  refine lv_aload_n hx hb dL_law_868 rfl (lv_at hl 0 rfl) ?_
  refine lv_iload_n hx hb dL_law_869 rfl (lv_at hl 3 rfl) ?_
  refine lv_iconst (v := 1) hx hb dL_law_870 (by decide) ?_
  refine lv_iadd hx hb dL_law_871 ?_
  refine lv_topi (fun z1 ez1 => ?_)
  have nz1 : z1.toInt = i.toInt + 1 := by rw [ez1]; exact i_add rfl rfl (by omega)
  refine va_sld hx hb hX hbl hbA hO.2.2 (i_in (X := i.toInt + 1) nz1 (by omega) (by omega)) dL_law_872 ?_
  refine lv_topi (fun w2 ew2 => ?_)
  refine fVi (w := cW cy a1) (pl := mW cy a2 u2) (As := [.int w2]) (rest := []) C hO (T_X10_bridge l D cy a1 u1 hJ1 w2) (cwV 1 ht (gV wd_1124 wd_1125 wd_1126 wd_110 wd_1127) rfl rfl rfl hd_yX10_bridge ⟨Nat.le_of_ble_eq_true rfl, Nat.le_of_ble_eq_true rfl⟩) 0 rfl cW_0 rfl rfl hl.1 (Nat.le_of_ble_eq_true rfl) dL_law_873 rfl ⟨Nat.le_of_ble_eq_true rfl, Nat.le_of_ble_eq_true rfl⟩ (fun r1 v1 H locs hp1 hO => ?_)
  have hu := hp1
  rw [hu] at hO
  refine lv_pop hx hb dL_law_876 rfl ?_
  refine lv_aload_n hx hb dL_law_877 rfl (lv_at hl 2 rfl) ?_
  refine lv_aload_n hx hb dL_law_878 rfl (lv_at hl 0 rfl) ?_
  refine lv_iload_n hx hb dL_law_879 rfl (lv_at hl 3 rfl) ?_
  refine lv_iconst (v := 1) hx hb dL_law_880 (by decide) ?_
  refine lv_iadd hx hb dL_law_881 ?_
  refine lv_topi (fun z3 ez3 => ?_)
  have nz3 : z3.toInt = i.toInt + 1 := by rw [ez3]; exact i_add rfl rfl (by omega)
  refine va_sld hx hb hX hbl hbA hO.2.2 (i_in (X := i.toInt + 1) nz3 (by omega) (by omega)) dL_law_882 ?_
  refine lv_topi (fun w4 ew4 => ?_)
  have hO : Wo D A (mW cy a2 u2 ++ cW cy a1 u1) s.heap H locs := Wo.swap (a := []) hO
  refine fVi (w := mW cy a2) (pl := cW cy a1 u1) (As := [.int w4]) (rest := []) C hO (T_X11_bridge l D cy a2 u2 hJ2 w4) (cwV 1 ht (gV wd_1948 wd_1949 wd_1950 wd_121 wd_1951) rfl rfl rfl hd_yX11_bridge ⟨Nat.le_of_ble_eq_true rfl, Nat.le_of_ble_eq_true rfl⟩) 0 rfl mW_0 rfl rfl hl.1 (Nat.le_of_ble_eq_true rfl) dL_law_883 rfl ⟨Nat.le_of_ble_eq_true rfl, Nat.le_of_ble_eq_true rfl⟩ (fun r2 v2 H locs hp2 hO => ?_)
  obtain ⟨hI2, hk2⟩ := hp2
  refine lv_pop hx hb dL_law_886 rfl ?_
  refine lv_goto (tgt := 1386) hx hb dL_law_887 (by decide) ?_
  exact kend a1 u1 v2 H locs ls (rfl) hJ1 hI2 (Eq.trans (rfl) (Eq.trans hT (Eq.symm ((Km7_I62 hk2))))) (Wo.swap (a := []) hO) hl
theorem wd_1142 : (Cond.methodLink "WebCourtLaw" (122 : Nat) ⟨"WebCourt", "forbid", "(I)I"⟩) ∈ gtb := gtb_c5 73 (by decide +kernel) rfl
theorem wd_1143 : (Cond.instanceMethod ⟨"WebCourt", "forbid", "(I)I"⟩) ∈ gtb := gtb_c5 74 (by decide +kernel) rfl
theorem wd_1144 : (Cond.selects "WebCourt" ⟨"WebCourt", "forbid", "(I)I"⟩ ⟨"WebCourt", "forbid", "(I)I"⟩) ∈ gtb := gtb_c5 75 (by decide +kernel) rfl
theorem hd_yX10_forbid : yX10_forbid.cls = RX10 ∧ yX10_forbid.cls ≠ "java/lang/invoke/MethodHandle" ∧ yX10_forbid.cls ≠ "java/lang/invoke/VarHandle" ∧ (parseMethodDescriptor yX10_forbid.desc).map (fun d => d.parameters.length) = some 1 := by decide +kernel
theorem wd_1892 : (Cond.methodLink "WebCourtLaw" (125 : Nat) ⟨"WebCourtModel", "forbid", "(I)I"⟩) ∈ gtb := gtb_c8 103 (by decide +kernel) rfl
theorem wd_1893 : (Cond.instanceMethod ⟨"WebCourtModel", "forbid", "(I)I"⟩) ∈ gtb := gtb_c8 104 (by decide +kernel) rfl
theorem wd_1894 : (Cond.selects "WebCourtModel" ⟨"WebCourtModel", "forbid", "(I)I"⟩ ⟨"WebCourtModel", "forbid", "(I)I"⟩) ∈ gtb := gtb_c8 105 (by decide +kernel) rfl
theorem hd_yX11_forbid : yX11_forbid.cls = RX11 ∧ yX11_forbid.cls ≠ "java/lang/invoke/MethodHandle" ∧ yX11_forbid.cls ≠ "java/lang/invoke/VarHandle" ∧ (parseMethodDescriptor yX11_forbid.desc).map (fun d => d.parameters.length) = some 1 := by decide +kernel
set_option maxHeartbeats 4000000 in
set_option maxRecDepth 100000 in
theorem lawc_26 {p : Program} {l : Launch} {e : Env} {s : State} {m : MethodId} {below : List Frame} {meth : Method} {c : Code} {b Ln : Nat} {xs : Nat → Int32} {D : va_G} {cy : Nat → ClassId} {a1 a2 : Nat → Nat} {u1 u2 : St} {i : Int32} {A : Nat → Prop} {Q : State → Prop} {H : Heap} {locs : List Loc} {ls : Array Slot} (C : Cx p s m #[Value.ref b] c code 4 RL D cy A) (hX : va_X b Ln xs s s.heap) (hbl : b < s.heap.size) (hbA : ¬ A b) (hi0 : 0 ≤ i.toInt) (hiL : i.toInt + 6 ≤ (Ln : Int)) (hLm : Ln ≤ 3072) (hJ1 : CI a1 u1) (hJ2 : MI a2 u2) (hT : fI u1 39 6 = fI u2 0 62) (kend : ∀ (b1 : Nat → Nat) (v1 v2 : St) (H : Heap) (locs : List Loc) (ls : Array Slot), b1 0 = a1 0 → CI b1 v1 → MI a2 v2 → fI v1 39 6 = fI v2 0 62 → Wo D A (cW cy b1 v1 ++ mW cy a2 v2) s.heap H locs → lv_has ls 4 [(0, .ref b), (1, .ref (a1 0)), (2, .ref (a2 0)), (3, .int i)] → W p l e room_1 s m #[Value.ref b] below meth c H locs 134 12281 Q (F0 m 1386 ls [])) (hO : Wo D A (cW cy a1 u1 ++ mW cy a2 u2) s.heap H locs) (hl : lv_has ls 4 [(0, .ref b), (1, .ref (a1 0)), (2, .ref (a2 0)), (3, .int i)]) : W p l e room_1 s m #[Value.ref b] below meth c H locs 134 12281 Q (F0 m 890 ls []) := by
  obtain ⟨hx, hb, hml, hown, ht, hK, hA⟩ := id C
  refine lv_aload_n hx hb dL_law_890 rfl (lv_at hl 1 rfl) ?_
  refine lv_aload_n hx hb dL_law_891 rfl (lv_at hl 0 rfl) ?_
  refine lv_iload_n hx hb dL_law_892 rfl (lv_at hl 3 rfl) ?_
  refine lv_iconst (v := 1) hx hb dL_law_893 (by decide) ?_
  refine lv_iadd hx hb dL_law_894 ?_
  refine lv_topi (fun z1 ez1 => ?_)
  have nz1 : z1.toInt = i.toInt + 1 := by rw [ez1]; exact i_add rfl rfl (by omega)
  refine va_sld hx hb hX hbl hbA hO.2.2 (i_in (X := i.toInt + 1) nz1 (by omega) (by omega)) dL_law_895 ?_
  refine lv_topi (fun w2 ew2 => ?_)
  refine fVi (w := cW cy a1) (pl := mW cy a2 u2) (As := [.int w2]) (rest := []) C hO (T_X10_forbid l D cy a1 u1 hJ1 w2) (cwV 1 ht (gV wd_1142 wd_1143 wd_1144 wd_110 wd_1145) rfl rfl rfl hd_yX10_forbid ⟨Nat.le_of_ble_eq_true rfl, Nat.le_of_ble_eq_true rfl⟩) 0 rfl cW_0 rfl rfl hl.1 (Nat.le_of_ble_eq_true rfl) dL_law_896 rfl ⟨Nat.le_of_ble_eq_true rfl, Nat.le_of_ble_eq_true rfl⟩ (fun r1 v1 H locs hp1 hO => ?_)
  obtain ⟨hI1, hk1⟩ := hp1
  refine lv_pop hx hb dL_law_899 rfl ?_
  refine lv_aload_n hx hb dL_law_900 rfl (lv_at hl 2 rfl) ?_
  refine lv_aload_n hx hb dL_law_901 rfl (lv_at hl 0 rfl) ?_
  refine lv_iload_n hx hb dL_law_902 rfl (lv_at hl 3 rfl) ?_
  refine lv_iconst (v := 1) hx hb dL_law_903 (by decide) ?_
  refine lv_iadd hx hb dL_law_904 ?_
  refine lv_topi (fun z3 ez3 => ?_)
  have nz3 : z3.toInt = i.toInt + 1 := by rw [ez3]; exact i_add rfl rfl (by omega)
  refine va_sld hx hb hX hbl hbA hO.2.2 (i_in (X := i.toInt + 1) nz3 (by omega) (by omega)) dL_law_905 ?_
  refine lv_topi (fun w4 ew4 => ?_)
  have hO : Wo D A (mW cy a2 u2 ++ cW cy a1 v1) s.heap H locs := Wo.swap (a := []) hO
  refine fVi (w := mW cy a2) (pl := cW cy a1 v1) (As := [.int w4]) (rest := []) C hO (T_X11_forbid l D cy a2 u2 hJ2 w4) (cwV 1 ht (gV wd_1892 wd_1893 wd_1894 wd_121 wd_1895) rfl rfl rfl hd_yX11_forbid ⟨Nat.le_of_ble_eq_true rfl, Nat.le_of_ble_eq_true rfl⟩) 0 rfl mW_0 rfl rfl hl.1 (Nat.le_of_ble_eq_true rfl) dL_law_906 rfl ⟨Nat.le_of_ble_eq_true rfl, Nat.le_of_ble_eq_true rfl⟩ (fun r2 v2 H locs hp2 hO => ?_)
  obtain ⟨hI2, hk2⟩ := hp2
  refine lv_pop hx hb dL_law_909 rfl ?_
  refine lv_goto (tgt := 1386) hx hb dL_law_910 (by decide) ?_
  exact kend a1 v1 v2 H locs ls (rfl) hI1 hI2 (Eq.trans (hk1) (Eq.trans hT (Eq.symm ((Km2_I62 hk2))))) (Wo.swap (a := []) hO) hl
theorem wd_1155 : (Cond.methodLink "WebCourtLaw" (126 : Nat) ⟨"WebCourt", "swap", "(I)I"⟩) ∈ gtb := gtb_c5 86 (by decide +kernel) rfl
theorem wd_1156 : (Cond.instanceMethod ⟨"WebCourt", "swap", "(I)I"⟩) ∈ gtb := gtb_c5 87 (by decide +kernel) rfl
theorem wd_1157 : (Cond.selects "WebCourt" ⟨"WebCourt", "swap", "(I)I"⟩ ⟨"WebCourt", "swap", "(I)I"⟩) ∈ gtb := gtb_c5 88 (by decide +kernel) rfl
theorem hd_yX10_swap : yX10_swap.cls = RX10 ∧ yX10_swap.cls ≠ "java/lang/invoke/MethodHandle" ∧ yX10_swap.cls ≠ "java/lang/invoke/VarHandle" ∧ (parseMethodDescriptor yX10_swap.desc).map (fun d => d.parameters.length) = some 1 := by decide +kernel
theorem wd_1896 : (Cond.methodLink "WebCourtLaw" (129 : Nat) ⟨"WebCourtModel", "swap", "(I)I"⟩) ∈ gtb := gtb_c8 107 (by decide +kernel) rfl
theorem wd_1897 : (Cond.instanceMethod ⟨"WebCourtModel", "swap", "(I)I"⟩) ∈ gtb := gtb_c8 108 (by decide +kernel) rfl
theorem wd_1898 : (Cond.selects "WebCourtModel" ⟨"WebCourtModel", "swap", "(I)I"⟩ ⟨"WebCourtModel", "swap", "(I)I"⟩) ∈ gtb := gtb_c8 109 (by decide +kernel) rfl
theorem hd_yX11_swap : yX11_swap.cls = RX11 ∧ yX11_swap.cls ≠ "java/lang/invoke/MethodHandle" ∧ yX11_swap.cls ≠ "java/lang/invoke/VarHandle" ∧ (parseMethodDescriptor yX11_swap.desc).map (fun d => d.parameters.length) = some 1 := by decide +kernel
set_option maxHeartbeats 4000000 in
set_option maxRecDepth 100000 in
theorem lawc_27 {p : Program} {l : Launch} {e : Env} {s : State} {m : MethodId} {below : List Frame} {meth : Method} {c : Code} {b Ln : Nat} {xs : Nat → Int32} {D : va_G} {cy : Nat → ClassId} {a1 a2 : Nat → Nat} {u1 u2 : St} {i : Int32} {A : Nat → Prop} {Q : State → Prop} {H : Heap} {locs : List Loc} {ls : Array Slot} (C : Cx p s m #[Value.ref b] c code 4 RL D cy A) (hX : va_X b Ln xs s s.heap) (hbl : b < s.heap.size) (hbA : ¬ A b) (hi0 : 0 ≤ i.toInt) (hiL : i.toInt + 6 ≤ (Ln : Int)) (hLm : Ln ≤ 3072) (hJ1 : CI a1 u1) (hJ2 : MI a2 u2) (hT : fI u1 39 6 = fI u2 0 62) (kend : ∀ (b1 : Nat → Nat) (v1 v2 : St) (H : Heap) (locs : List Loc) (ls : Array Slot), b1 0 = a1 0 → CI b1 v1 → MI a2 v2 → fI v1 39 6 = fI v2 0 62 → Wo D A (cW cy b1 v1 ++ mW cy a2 v2) s.heap H locs → lv_has ls 4 [(0, .ref b), (1, .ref (a1 0)), (2, .ref (a2 0)), (3, .int i)] → W p l e room_1 s m #[Value.ref b] below meth c H locs 134 12281 Q (F0 m 1386 ls [])) (hO : Wo D A (cW cy a1 u1 ++ mW cy a2 u2) s.heap H locs) (hl : lv_has ls 4 [(0, .ref b), (1, .ref (a1 0)), (2, .ref (a2 0)), (3, .int i)]) : W p l e room_1 s m #[Value.ref b] below meth c H locs 134 12281 Q (F0 m 913 ls []) := by
  obtain ⟨hx, hb, hml, hown, ht, hK, hA⟩ := id C
  refine lv_aload_n hx hb dL_law_913 rfl (lv_at hl 1 rfl) ?_
  refine lv_aload_n hx hb dL_law_914 rfl (lv_at hl 0 rfl) ?_
  refine lv_iload_n hx hb dL_law_915 rfl (lv_at hl 3 rfl) ?_
  refine lv_iconst (v := 1) hx hb dL_law_916 (by decide) ?_
  refine lv_iadd hx hb dL_law_917 ?_
  refine lv_topi (fun z1 ez1 => ?_)
  have nz1 : z1.toInt = i.toInt + 1 := by rw [ez1]; exact i_add rfl rfl (by omega)
  refine va_sld hx hb hX hbl hbA hO.2.2 (i_in (X := i.toInt + 1) nz1 (by omega) (by omega)) dL_law_918 ?_
  refine lv_topi (fun w2 ew2 => ?_)
  refine fVi (w := cW cy a1) (pl := mW cy a2 u2) (As := [.int w2]) (rest := []) C hO (T_X10_swap l D cy a1 u1 hJ1 w2) (cwV 1 ht (gV wd_1155 wd_1156 wd_1157 wd_110 wd_1158) rfl rfl rfl hd_yX10_swap ⟨Nat.le_of_ble_eq_true rfl, Nat.le_of_ble_eq_true rfl⟩) 0 rfl cW_0 rfl rfl hl.1 (Nat.le_of_ble_eq_true rfl) dL_law_919 rfl ⟨Nat.le_of_ble_eq_true rfl, Nat.le_of_ble_eq_true rfl⟩ (fun r1 v1 H locs hp1 hO => ?_)
  obtain ⟨hI1, hk1⟩ := hp1
  refine lv_pop hx hb dL_law_922 rfl ?_
  refine lv_aload_n hx hb dL_law_923 rfl (lv_at hl 2 rfl) ?_
  refine lv_aload_n hx hb dL_law_924 rfl (lv_at hl 0 rfl) ?_
  refine lv_iload_n hx hb dL_law_925 rfl (lv_at hl 3 rfl) ?_
  refine lv_iconst (v := 1) hx hb dL_law_926 (by decide) ?_
  refine lv_iadd hx hb dL_law_927 ?_
  refine lv_topi (fun z3 ez3 => ?_)
  have nz3 : z3.toInt = i.toInt + 1 := by rw [ez3]; exact i_add rfl rfl (by omega)
  refine va_sld hx hb hX hbl hbA hO.2.2 (i_in (X := i.toInt + 1) nz3 (by omega) (by omega)) dL_law_928 ?_
  refine lv_topi (fun w4 ew4 => ?_)
  have hO : Wo D A (mW cy a2 u2 ++ cW cy a1 v1) s.heap H locs := Wo.swap (a := []) hO
  refine fVi (w := mW cy a2) (pl := cW cy a1 v1) (As := [.int w4]) (rest := []) C hO (T_X11_swap l D cy a2 u2 hJ2 w4) (cwV 1 ht (gV wd_1896 wd_1897 wd_1898 wd_121 wd_1899) rfl rfl rfl hd_yX11_swap ⟨Nat.le_of_ble_eq_true rfl, Nat.le_of_ble_eq_true rfl⟩) 0 rfl mW_0 rfl rfl hl.1 (Nat.le_of_ble_eq_true rfl) dL_law_929 rfl ⟨Nat.le_of_ble_eq_true rfl, Nat.le_of_ble_eq_true rfl⟩ (fun r2 v2 H locs hp2 hO => ?_)
  obtain ⟨hI2, hk2⟩ := hp2
  refine lv_pop hx hb dL_law_932 rfl ?_
  refine lv_goto (tgt := 1386) hx hb dL_law_933 (by decide) ?_
  exact kend a1 v1 v2 H locs ls (rfl) hI1 hI2 (Eq.trans (hk1) (Eq.trans hT (Eq.symm ((Km2_I62 hk2))))) (Wo.swap (a := []) hO) hl
theorem wd_1168 : (Cond.methodLink "WebCourtLaw" (130 : Nat) ⟨"WebCourt", "advice", "(II)I"⟩) ∈ gtb := gtb_c5 99 (by decide +kernel) rfl
theorem wd_1169 : (Cond.instanceMethod ⟨"WebCourt", "advice", "(II)I"⟩) ∈ gtb := gtb_c5 100 (by decide +kernel) rfl
theorem wd_1170 : (Cond.selects "WebCourt" ⟨"WebCourt", "advice", "(II)I"⟩ ⟨"WebCourt", "advice", "(II)I"⟩) ∈ gtb := gtb_c5 101 (by decide +kernel) rfl
theorem hd_yX10_advice : yX10_advice.cls = RX10 ∧ yX10_advice.cls ≠ "java/lang/invoke/MethodHandle" ∧ yX10_advice.cls ≠ "java/lang/invoke/VarHandle" ∧ (parseMethodDescriptor yX10_advice.desc).map (fun d => d.parameters.length) = some 2 := by decide +kernel
theorem wd_1888 : (Cond.methodLink "WebCourtLaw" (133 : Nat) ⟨"WebCourtModel", "advice", "(II)I"⟩) ∈ gtb := gtb_c8 99 (by decide +kernel) rfl
theorem wd_1889 : (Cond.instanceMethod ⟨"WebCourtModel", "advice", "(II)I"⟩) ∈ gtb := gtb_c8 100 (by decide +kernel) rfl
theorem wd_1890 : (Cond.selects "WebCourtModel" ⟨"WebCourtModel", "advice", "(II)I"⟩ ⟨"WebCourtModel", "advice", "(II)I"⟩) ∈ gtb := gtb_c8 101 (by decide +kernel) rfl
theorem hd_yX11_advice : yX11_advice.cls = RX11 ∧ yX11_advice.cls ≠ "java/lang/invoke/MethodHandle" ∧ yX11_advice.cls ≠ "java/lang/invoke/VarHandle" ∧ (parseMethodDescriptor yX11_advice.desc).map (fun d => d.parameters.length) = some 2 := by decide +kernel
set_option maxHeartbeats 4000000 in
set_option maxRecDepth 100000 in
theorem lawc_28 {p : Program} {l : Launch} {e : Env} {s : State} {m : MethodId} {below : List Frame} {meth : Method} {c : Code} {b Ln : Nat} {xs : Nat → Int32} {D : va_G} {cy : Nat → ClassId} {a1 a2 : Nat → Nat} {u1 u2 : St} {i : Int32} {A : Nat → Prop} {Q : State → Prop} {H : Heap} {locs : List Loc} {ls : Array Slot} (C : Cx p s m #[Value.ref b] c code 4 RL D cy A) (hX : va_X b Ln xs s s.heap) (hbl : b < s.heap.size) (hbA : ¬ A b) (hi0 : 0 ≤ i.toInt) (hiL : i.toInt + 6 ≤ (Ln : Int)) (hLm : Ln ≤ 3072) (hJ1 : CI a1 u1) (hJ2 : MI a2 u2) (hT : fI u1 39 6 = fI u2 0 62) (kend : ∀ (b1 : Nat → Nat) (v1 v2 : St) (H : Heap) (locs : List Loc) (ls : Array Slot), b1 0 = a1 0 → CI b1 v1 → MI a2 v2 → fI v1 39 6 = fI v2 0 62 → Wo D A (cW cy b1 v1 ++ mW cy a2 v2) s.heap H locs → lv_has ls 4 [(0, .ref b), (1, .ref (a1 0)), (2, .ref (a2 0)), (3, .int i)] → W p l e room_1 s m #[Value.ref b] below meth c H locs 134 12281 Q (F0 m 1386 ls [])) (hO : Wo D A (cW cy a1 u1 ++ mW cy a2 u2) s.heap H locs) (hl : lv_has ls 4 [(0, .ref b), (1, .ref (a1 0)), (2, .ref (a2 0)), (3, .int i)]) : W p l e room_1 s m #[Value.ref b] below meth c H locs 134 12281 Q (F0 m 936 ls []) := by
  obtain ⟨hx, hb, hml, hown, ht, hK, hA⟩ := id C
  refine lv_aload_n hx hb dL_law_936 rfl (lv_at hl 1 rfl) ?_
  refine lv_aload_n hx hb dL_law_937 rfl (lv_at hl 0 rfl) ?_
  refine lv_iload_n hx hb dL_law_938 rfl (lv_at hl 3 rfl) ?_
  refine lv_iconst (v := 1) hx hb dL_law_939 (by decide) ?_
  refine lv_iadd hx hb dL_law_940 ?_
  refine lv_topi (fun z1 ez1 => ?_)
  have nz1 : z1.toInt = i.toInt + 1 := by rw [ez1]; exact i_add rfl rfl (by omega)
  refine va_sld hx hb hX hbl hbA hO.2.2 (i_in (X := i.toInt + 1) nz1 (by omega) (by omega)) dL_law_941 ?_
  refine lv_topi (fun w2 ew2 => ?_)
  refine lv_aload_n hx hb dL_law_942 rfl (lv_at hl 0 rfl) ?_
  refine lv_iload_n hx hb dL_law_943 rfl (lv_at hl 3 rfl) ?_
  refine lv_iconst (v := 2) hx hb dL_law_944 (by decide) ?_
  refine lv_iadd hx hb dL_law_945 ?_
  refine lv_topi (fun z3 ez3 => ?_)
  have nz3 : z3.toInt = i.toInt + 2 := by rw [ez3]; exact i_add rfl rfl (by omega)
  refine va_sld hx hb hX hbl hbA hO.2.2 (i_in (X := i.toInt + 2) nz3 (by omega) (by omega)) dL_law_946 ?_
  refine lv_topi (fun w4 ew4 => ?_)
  refine fVi (w := cW cy a1) (pl := mW cy a2 u2) (As := [.int w2, .int w4]) (rest := []) C hO (T_X10_advice l D cy a1 u1 hJ1 w2 w4) (cwV 2 ht (gV wd_1168 wd_1169 wd_1170 wd_110 wd_1171) rfl rfl rfl hd_yX10_advice ⟨Nat.le_of_ble_eq_true rfl, Nat.le_of_ble_eq_true rfl⟩) 0 rfl cW_0 rfl rfl hl.1 (Nat.le_of_ble_eq_true rfl) dL_law_947 rfl ⟨Nat.le_of_ble_eq_true rfl, Nat.le_of_ble_eq_true rfl⟩ (fun r1 v1 H locs hp1 hO => ?_)
  obtain ⟨hI1, hk1⟩ := hp1
  refine lv_pop hx hb dL_law_950 rfl ?_
  refine lv_aload_n hx hb dL_law_951 rfl (lv_at hl 2 rfl) ?_
  refine lv_aload_n hx hb dL_law_952 rfl (lv_at hl 0 rfl) ?_
  refine lv_iload_n hx hb dL_law_953 rfl (lv_at hl 3 rfl) ?_
  refine lv_iconst (v := 1) hx hb dL_law_954 (by decide) ?_
  refine lv_iadd hx hb dL_law_955 ?_
  refine lv_topi (fun z5 ez5 => ?_)
  have nz5 : z5.toInt = i.toInt + 1 := by rw [ez5]; exact i_add rfl rfl (by omega)
  refine va_sld hx hb hX hbl hbA hO.2.2 (i_in (X := i.toInt + 1) nz5 (by omega) (by omega)) dL_law_956 ?_
  refine lv_topi (fun w6 ew6 => ?_)
  refine lv_aload_n hx hb dL_law_957 rfl (lv_at hl 0 rfl) ?_
  refine lv_iload_n hx hb dL_law_958 rfl (lv_at hl 3 rfl) ?_
  refine lv_iconst (v := 2) hx hb dL_law_959 (by decide) ?_
  refine lv_iadd hx hb dL_law_960 ?_
  refine lv_topi (fun z7 ez7 => ?_)
  have nz7 : z7.toInt = i.toInt + 2 := by rw [ez7]; exact i_add rfl rfl (by omega)
  refine va_sld hx hb hX hbl hbA hO.2.2 (i_in (X := i.toInt + 2) nz7 (by omega) (by omega)) dL_law_961 ?_
  refine lv_topi (fun w8 ew8 => ?_)
  have hO : Wo D A (mW cy a2 u2 ++ cW cy a1 v1) s.heap H locs := Wo.swap (a := []) hO
  refine fVi (w := mW cy a2) (pl := cW cy a1 v1) (As := [.int w6, .int w8]) (rest := []) C hO (T_X11_advice l D cy a2 u2 hJ2 w6 w8) (cwV 2 ht (gV wd_1888 wd_1889 wd_1890 wd_121 wd_1891) rfl rfl rfl hd_yX11_advice ⟨Nat.le_of_ble_eq_true rfl, Nat.le_of_ble_eq_true rfl⟩) 0 rfl mW_0 rfl rfl hl.1 (Nat.le_of_ble_eq_true rfl) dL_law_962 rfl ⟨Nat.le_of_ble_eq_true rfl, Nat.le_of_ble_eq_true rfl⟩ (fun r2 v2 H locs hp2 hO => ?_)
  obtain ⟨hI2, hk2⟩ := hp2
  refine lv_pop hx hb dL_law_965 rfl ?_
  refine lv_goto (tgt := 1386) hx hb dL_law_966 (by decide) ?_
  exact kend a1 v1 v2 H locs ls (rfl) hI1 hI2 (Eq.trans (hk1) (Eq.trans hT (Eq.symm ((Km2_I62 hk2))))) (Wo.swap (a := []) hO) hl
theorem wd_1177 : (Cond.methodLink "WebCourtLaw" (134 : Nat) ⟨"WebCourt", "free", "()I"⟩) ∈ gtb := gtb_c5 108 (by decide +kernel) rfl
theorem wd_1178 : (Cond.instanceMethod ⟨"WebCourt", "free", "()I"⟩) ∈ gtb := gtb_c5 109 (by decide +kernel) rfl
theorem wd_1179 : (Cond.selects "WebCourt" ⟨"WebCourt", "free", "()I"⟩ ⟨"WebCourt", "free", "()I"⟩) ∈ gtb := gtb_c5 110 (by decide +kernel) rfl
theorem hd_yX10_free : yX10_free.cls = RX10 ∧ yX10_free.cls ≠ "java/lang/invoke/MethodHandle" ∧ yX10_free.cls ≠ "java/lang/invoke/VarHandle" ∧ (parseMethodDescriptor yX10_free.desc).map (fun d => d.parameters.length) = some 0 := by decide +kernel
theorem wd_1789 : (Cond.methodLink "WebCourtLaw" (137 : Nat) ⟨"WebCourtModel", "free", "()I"⟩) ∈ gtb := gtb_c8 0 (by decide +kernel) rfl
theorem wd_1790 : (Cond.instanceMethod ⟨"WebCourtModel", "free", "()I"⟩) ∈ gtb := gtb_c8 1 (by decide +kernel) rfl
theorem wd_1791 : (Cond.selects "WebCourtModel" ⟨"WebCourtModel", "free", "()I"⟩ ⟨"WebCourtModel", "free", "()I"⟩) ∈ gtb := gtb_c8 2 (by decide +kernel) rfl
theorem hd_yX11_free : yX11_free.cls = RX11 ∧ yX11_free.cls ≠ "java/lang/invoke/MethodHandle" ∧ yX11_free.cls ≠ "java/lang/invoke/VarHandle" ∧ (parseMethodDescriptor yX11_free.desc).map (fun d => d.parameters.length) = some 0 := by decide +kernel
set_option maxHeartbeats 4000000 in
set_option maxRecDepth 100000 in
theorem lawc_29 {p : Program} {l : Launch} {e : Env} {s : State} {m : MethodId} {below : List Frame} {meth : Method} {c : Code} {b Ln : Nat} {xs : Nat → Int32} {D : va_G} {cy : Nat → ClassId} {a1 a2 : Nat → Nat} {u1 u2 : St} {i : Int32} {A : Nat → Prop} {Q : State → Prop} {H : Heap} {locs : List Loc} {ls : Array Slot} (C : Cx p s m #[Value.ref b] c code 4 RL D cy A) (hX : va_X b Ln xs s s.heap) (hbl : b < s.heap.size) (hbA : ¬ A b) (hi0 : 0 ≤ i.toInt) (hiL : i.toInt + 6 ≤ (Ln : Int)) (hLm : Ln ≤ 3072) (hJ1 : CI a1 u1) (hJ2 : MI a2 u2) (hT : fI u1 39 6 = fI u2 0 62) (kend : ∀ (b1 : Nat → Nat) (v1 v2 : St) (H : Heap) (locs : List Loc) (ls : Array Slot), b1 0 = a1 0 → CI b1 v1 → MI a2 v2 → fI v1 39 6 = fI v2 0 62 → Wo D A (cW cy b1 v1 ++ mW cy a2 v2) s.heap H locs → lv_has ls 4 [(0, .ref b), (1, .ref (a1 0)), (2, .ref (a2 0)), (3, .int i)] → W p l e room_1 s m #[Value.ref b] below meth c H locs 134 12281 Q (F0 m 1386 ls [])) (hO : Wo D A (cW cy a1 u1 ++ mW cy a2 u2) s.heap H locs) (hl : lv_has ls 4 [(0, .ref b), (1, .ref (a1 0)), (2, .ref (a2 0)), (3, .int i)]) : W p l e room_1 s m #[Value.ref b] below meth c H locs 134 12281 Q (F0 m 969 ls []) := by
  obtain ⟨hx, hb, hml, hown, ht, hK, hA⟩ := id C
  refine lv_aload_n hx hb dL_law_969 rfl (lv_at hl 1 rfl) ?_
  refine fVi (w := cW cy a1) (pl := mW cy a2 u2) (As := []) (rest := []) C hO (T_X10_free l D cy a1 u1 hJ1 ) (cwV 0 ht (gV wd_1177 wd_1178 wd_1179 wd_110 wd_1180) rfl rfl rfl hd_yX10_free ⟨Nat.le_of_ble_eq_true rfl, Nat.le_of_ble_eq_true rfl⟩) 0 rfl cW_0 rfl rfl hl.1 (Nat.le_of_ble_eq_true rfl) dL_law_970 rfl ⟨Nat.le_of_ble_eq_true rfl, Nat.le_of_ble_eq_true rfl⟩ (fun r1 v1 H locs hp1 hO => ?_)
  obtain ⟨hI1, hk1⟩ := hp1
  refine lv_pop hx hb dL_law_973 rfl ?_
  refine lv_aload_n hx hb dL_law_974 rfl (lv_at hl 2 rfl) ?_
  have hO : Wo D A (mW cy a2 u2 ++ cW cy a1 v1) s.heap H locs := Wo.swap (a := []) hO
  refine fVi (w := mW cy a2) (pl := cW cy a1 v1) (As := []) (rest := []) C hO (T_X11_free l D cy a2 u2 hJ2 ) (cwV 0 ht (gV wd_1789 wd_1790 wd_1791 wd_121 wd_1792) rfl rfl rfl hd_yX11_free ⟨Nat.le_of_ble_eq_true rfl, Nat.le_of_ble_eq_true rfl⟩) 0 rfl mW_0 rfl rfl hl.1 (Nat.le_of_ble_eq_true rfl) dL_law_975 rfl ⟨Nat.le_of_ble_eq_true rfl, Nat.le_of_ble_eq_true rfl⟩ (fun r2 v2 H locs hp2 hO => ?_)
  obtain ⟨hI2, hk2⟩ := hp2
  refine lv_pop hx hb dL_law_978 rfl ?_
  refine lv_goto (tgt := 1386) hx hb dL_law_979 (by decide) ?_
  exact kend a1 v1 v2 H locs ls (rfl) hI1 hI2 (Eq.trans (hk1) (Eq.trans hT (Eq.symm ((Km2_I62 hk2))))) (Wo.swap (a := []) hO) hl
theorem wd_1185 : (Cond.methodLink "WebCourtLaw" (138 : Nat) ⟨"WebCourt", "reach", "()I"⟩) ∈ gtb := gtb_c5 116 (by decide +kernel) rfl
theorem wd_1186 : (Cond.instanceMethod ⟨"WebCourt", "reach", "()I"⟩) ∈ gtb := gtb_c5 117 (by decide +kernel) rfl
theorem wd_1187 : (Cond.selects "WebCourt" ⟨"WebCourt", "reach", "()I"⟩ ⟨"WebCourt", "reach", "()I"⟩) ∈ gtb := gtb_c5 118 (by decide +kernel) rfl
theorem hd_yX10_reach : yX10_reach.cls = RX10 ∧ yX10_reach.cls ≠ "java/lang/invoke/MethodHandle" ∧ yX10_reach.cls ≠ "java/lang/invoke/VarHandle" ∧ (parseMethodDescriptor yX10_reach.desc).map (fun d => d.parameters.length) = some 0 := by decide +kernel
theorem wd_1940 : (Cond.methodLink "WebCourtLaw" (141 : Nat) ⟨"WebCourtModel", "reach", "()I"⟩) ∈ gtb := gtb_c8 151 (by decide +kernel) rfl
theorem wd_1941 : (Cond.instanceMethod ⟨"WebCourtModel", "reach", "()I"⟩) ∈ gtb := gtb_c8 152 (by decide +kernel) rfl
theorem wd_1942 : (Cond.selects "WebCourtModel" ⟨"WebCourtModel", "reach", "()I"⟩ ⟨"WebCourtModel", "reach", "()I"⟩) ∈ gtb := gtb_c8 153 (by decide +kernel) rfl
theorem hd_yX11_reach : yX11_reach.cls = RX11 ∧ yX11_reach.cls ≠ "java/lang/invoke/MethodHandle" ∧ yX11_reach.cls ≠ "java/lang/invoke/VarHandle" ∧ (parseMethodDescriptor yX11_reach.desc).map (fun d => d.parameters.length) = some 0 := by decide +kernel
set_option maxHeartbeats 4000000 in
set_option maxRecDepth 100000 in
theorem lawc_30 {p : Program} {l : Launch} {e : Env} {s : State} {m : MethodId} {below : List Frame} {meth : Method} {c : Code} {b Ln : Nat} {xs : Nat → Int32} {D : va_G} {cy : Nat → ClassId} {a1 a2 : Nat → Nat} {u1 u2 : St} {i : Int32} {A : Nat → Prop} {Q : State → Prop} {H : Heap} {locs : List Loc} {ls : Array Slot} (C : Cx p s m #[Value.ref b] c code 4 RL D cy A) (hX : va_X b Ln xs s s.heap) (hbl : b < s.heap.size) (hbA : ¬ A b) (hi0 : 0 ≤ i.toInt) (hiL : i.toInt + 6 ≤ (Ln : Int)) (hLm : Ln ≤ 3072) (hJ1 : CI a1 u1) (hJ2 : MI a2 u2) (hT : fI u1 39 6 = fI u2 0 62) (kend : ∀ (b1 : Nat → Nat) (v1 v2 : St) (H : Heap) (locs : List Loc) (ls : Array Slot), b1 0 = a1 0 → CI b1 v1 → MI a2 v2 → fI v1 39 6 = fI v2 0 62 → Wo D A (cW cy b1 v1 ++ mW cy a2 v2) s.heap H locs → lv_has ls 4 [(0, .ref b), (1, .ref (a1 0)), (2, .ref (a2 0)), (3, .int i)] → W p l e room_1 s m #[Value.ref b] below meth c H locs 134 12281 Q (F0 m 1386 ls [])) (hO : Wo D A (cW cy a1 u1 ++ mW cy a2 u2) s.heap H locs) (hl : lv_has ls 4 [(0, .ref b), (1, .ref (a1 0)), (2, .ref (a2 0)), (3, .int i)]) : W p l e room_1 s m #[Value.ref b] below meth c H locs 134 12281 Q (F0 m 982 ls []) := by
  obtain ⟨hx, hb, hml, hown, ht, hK, hA⟩ := id C
  refine lv_aload_n hx hb dL_law_982 rfl (lv_at hl 1 rfl) ?_
  refine fVi (w := cW cy a1) (pl := mW cy a2 u2) (As := []) (rest := []) C hO (T_X10_reach l D cy a1 u1 hJ1 ) (cwV 0 ht (gV wd_1185 wd_1186 wd_1187 wd_110 wd_1188) rfl rfl rfl hd_yX10_reach ⟨Nat.le_of_ble_eq_true rfl, Nat.le_of_ble_eq_true rfl⟩) 0 rfl cW_0 rfl rfl hl.1 (Nat.le_of_ble_eq_true rfl) dL_law_983 rfl ⟨Nat.le_of_ble_eq_true rfl, Nat.le_of_ble_eq_true rfl⟩ (fun r1 v1 H locs hp1 hO => ?_)
  have hu := hp1
  rw [hu] at hO
  refine lv_pop hx hb dL_law_986 rfl ?_
  refine lv_aload_n hx hb dL_law_987 rfl (lv_at hl 2 rfl) ?_
  have hO : Wo D A (mW cy a2 u2 ++ cW cy a1 u1) s.heap H locs := Wo.swap (a := []) hO
  refine fVi (w := mW cy a2) (pl := cW cy a1 u1) (As := []) (rest := []) C hO (T_X11_reach l D cy a2 u2 hJ2 ) (cwV 0 ht (gV wd_1940 wd_1941 wd_1942 wd_121 wd_1943) rfl rfl rfl hd_yX11_reach ⟨Nat.le_of_ble_eq_true rfl, Nat.le_of_ble_eq_true rfl⟩) 0 rfl mW_0 rfl rfl hl.1 (Nat.le_of_ble_eq_true rfl) dL_law_988 rfl ⟨Nat.le_of_ble_eq_true rfl, Nat.le_of_ble_eq_true rfl⟩ (fun r2 v2 H locs hp2 hO => ?_)
  obtain ⟨hI2, hk2⟩ := hp2
  refine lv_pop hx hb dL_law_991 rfl ?_
  refine lv_goto (tgt := 1386) hx hb dL_law_992 (by decide) ?_
  exact kend a1 u1 v2 H locs ls (rfl) hJ1 hI2 (Eq.trans (rfl) (Eq.trans hT (Eq.symm ((Km6_I62 hk2))))) (Wo.swap (a := []) hO) hl
theorem wd_1190 : (Cond.methodLink "WebCourtLaw" (142 : Nat) ⟨"WebCourt", "fashion", "()I"⟩) ∈ gtb := gtb_c5 121 (by decide +kernel) rfl
theorem wd_1191 : (Cond.instanceMethod ⟨"WebCourt", "fashion", "()I"⟩) ∈ gtb := gtb_c5 122 (by decide +kernel) rfl
theorem wd_1192 : (Cond.selects "WebCourt" ⟨"WebCourt", "fashion", "()I"⟩ ⟨"WebCourt", "fashion", "()I"⟩) ∈ gtb := gtb_c5 123 (by decide +kernel) rfl
theorem hd_yX10_fashion : yX10_fashion.cls = RX10 ∧ yX10_fashion.cls ≠ "java/lang/invoke/MethodHandle" ∧ yX10_fashion.cls ≠ "java/lang/invoke/VarHandle" ∧ (parseMethodDescriptor yX10_fashion.desc).map (fun d => d.parameters.length) = some 0 := by decide +kernel
theorem wd_1805 : (Cond.methodLink "WebCourtLaw" (145 : Nat) ⟨"WebCourtModel", "fashion", "()I"⟩) ∈ gtb := gtb_c8 16 (by decide +kernel) rfl
theorem wd_1806 : (Cond.instanceMethod ⟨"WebCourtModel", "fashion", "()I"⟩) ∈ gtb := gtb_c8 17 (by decide +kernel) rfl
theorem wd_1807 : (Cond.selects "WebCourtModel" ⟨"WebCourtModel", "fashion", "()I"⟩ ⟨"WebCourtModel", "fashion", "()I"⟩) ∈ gtb := gtb_c8 18 (by decide +kernel) rfl
theorem hd_yX11_fashion : yX11_fashion.cls = RX11 ∧ yX11_fashion.cls ≠ "java/lang/invoke/MethodHandle" ∧ yX11_fashion.cls ≠ "java/lang/invoke/VarHandle" ∧ (parseMethodDescriptor yX11_fashion.desc).map (fun d => d.parameters.length) = some 0 := by decide +kernel
set_option maxHeartbeats 4000000 in
set_option maxRecDepth 100000 in
theorem lawc_31 {p : Program} {l : Launch} {e : Env} {s : State} {m : MethodId} {below : List Frame} {meth : Method} {c : Code} {b Ln : Nat} {xs : Nat → Int32} {D : va_G} {cy : Nat → ClassId} {a1 a2 : Nat → Nat} {u1 u2 : St} {i : Int32} {A : Nat → Prop} {Q : State → Prop} {H : Heap} {locs : List Loc} {ls : Array Slot} (C : Cx p s m #[Value.ref b] c code 4 RL D cy A) (hX : va_X b Ln xs s s.heap) (hbl : b < s.heap.size) (hbA : ¬ A b) (hi0 : 0 ≤ i.toInt) (hiL : i.toInt + 6 ≤ (Ln : Int)) (hLm : Ln ≤ 3072) (hJ1 : CI a1 u1) (hJ2 : MI a2 u2) (hT : fI u1 39 6 = fI u2 0 62) (kend : ∀ (b1 : Nat → Nat) (v1 v2 : St) (H : Heap) (locs : List Loc) (ls : Array Slot), b1 0 = a1 0 → CI b1 v1 → MI a2 v2 → fI v1 39 6 = fI v2 0 62 → Wo D A (cW cy b1 v1 ++ mW cy a2 v2) s.heap H locs → lv_has ls 4 [(0, .ref b), (1, .ref (a1 0)), (2, .ref (a2 0)), (3, .int i)] → W p l e room_1 s m #[Value.ref b] below meth c H locs 134 12281 Q (F0 m 1386 ls [])) (hO : Wo D A (cW cy a1 u1 ++ mW cy a2 u2) s.heap H locs) (hl : lv_has ls 4 [(0, .ref b), (1, .ref (a1 0)), (2, .ref (a2 0)), (3, .int i)]) : W p l e room_1 s m #[Value.ref b] below meth c H locs 134 12281 Q (F0 m 995 ls []) := by
  obtain ⟨hx, hb, hml, hown, ht, hK, hA⟩ := id C
  refine lv_aload_n hx hb dL_law_995 rfl (lv_at hl 1 rfl) ?_
  refine fVi (w := cW cy a1) (pl := mW cy a2 u2) (As := []) (rest := []) C hO (T_X10_fashion l D cy a1 u1 hJ1 ) (cwV 0 ht (gV wd_1190 wd_1191 wd_1192 wd_110 wd_1193) rfl rfl rfl hd_yX10_fashion ⟨Nat.le_of_ble_eq_true rfl, Nat.le_of_ble_eq_true rfl⟩) 0 rfl cW_0 rfl rfl hl.1 (Nat.le_of_ble_eq_true rfl) dL_law_996 rfl ⟨Nat.le_of_ble_eq_true rfl, Nat.le_of_ble_eq_true rfl⟩ (fun r1 v1 H locs hp1 hO => ?_)
  have hu := hp1
  rw [hu] at hO
  refine lv_pop hx hb dL_law_999 rfl ?_
  refine lv_aload_n hx hb dL_law_1000 rfl (lv_at hl 2 rfl) ?_
  have hO : Wo D A (mW cy a2 u2 ++ cW cy a1 u1) s.heap H locs := Wo.swap (a := []) hO
  refine fVi (w := mW cy a2) (pl := cW cy a1 u1) (As := []) (rest := []) C hO (T_X11_fashion l D cy a2 u2 hJ2 ) (cwV 0 ht (gV wd_1805 wd_1806 wd_1807 wd_121 wd_1808) rfl rfl rfl hd_yX11_fashion ⟨Nat.le_of_ble_eq_true rfl, Nat.le_of_ble_eq_true rfl⟩) 0 rfl mW_0 rfl rfl hl.1 (Nat.le_of_ble_eq_true rfl) dL_law_1001 rfl ⟨Nat.le_of_ble_eq_true rfl, Nat.le_of_ble_eq_true rfl⟩ (fun r2 v2 H locs hp2 hO => ?_)
  have hu := hp2
  rw [hu] at hO
  refine lv_pop hx hb dL_law_1004 rfl ?_
  refine lv_goto (tgt := 1386) hx hb dL_law_1005 (by decide) ?_
  exact kend a1 u1 u2 H locs ls (rfl) hJ1 hJ2 (Eq.trans (rfl) (Eq.trans hT (Eq.symm (rfl)))) (Wo.swap (a := []) hO) hl
theorem wd_1199 : (Cond.methodLink "WebCourtLaw" (146 : Nat) ⟨"WebCourt", "likeliest", "()I"⟩) ∈ gtb := gtb_c5 130 (by decide +kernel) rfl
theorem wd_1200 : (Cond.instanceMethod ⟨"WebCourt", "likeliest", "()I"⟩) ∈ gtb := gtb_c5 131 (by decide +kernel) rfl
theorem wd_1201 : (Cond.selects "WebCourt" ⟨"WebCourt", "likeliest", "()I"⟩ ⟨"WebCourt", "likeliest", "()I"⟩) ∈ gtb := gtb_c5 132 (by decide +kernel) rfl
theorem hd_yX10_likeliest : yX10_likeliest.cls = RX10 ∧ yX10_likeliest.cls ≠ "java/lang/invoke/MethodHandle" ∧ yX10_likeliest.cls ≠ "java/lang/invoke/VarHandle" ∧ (parseMethodDescriptor yX10_likeliest.desc).map (fun d => d.parameters.length) = some 0 := by decide +kernel
theorem wd_1801 : (Cond.methodLink "WebCourtLaw" (149 : Nat) ⟨"WebCourtModel", "likeliest", "()I"⟩) ∈ gtb := gtb_c8 12 (by decide +kernel) rfl
theorem wd_1802 : (Cond.instanceMethod ⟨"WebCourtModel", "likeliest", "()I"⟩) ∈ gtb := gtb_c8 13 (by decide +kernel) rfl
theorem wd_1803 : (Cond.selects "WebCourtModel" ⟨"WebCourtModel", "likeliest", "()I"⟩ ⟨"WebCourtModel", "likeliest", "()I"⟩) ∈ gtb := gtb_c8 14 (by decide +kernel) rfl
theorem hd_yX11_likeliest : yX11_likeliest.cls = RX11 ∧ yX11_likeliest.cls ≠ "java/lang/invoke/MethodHandle" ∧ yX11_likeliest.cls ≠ "java/lang/invoke/VarHandle" ∧ (parseMethodDescriptor yX11_likeliest.desc).map (fun d => d.parameters.length) = some 0 := by decide +kernel
set_option maxHeartbeats 4000000 in
set_option maxRecDepth 100000 in
theorem lawc_32 {p : Program} {l : Launch} {e : Env} {s : State} {m : MethodId} {below : List Frame} {meth : Method} {c : Code} {b Ln : Nat} {xs : Nat → Int32} {D : va_G} {cy : Nat → ClassId} {a1 a2 : Nat → Nat} {u1 u2 : St} {i : Int32} {A : Nat → Prop} {Q : State → Prop} {H : Heap} {locs : List Loc} {ls : Array Slot} (C : Cx p s m #[Value.ref b] c code 4 RL D cy A) (hX : va_X b Ln xs s s.heap) (hbl : b < s.heap.size) (hbA : ¬ A b) (hi0 : 0 ≤ i.toInt) (hiL : i.toInt + 6 ≤ (Ln : Int)) (hLm : Ln ≤ 3072) (hJ1 : CI a1 u1) (hJ2 : MI a2 u2) (hT : fI u1 39 6 = fI u2 0 62) (kend : ∀ (b1 : Nat → Nat) (v1 v2 : St) (H : Heap) (locs : List Loc) (ls : Array Slot), b1 0 = a1 0 → CI b1 v1 → MI a2 v2 → fI v1 39 6 = fI v2 0 62 → Wo D A (cW cy b1 v1 ++ mW cy a2 v2) s.heap H locs → lv_has ls 4 [(0, .ref b), (1, .ref (a1 0)), (2, .ref (a2 0)), (3, .int i)] → W p l e room_1 s m #[Value.ref b] below meth c H locs 134 12281 Q (F0 m 1386 ls [])) (hO : Wo D A (cW cy a1 u1 ++ mW cy a2 u2) s.heap H locs) (hl : lv_has ls 4 [(0, .ref b), (1, .ref (a1 0)), (2, .ref (a2 0)), (3, .int i)]) : W p l e room_1 s m #[Value.ref b] below meth c H locs 134 12281 Q (F0 m 1008 ls []) := by
  obtain ⟨hx, hb, hml, hown, ht, hK, hA⟩ := id C
  refine lv_aload_n hx hb dL_law_1008 rfl (lv_at hl 1 rfl) ?_
  refine fVi (w := cW cy a1) (pl := mW cy a2 u2) (As := []) (rest := []) C hO (T_X10_likeliest l D cy a1 u1 hJ1 ) (cwV 0 ht (gV wd_1199 wd_1200 wd_1201 wd_110 wd_1202) rfl rfl rfl hd_yX10_likeliest ⟨Nat.le_of_ble_eq_true rfl, Nat.le_of_ble_eq_true rfl⟩) 0 rfl cW_0 rfl rfl hl.1 (Nat.le_of_ble_eq_true rfl) dL_law_1009 rfl ⟨Nat.le_of_ble_eq_true rfl, Nat.le_of_ble_eq_true rfl⟩ (fun r1 v1 H locs hp1 hO => ?_)
  obtain ⟨hI1, hk1⟩ := hp1
  refine lv_pop hx hb dL_law_1012 rfl ?_
  refine lv_aload_n hx hb dL_law_1013 rfl (lv_at hl 2 rfl) ?_
  have hO : Wo D A (mW cy a2 u2 ++ cW cy a1 v1) s.heap H locs := Wo.swap (a := []) hO
  refine fVi (w := mW cy a2) (pl := cW cy a1 v1) (As := []) (rest := []) C hO (T_X11_likeliest l D cy a2 u2 hJ2 ) (cwV 0 ht (gV wd_1801 wd_1802 wd_1803 wd_121 wd_1804) rfl rfl rfl hd_yX11_likeliest ⟨Nat.le_of_ble_eq_true rfl, Nat.le_of_ble_eq_true rfl⟩) 0 rfl mW_0 rfl rfl hl.1 (Nat.le_of_ble_eq_true rfl) dL_law_1014 rfl ⟨Nat.le_of_ble_eq_true rfl, Nat.le_of_ble_eq_true rfl⟩ (fun r2 v2 H locs hp2 hO => ?_)
  obtain ⟨hI2, hk2⟩ := hp2
  refine lv_pop hx hb dL_law_1017 rfl ?_
  refine lv_goto (tgt := 1386) hx hb dL_law_1018 (by decide) ?_
  exact kend a1 v1 v2 H locs ls (rfl) hI1 hI2 (Eq.trans (hk1) (Eq.trans hT (Eq.symm ((Km2_I62 hk2))))) (Wo.swap (a := []) hO) hl
theorem wd_1207 : (Cond.methodLink "WebCourtLaw" (150 : Nat) ⟨"WebCourt", "loophole", "(I)I"⟩) ∈ gtb := gtb_c5 138 (by decide +kernel) rfl
theorem wd_1208 : (Cond.instanceMethod ⟨"WebCourt", "loophole", "(I)I"⟩) ∈ gtb := gtb_c5 139 (by decide +kernel) rfl
theorem wd_1209 : (Cond.selects "WebCourt" ⟨"WebCourt", "loophole", "(I)I"⟩ ⟨"WebCourt", "loophole", "(I)I"⟩) ∈ gtb := gtb_c5 140 (by decide +kernel) rfl
theorem hd_yX10_loophole : yX10_loophole.cls = RX10 ∧ yX10_loophole.cls ≠ "java/lang/invoke/MethodHandle" ∧ yX10_loophole.cls ≠ "java/lang/invoke/VarHandle" ∧ (parseMethodDescriptor yX10_loophole.desc).map (fun d => d.parameters.length) = some 1 := by decide +kernel
theorem wd_1912 : (Cond.methodLink "WebCourtLaw" (153 : Nat) ⟨"WebCourtModel", "loophole", "(I)I"⟩) ∈ gtb := gtb_c8 123 (by decide +kernel) rfl
theorem wd_1913 : (Cond.instanceMethod ⟨"WebCourtModel", "loophole", "(I)I"⟩) ∈ gtb := gtb_c8 124 (by decide +kernel) rfl
theorem wd_1914 : (Cond.selects "WebCourtModel" ⟨"WebCourtModel", "loophole", "(I)I"⟩ ⟨"WebCourtModel", "loophole", "(I)I"⟩) ∈ gtb := gtb_c8 125 (by decide +kernel) rfl
theorem hd_yX11_loophole : yX11_loophole.cls = RX11 ∧ yX11_loophole.cls ≠ "java/lang/invoke/MethodHandle" ∧ yX11_loophole.cls ≠ "java/lang/invoke/VarHandle" ∧ (parseMethodDescriptor yX11_loophole.desc).map (fun d => d.parameters.length) = some 1 := by decide +kernel
set_option maxHeartbeats 4000000 in
set_option maxRecDepth 100000 in
theorem lawc_33 {p : Program} {l : Launch} {e : Env} {s : State} {m : MethodId} {below : List Frame} {meth : Method} {c : Code} {b Ln : Nat} {xs : Nat → Int32} {D : va_G} {cy : Nat → ClassId} {a1 a2 : Nat → Nat} {u1 u2 : St} {i : Int32} {A : Nat → Prop} {Q : State → Prop} {H : Heap} {locs : List Loc} {ls : Array Slot} (C : Cx p s m #[Value.ref b] c code 4 RL D cy A) (hX : va_X b Ln xs s s.heap) (hbl : b < s.heap.size) (hbA : ¬ A b) (hi0 : 0 ≤ i.toInt) (hiL : i.toInt + 6 ≤ (Ln : Int)) (hLm : Ln ≤ 3072) (hJ1 : CI a1 u1) (hJ2 : MI a2 u2) (hT : fI u1 39 6 = fI u2 0 62) (kend : ∀ (b1 : Nat → Nat) (v1 v2 : St) (H : Heap) (locs : List Loc) (ls : Array Slot), b1 0 = a1 0 → CI b1 v1 → MI a2 v2 → fI v1 39 6 = fI v2 0 62 → Wo D A (cW cy b1 v1 ++ mW cy a2 v2) s.heap H locs → lv_has ls 4 [(0, .ref b), (1, .ref (a1 0)), (2, .ref (a2 0)), (3, .int i)] → W p l e room_1 s m #[Value.ref b] below meth c H locs 134 12281 Q (F0 m 1386 ls [])) (hO : Wo D A (cW cy a1 u1 ++ mW cy a2 u2) s.heap H locs) (hl : lv_has ls 4 [(0, .ref b), (1, .ref (a1 0)), (2, .ref (a2 0)), (3, .int i)]) : W p l e room_1 s m #[Value.ref b] below meth c H locs 134 12281 Q (F0 m 1021 ls []) := by
  obtain ⟨hx, hb, hml, hown, ht, hK, hA⟩ := id C
  refine lv_aload_n hx hb dL_law_1021 rfl (lv_at hl 1 rfl) ?_
  refine lv_aload_n hx hb dL_law_1022 rfl (lv_at hl 0 rfl) ?_
  refine lv_iload_n hx hb dL_law_1023 rfl (lv_at hl 3 rfl) ?_
  refine lv_iconst (v := 1) hx hb dL_law_1024 (by decide) ?_
  refine lv_iadd hx hb dL_law_1025 ?_
  refine lv_topi (fun z1 ez1 => ?_)
  have nz1 : z1.toInt = i.toInt + 1 := by rw [ez1]; exact i_add rfl rfl (by omega)
  refine va_sld hx hb hX hbl hbA hO.2.2 (i_in (X := i.toInt + 1) nz1 (by omega) (by omega)) dL_law_1026 ?_
  refine lv_topi (fun w2 ew2 => ?_)
  refine fVi (w := cW cy a1) (pl := mW cy a2 u2) (As := [.int w2]) (rest := []) C hO (T_X10_loophole l D cy a1 u1 hJ1 w2) (cwV 1 ht (gV wd_1207 wd_1208 wd_1209 wd_110 wd_1210) rfl rfl rfl hd_yX10_loophole ⟨Nat.le_of_ble_eq_true rfl, Nat.le_of_ble_eq_true rfl⟩) 0 rfl cW_0 rfl rfl hl.1 (Nat.le_of_ble_eq_true rfl) dL_law_1027 rfl ⟨Nat.le_of_ble_eq_true rfl, Nat.le_of_ble_eq_true rfl⟩ (fun r1 v1 H locs hp1 hO => ?_)
  obtain ⟨hI1, hk1⟩ := hp1
  refine lv_pop hx hb dL_law_1030 rfl ?_
  refine lv_aload_n hx hb dL_law_1031 rfl (lv_at hl 2 rfl) ?_
  refine lv_aload_n hx hb dL_law_1032 rfl (lv_at hl 0 rfl) ?_
  refine lv_iload_n hx hb dL_law_1033 rfl (lv_at hl 3 rfl) ?_
  refine lv_iconst (v := 1) hx hb dL_law_1034 (by decide) ?_
  refine lv_iadd hx hb dL_law_1035 ?_
  refine lv_topi (fun z3 ez3 => ?_)
  have nz3 : z3.toInt = i.toInt + 1 := by rw [ez3]; exact i_add rfl rfl (by omega)
  refine va_sld hx hb hX hbl hbA hO.2.2 (i_in (X := i.toInt + 1) nz3 (by omega) (by omega)) dL_law_1036 ?_
  refine lv_topi (fun w4 ew4 => ?_)
  have hO : Wo D A (mW cy a2 u2 ++ cW cy a1 v1) s.heap H locs := Wo.swap (a := []) hO
  refine fVi (w := mW cy a2) (pl := cW cy a1 v1) (As := [.int w4]) (rest := []) C hO (T_X11_loophole l D cy a2 u2 hJ2 w4) (cwV 1 ht (gV wd_1912 wd_1913 wd_1914 wd_121 wd_1915) rfl rfl rfl hd_yX11_loophole ⟨Nat.le_of_ble_eq_true rfl, Nat.le_of_ble_eq_true rfl⟩) 0 rfl mW_0 rfl rfl hl.1 (Nat.le_of_ble_eq_true rfl) dL_law_1037 rfl ⟨Nat.le_of_ble_eq_true rfl, Nat.le_of_ble_eq_true rfl⟩ (fun r2 v2 H locs hp2 hO => ?_)
  obtain ⟨hI2, hk2⟩ := hp2
  refine lv_pop hx hb dL_law_1040 rfl ?_
  refine lv_goto (tgt := 1386) hx hb dL_law_1041 (by decide) ?_
  exact kend a1 v1 v2 H locs ls (rfl) hI1 hI2 (Eq.trans (hk1) (Eq.trans hT (Eq.symm ((Km3_I62 hk2))))) (Wo.swap (a := []) hO) hl
theorem wd_1215 : (Cond.methodLink "WebCourtLaw" (154 : Nat) ⟨"WebCourt", "precedent", "(I)I"⟩) ∈ gtb := gtb_c5 146 (by decide +kernel) rfl
theorem wd_1216 : (Cond.instanceMethod ⟨"WebCourt", "precedent", "(I)I"⟩) ∈ gtb := gtb_c5 147 (by decide +kernel) rfl
theorem wd_1217 : (Cond.selects "WebCourt" ⟨"WebCourt", "precedent", "(I)I"⟩ ⟨"WebCourt", "precedent", "(I)I"⟩) ∈ gtb := gtb_c5 148 (by decide +kernel) rfl
theorem hd_yX10_precedent : yX10_precedent.cls = RX10 ∧ yX10_precedent.cls ≠ "java/lang/invoke/MethodHandle" ∧ yX10_precedent.cls ≠ "java/lang/invoke/VarHandle" ∧ (parseMethodDescriptor yX10_precedent.desc).map (fun d => d.parameters.length) = some 1 := by decide +kernel
theorem wd_1916 : (Cond.methodLink "WebCourtLaw" (157 : Nat) ⟨"WebCourtModel", "precedent", "(I)I"⟩) ∈ gtb := gtb_c8 127 (by decide +kernel) rfl
theorem wd_1917 : (Cond.instanceMethod ⟨"WebCourtModel", "precedent", "(I)I"⟩) ∈ gtb := gtb_c8 128 (by decide +kernel) rfl
theorem wd_1918 : (Cond.selects "WebCourtModel" ⟨"WebCourtModel", "precedent", "(I)I"⟩ ⟨"WebCourtModel", "precedent", "(I)I"⟩) ∈ gtb := gtb_c8 129 (by decide +kernel) rfl
theorem hd_yX11_precedent : yX11_precedent.cls = RX11 ∧ yX11_precedent.cls ≠ "java/lang/invoke/MethodHandle" ∧ yX11_precedent.cls ≠ "java/lang/invoke/VarHandle" ∧ (parseMethodDescriptor yX11_precedent.desc).map (fun d => d.parameters.length) = some 1 := by decide +kernel
set_option maxHeartbeats 4000000 in
set_option maxRecDepth 100000 in
theorem lawc_34 {p : Program} {l : Launch} {e : Env} {s : State} {m : MethodId} {below : List Frame} {meth : Method} {c : Code} {b Ln : Nat} {xs : Nat → Int32} {D : va_G} {cy : Nat → ClassId} {a1 a2 : Nat → Nat} {u1 u2 : St} {i : Int32} {A : Nat → Prop} {Q : State → Prop} {H : Heap} {locs : List Loc} {ls : Array Slot} (C : Cx p s m #[Value.ref b] c code 4 RL D cy A) (hX : va_X b Ln xs s s.heap) (hbl : b < s.heap.size) (hbA : ¬ A b) (hi0 : 0 ≤ i.toInt) (hiL : i.toInt + 6 ≤ (Ln : Int)) (hLm : Ln ≤ 3072) (hJ1 : CI a1 u1) (hJ2 : MI a2 u2) (hT : fI u1 39 6 = fI u2 0 62) (kend : ∀ (b1 : Nat → Nat) (v1 v2 : St) (H : Heap) (locs : List Loc) (ls : Array Slot), b1 0 = a1 0 → CI b1 v1 → MI a2 v2 → fI v1 39 6 = fI v2 0 62 → Wo D A (cW cy b1 v1 ++ mW cy a2 v2) s.heap H locs → lv_has ls 4 [(0, .ref b), (1, .ref (a1 0)), (2, .ref (a2 0)), (3, .int i)] → W p l e room_1 s m #[Value.ref b] below meth c H locs 134 12281 Q (F0 m 1386 ls [])) (hO : Wo D A (cW cy a1 u1 ++ mW cy a2 u2) s.heap H locs) (hl : lv_has ls 4 [(0, .ref b), (1, .ref (a1 0)), (2, .ref (a2 0)), (3, .int i)]) : W p l e room_1 s m #[Value.ref b] below meth c H locs 134 12281 Q (F0 m 1044 ls []) := by
  obtain ⟨hx, hb, hml, hown, ht, hK, hA⟩ := id C
  refine lv_aload_n hx hb dL_law_1044 rfl (lv_at hl 1 rfl) ?_
  refine lv_aload_n hx hb dL_law_1045 rfl (lv_at hl 0 rfl) ?_
  refine lv_iload_n hx hb dL_law_1046 rfl (lv_at hl 3 rfl) ?_
  refine lv_iconst (v := 1) hx hb dL_law_1047 (by decide) ?_
  refine lv_iadd hx hb dL_law_1048 ?_
  refine lv_topi (fun z1 ez1 => ?_)
  have nz1 : z1.toInt = i.toInt + 1 := by rw [ez1]; exact i_add rfl rfl (by omega)
  refine va_sld hx hb hX hbl hbA hO.2.2 (i_in (X := i.toInt + 1) nz1 (by omega) (by omega)) dL_law_1049 ?_
  refine lv_topi (fun w2 ew2 => ?_)
  refine fVi (w := cW cy a1) (pl := mW cy a2 u2) (As := [.int w2]) (rest := []) C hO (T_X10_precedent l D cy a1 u1 hJ1 w2) (cwV 1 ht (gV wd_1215 wd_1216 wd_1217 wd_110 wd_1218) rfl rfl rfl hd_yX10_precedent ⟨Nat.le_of_ble_eq_true rfl, Nat.le_of_ble_eq_true rfl⟩) 0 rfl cW_0 rfl rfl hl.1 (Nat.le_of_ble_eq_true rfl) dL_law_1050 rfl ⟨Nat.le_of_ble_eq_true rfl, Nat.le_of_ble_eq_true rfl⟩ (fun r1 v1 H locs hp1 hO => ?_)
  obtain ⟨hI1, hk1⟩ := hp1
  refine lv_pop hx hb dL_law_1053 rfl ?_
  refine lv_aload_n hx hb dL_law_1054 rfl (lv_at hl 2 rfl) ?_
  refine lv_aload_n hx hb dL_law_1055 rfl (lv_at hl 0 rfl) ?_
  refine lv_iload_n hx hb dL_law_1056 rfl (lv_at hl 3 rfl) ?_
  refine lv_iconst (v := 1) hx hb dL_law_1057 (by decide) ?_
  refine lv_iadd hx hb dL_law_1058 ?_
  refine lv_topi (fun z3 ez3 => ?_)
  have nz3 : z3.toInt = i.toInt + 1 := by rw [ez3]; exact i_add rfl rfl (by omega)
  refine va_sld hx hb hX hbl hbA hO.2.2 (i_in (X := i.toInt + 1) nz3 (by omega) (by omega)) dL_law_1059 ?_
  refine lv_topi (fun w4 ew4 => ?_)
  have hO : Wo D A (mW cy a2 u2 ++ cW cy a1 v1) s.heap H locs := Wo.swap (a := []) hO
  refine fVi (w := mW cy a2) (pl := cW cy a1 v1) (As := [.int w4]) (rest := []) C hO (T_X11_precedent l D cy a2 u2 hJ2 w4) (cwV 1 ht (gV wd_1916 wd_1917 wd_1918 wd_121 wd_1919) rfl rfl rfl hd_yX11_precedent ⟨Nat.le_of_ble_eq_true rfl, Nat.le_of_ble_eq_true rfl⟩) 0 rfl mW_0 rfl rfl hl.1 (Nat.le_of_ble_eq_true rfl) dL_law_1060 rfl ⟨Nat.le_of_ble_eq_true rfl, Nat.le_of_ble_eq_true rfl⟩ (fun r2 v2 H locs hp2 hO => ?_)
  obtain ⟨hI2, hk2⟩ := hp2
  refine lv_pop hx hb dL_law_1063 rfl ?_
  refine lv_goto (tgt := 1386) hx hb dL_law_1064 (by decide) ?_
  exact kend a1 v1 v2 H locs ls (rfl) hI1 hI2 (Eq.trans (hk1) (Eq.trans hT (Eq.symm ((Km3_I62 hk2))))) (Wo.swap (a := []) hO) hl
theorem wd_1223 : (Cond.methodLink "WebCourtLaw" (158 : Nat) ⟨"WebCourt", "odds", "(II)I"⟩) ∈ gtb := gtb_c5 154 (by decide +kernel) rfl
theorem wd_1224 : (Cond.instanceMethod ⟨"WebCourt", "odds", "(II)I"⟩) ∈ gtb := gtb_c5 155 (by decide +kernel) rfl
theorem wd_1225 : (Cond.selects "WebCourt" ⟨"WebCourt", "odds", "(II)I"⟩ ⟨"WebCourt", "odds", "(II)I"⟩) ∈ gtb := gtb_c5 156 (by decide +kernel) rfl
theorem hd_yX10_odds : yX10_odds.cls = RX10 ∧ yX10_odds.cls ≠ "java/lang/invoke/MethodHandle" ∧ yX10_odds.cls ≠ "java/lang/invoke/VarHandle" ∧ (parseMethodDescriptor yX10_odds.desc).map (fun d => d.parameters.length) = some 2 := by decide +kernel
theorem wd_1971 : (Cond.methodLink "WebCourtLaw" (161 : Nat) ⟨"WebCourtModel", "odds", "(II)I"⟩) ∈ gtb := gtb_c8 182 (by decide +kernel) rfl
theorem wd_1972 : (Cond.instanceMethod ⟨"WebCourtModel", "odds", "(II)I"⟩) ∈ gtb := gtb_c8 183 (by decide +kernel) rfl
theorem wd_1973 : (Cond.selects "WebCourtModel" ⟨"WebCourtModel", "odds", "(II)I"⟩ ⟨"WebCourtModel", "odds", "(II)I"⟩) ∈ gtb := gtb_c8 184 (by decide +kernel) rfl
theorem hd_yX11_odds : yX11_odds.cls = RX11 ∧ yX11_odds.cls ≠ "java/lang/invoke/MethodHandle" ∧ yX11_odds.cls ≠ "java/lang/invoke/VarHandle" ∧ (parseMethodDescriptor yX11_odds.desc).map (fun d => d.parameters.length) = some 2 := by decide +kernel
set_option maxHeartbeats 4000000 in
set_option maxRecDepth 100000 in
theorem lawc_35 {p : Program} {l : Launch} {e : Env} {s : State} {m : MethodId} {below : List Frame} {meth : Method} {c : Code} {b Ln : Nat} {xs : Nat → Int32} {D : va_G} {cy : Nat → ClassId} {a1 a2 : Nat → Nat} {u1 u2 : St} {i : Int32} {A : Nat → Prop} {Q : State → Prop} {H : Heap} {locs : List Loc} {ls : Array Slot} (C : Cx p s m #[Value.ref b] c code 4 RL D cy A) (hX : va_X b Ln xs s s.heap) (hbl : b < s.heap.size) (hbA : ¬ A b) (hi0 : 0 ≤ i.toInt) (hiL : i.toInt + 6 ≤ (Ln : Int)) (hLm : Ln ≤ 3072) (hJ1 : CI a1 u1) (hJ2 : MI a2 u2) (hT : fI u1 39 6 = fI u2 0 62) (kend : ∀ (b1 : Nat → Nat) (v1 v2 : St) (H : Heap) (locs : List Loc) (ls : Array Slot), b1 0 = a1 0 → CI b1 v1 → MI a2 v2 → fI v1 39 6 = fI v2 0 62 → Wo D A (cW cy b1 v1 ++ mW cy a2 v2) s.heap H locs → lv_has ls 4 [(0, .ref b), (1, .ref (a1 0)), (2, .ref (a2 0)), (3, .int i)] → W p l e room_1 s m #[Value.ref b] below meth c H locs 134 12281 Q (F0 m 1386 ls [])) (hO : Wo D A (cW cy a1 u1 ++ mW cy a2 u2) s.heap H locs) (hl : lv_has ls 4 [(0, .ref b), (1, .ref (a1 0)), (2, .ref (a2 0)), (3, .int i)]) : W p l e room_1 s m #[Value.ref b] below meth c H locs 134 12281 Q (F0 m 1067 ls []) := by
  obtain ⟨hx, hb, hml, hown, ht, hK, hA⟩ := id C
  refine lv_aload_n hx hb dL_law_1067 rfl (lv_at hl 1 rfl) ?_
  refine lv_aload_n hx hb dL_law_1068 rfl (lv_at hl 0 rfl) ?_
  refine lv_iload_n hx hb dL_law_1069 rfl (lv_at hl 3 rfl) ?_
  refine lv_iconst (v := 1) hx hb dL_law_1070 (by decide) ?_
  refine lv_iadd hx hb dL_law_1071 ?_
  refine lv_topi (fun z1 ez1 => ?_)
  have nz1 : z1.toInt = i.toInt + 1 := by rw [ez1]; exact i_add rfl rfl (by omega)
  refine va_sld hx hb hX hbl hbA hO.2.2 (i_in (X := i.toInt + 1) nz1 (by omega) (by omega)) dL_law_1072 ?_
  refine lv_topi (fun w2 ew2 => ?_)
  refine lv_aload_n hx hb dL_law_1073 rfl (lv_at hl 0 rfl) ?_
  refine lv_iload_n hx hb dL_law_1074 rfl (lv_at hl 3 rfl) ?_
  refine lv_iconst (v := 2) hx hb dL_law_1075 (by decide) ?_
  refine lv_iadd hx hb dL_law_1076 ?_
  refine lv_topi (fun z3 ez3 => ?_)
  have nz3 : z3.toInt = i.toInt + 2 := by rw [ez3]; exact i_add rfl rfl (by omega)
  refine va_sld hx hb hX hbl hbA hO.2.2 (i_in (X := i.toInt + 2) nz3 (by omega) (by omega)) dL_law_1077 ?_
  refine lv_topi (fun w4 ew4 => ?_)
  refine fVi (w := cW cy a1) (pl := mW cy a2 u2) (As := [.int w2, .int w4]) (rest := []) C hO (T_X10_odds l D cy a1 u1 hJ1 w2 w4) (cwV 2 ht (gV wd_1223 wd_1224 wd_1225 wd_110 wd_1226) rfl rfl rfl hd_yX10_odds ⟨Nat.le_of_ble_eq_true rfl, Nat.le_of_ble_eq_true rfl⟩) 0 rfl cW_0 rfl rfl hl.1 (Nat.le_of_ble_eq_true rfl) dL_law_1078 rfl ⟨Nat.le_of_ble_eq_true rfl, Nat.le_of_ble_eq_true rfl⟩ (fun r1 v1 H locs hp1 hO => ?_)
  have hu := hp1
  rw [hu] at hO
  refine lv_pop hx hb dL_law_1081 rfl ?_
  refine lv_aload_n hx hb dL_law_1082 rfl (lv_at hl 2 rfl) ?_
  refine lv_aload_n hx hb dL_law_1083 rfl (lv_at hl 0 rfl) ?_
  refine lv_iload_n hx hb dL_law_1084 rfl (lv_at hl 3 rfl) ?_
  refine lv_iconst (v := 1) hx hb dL_law_1085 (by decide) ?_
  refine lv_iadd hx hb dL_law_1086 ?_
  refine lv_topi (fun z5 ez5 => ?_)
  have nz5 : z5.toInt = i.toInt + 1 := by rw [ez5]; exact i_add rfl rfl (by omega)
  refine va_sld hx hb hX hbl hbA hO.2.2 (i_in (X := i.toInt + 1) nz5 (by omega) (by omega)) dL_law_1087 ?_
  refine lv_topi (fun w6 ew6 => ?_)
  refine lv_aload_n hx hb dL_law_1088 rfl (lv_at hl 0 rfl) ?_
  refine lv_iload_n hx hb dL_law_1089 rfl (lv_at hl 3 rfl) ?_
  refine lv_iconst (v := 2) hx hb dL_law_1090 (by decide) ?_
  refine lv_iadd hx hb dL_law_1091 ?_
  refine lv_topi (fun z7 ez7 => ?_)
  have nz7 : z7.toInt = i.toInt + 2 := by rw [ez7]; exact i_add rfl rfl (by omega)
  refine va_sld hx hb hX hbl hbA hO.2.2 (i_in (X := i.toInt + 2) nz7 (by omega) (by omega)) dL_law_1092 ?_
  refine lv_topi (fun w8 ew8 => ?_)
  have hO : Wo D A (mW cy a2 u2 ++ cW cy a1 u1) s.heap H locs := Wo.swap (a := []) hO
  refine fVi (w := mW cy a2) (pl := cW cy a1 u1) (As := [.int w6, .int w8]) (rest := []) C hO (T_X11_odds l D cy a2 u2 hJ2 w6 w8) (cwV 2 ht (gV wd_1971 wd_1972 wd_1973 wd_121 wd_1974) rfl rfl rfl hd_yX11_odds ⟨Nat.le_of_ble_eq_true rfl, Nat.le_of_ble_eq_true rfl⟩) 0 rfl mW_0 rfl rfl hl.1 (Nat.le_of_ble_eq_true rfl) dL_law_1093 rfl ⟨Nat.le_of_ble_eq_true rfl, Nat.le_of_ble_eq_true rfl⟩ (fun r2 v2 H locs hp2 hO => ?_)
  have hu := hp2
  rw [hu] at hO
  refine lv_pop hx hb dL_law_1096 rfl ?_
  refine lv_goto (tgt := 1386) hx hb dL_law_1097 (by decide) ?_
  exact kend a1 u1 u2 H locs ls (rfl) hJ1 hJ2 (Eq.trans (rfl) (Eq.trans hT (Eq.symm (rfl)))) (Wo.swap (a := []) hO) hl
theorem wd_1234 : (Cond.methodLink "WebCourtLaw" (162 : Nat) ⟨"WebCourt", "lies", "(I)I"⟩) ∈ gtb := gtb_c5 165 (by decide +kernel) rfl
theorem wd_1235 : (Cond.instanceMethod ⟨"WebCourt", "lies", "(I)I"⟩) ∈ gtb := gtb_c5 166 (by decide +kernel) rfl
theorem wd_1236 : (Cond.selects "WebCourt" ⟨"WebCourt", "lies", "(I)I"⟩ ⟨"WebCourt", "lies", "(I)I"⟩) ∈ gtb := gtb_c5 167 (by decide +kernel) rfl
theorem hd_yX10_lies : yX10_lies.cls = RX10 ∧ yX10_lies.cls ≠ "java/lang/invoke/MethodHandle" ∧ yX10_lies.cls ≠ "java/lang/invoke/VarHandle" ∧ (parseMethodDescriptor yX10_lies.desc).map (fun d => d.parameters.length) = some 1 := by decide +kernel
theorem wd_1860 : (Cond.methodLink "WebCourtLaw" (165 : Nat) ⟨"WebCourtModel", "lies", "(I)I"⟩) ∈ gtb := gtb_c8 71 (by decide +kernel) rfl
theorem wd_1861 : (Cond.instanceMethod ⟨"WebCourtModel", "lies", "(I)I"⟩) ∈ gtb := gtb_c8 72 (by decide +kernel) rfl
theorem wd_1862 : (Cond.selects "WebCourtModel" ⟨"WebCourtModel", "lies", "(I)I"⟩ ⟨"WebCourtModel", "lies", "(I)I"⟩) ∈ gtb := gtb_c8 73 (by decide +kernel) rfl
theorem hd_yX11_lies : yX11_lies.cls = RX11 ∧ yX11_lies.cls ≠ "java/lang/invoke/MethodHandle" ∧ yX11_lies.cls ≠ "java/lang/invoke/VarHandle" ∧ (parseMethodDescriptor yX11_lies.desc).map (fun d => d.parameters.length) = some 1 := by decide +kernel
set_option maxHeartbeats 4000000 in
set_option maxRecDepth 100000 in
theorem lawc_36 {p : Program} {l : Launch} {e : Env} {s : State} {m : MethodId} {below : List Frame} {meth : Method} {c : Code} {b Ln : Nat} {xs : Nat → Int32} {D : va_G} {cy : Nat → ClassId} {a1 a2 : Nat → Nat} {u1 u2 : St} {i : Int32} {A : Nat → Prop} {Q : State → Prop} {H : Heap} {locs : List Loc} {ls : Array Slot} (C : Cx p s m #[Value.ref b] c code 4 RL D cy A) (hX : va_X b Ln xs s s.heap) (hbl : b < s.heap.size) (hbA : ¬ A b) (hi0 : 0 ≤ i.toInt) (hiL : i.toInt + 6 ≤ (Ln : Int)) (hLm : Ln ≤ 3072) (hJ1 : CI a1 u1) (hJ2 : MI a2 u2) (hT : fI u1 39 6 = fI u2 0 62) (kend : ∀ (b1 : Nat → Nat) (v1 v2 : St) (H : Heap) (locs : List Loc) (ls : Array Slot), b1 0 = a1 0 → CI b1 v1 → MI a2 v2 → fI v1 39 6 = fI v2 0 62 → Wo D A (cW cy b1 v1 ++ mW cy a2 v2) s.heap H locs → lv_has ls 4 [(0, .ref b), (1, .ref (a1 0)), (2, .ref (a2 0)), (3, .int i)] → W p l e room_1 s m #[Value.ref b] below meth c H locs 134 12281 Q (F0 m 1386 ls [])) (hO : Wo D A (cW cy a1 u1 ++ mW cy a2 u2) s.heap H locs) (hl : lv_has ls 4 [(0, .ref b), (1, .ref (a1 0)), (2, .ref (a2 0)), (3, .int i)]) : W p l e room_1 s m #[Value.ref b] below meth c H locs 134 12281 Q (F0 m 1100 ls []) := by
  obtain ⟨hx, hb, hml, hown, ht, hK, hA⟩ := id C
  refine lv_aload_n hx hb dL_law_1100 rfl (lv_at hl 1 rfl) ?_
  refine lv_aload_n hx hb dL_law_1101 rfl (lv_at hl 0 rfl) ?_
  refine lv_iload_n hx hb dL_law_1102 rfl (lv_at hl 3 rfl) ?_
  refine lv_iconst (v := 1) hx hb dL_law_1103 (by decide) ?_
  refine lv_iadd hx hb dL_law_1104 ?_
  refine lv_topi (fun z1 ez1 => ?_)
  have nz1 : z1.toInt = i.toInt + 1 := by rw [ez1]; exact i_add rfl rfl (by omega)
  refine va_sld hx hb hX hbl hbA hO.2.2 (i_in (X := i.toInt + 1) nz1 (by omega) (by omega)) dL_law_1105 ?_
  refine lv_topi (fun w2 ew2 => ?_)
  refine fVi (w := cW cy a1) (pl := mW cy a2 u2) (As := [.int w2]) (rest := []) C hO (T_X10_lies l D cy a1 u1 hJ1 w2) (cwV 1 ht (gV wd_1234 wd_1235 wd_1236 wd_110 wd_1237) rfl rfl rfl hd_yX10_lies ⟨Nat.le_of_ble_eq_true rfl, Nat.le_of_ble_eq_true rfl⟩) 0 rfl cW_0 rfl rfl hl.1 (Nat.le_of_ble_eq_true rfl) dL_law_1106 rfl ⟨Nat.le_of_ble_eq_true rfl, Nat.le_of_ble_eq_true rfl⟩ (fun r1 v1 H locs hp1 hO => ?_)
  have hu := hp1
  rw [hu] at hO
  refine lv_pop hx hb dL_law_1109 rfl ?_
  refine lv_aload_n hx hb dL_law_1110 rfl (lv_at hl 2 rfl) ?_
  refine lv_aload_n hx hb dL_law_1111 rfl (lv_at hl 0 rfl) ?_
  refine lv_iload_n hx hb dL_law_1112 rfl (lv_at hl 3 rfl) ?_
  refine lv_iconst (v := 1) hx hb dL_law_1113 (by decide) ?_
  refine lv_iadd hx hb dL_law_1114 ?_
  refine lv_topi (fun z3 ez3 => ?_)
  have nz3 : z3.toInt = i.toInt + 1 := by rw [ez3]; exact i_add rfl rfl (by omega)
  refine va_sld hx hb hX hbl hbA hO.2.2 (i_in (X := i.toInt + 1) nz3 (by omega) (by omega)) dL_law_1115 ?_
  refine lv_topi (fun w4 ew4 => ?_)
  have hO : Wo D A (mW cy a2 u2 ++ cW cy a1 u1) s.heap H locs := Wo.swap (a := []) hO
  refine fVi (w := mW cy a2) (pl := cW cy a1 u1) (As := [.int w4]) (rest := []) C hO (T_X11_lies l D cy a2 u2 hJ2 w4) (cwV 1 ht (gV wd_1860 wd_1861 wd_1862 wd_121 wd_1863) rfl rfl rfl hd_yX11_lies ⟨Nat.le_of_ble_eq_true rfl, Nat.le_of_ble_eq_true rfl⟩) 0 rfl mW_0 rfl rfl hl.1 (Nat.le_of_ble_eq_true rfl) dL_law_1116 rfl ⟨Nat.le_of_ble_eq_true rfl, Nat.le_of_ble_eq_true rfl⟩ (fun r2 v2 H locs hp2 hO => ?_)
  have hu := hp2
  rw [hu] at hO
  refine lv_pop hx hb dL_law_1119 rfl ?_
  refine lv_goto (tgt := 1386) hx hb dL_law_1120 (by decide) ?_
  exact kend a1 u1 u2 H locs ls (rfl) hJ1 hJ2 (Eq.trans (rfl) (Eq.trans hT (Eq.symm (rfl)))) (Wo.swap (a := []) hO) hl
theorem wd_1238 : (Cond.methodLink "WebCourtLaw" (166 : Nat) ⟨"WebCourt", "heard", "(IIZ)I"⟩) ∈ gtb := gtb_c5 169 (by decide +kernel) rfl
theorem wd_1239 : (Cond.instanceMethod ⟨"WebCourt", "heard", "(IIZ)I"⟩) ∈ gtb := gtb_c5 170 (by decide +kernel) rfl
theorem wd_1240 : (Cond.selects "WebCourt" ⟨"WebCourt", "heard", "(IIZ)I"⟩ ⟨"WebCourt", "heard", "(IIZ)I"⟩) ∈ gtb := gtb_c5 171 (by decide +kernel) rfl
theorem hd_yX10_heard : yX10_heard.cls = RX10 ∧ yX10_heard.cls ≠ "java/lang/invoke/MethodHandle" ∧ yX10_heard.cls ≠ "java/lang/invoke/VarHandle" ∧ (parseMethodDescriptor yX10_heard.desc).map (fun d => d.parameters.length) = some 3 := by decide +kernel
theorem wd_1978 : (Cond.methodLink "WebCourtLaw" (170 : Nat) ⟨"WebCourtModel", "heard", "(IIZ)I"⟩) ∈ gtb := gtb_c8 189 (by decide +kernel) rfl
theorem wd_1979 : (Cond.instanceMethod ⟨"WebCourtModel", "heard", "(IIZ)I"⟩) ∈ gtb := gtb_c8 190 (by decide +kernel) rfl
theorem wd_1980 : (Cond.selects "WebCourtModel" ⟨"WebCourtModel", "heard", "(IIZ)I"⟩ ⟨"WebCourtModel", "heard", "(IIZ)I"⟩) ∈ gtb := gtb_c8 191 (by decide +kernel) rfl
theorem hd_yX11_heard : yX11_heard.cls = RX11 ∧ yX11_heard.cls ≠ "java/lang/invoke/MethodHandle" ∧ yX11_heard.cls ≠ "java/lang/invoke/VarHandle" ∧ (parseMethodDescriptor yX11_heard.desc).map (fun d => d.parameters.length) = some 3 := by decide +kernel
theorem Km19_I62 {u v : St} (h : Km19 u v) : fI v 0 62 = fI u 0 62 := h.2.2.2.2.2.2.2.2.2.2.2.2.2.2.2.2.2.2.2.2.2.1
set_option maxHeartbeats 4000000 in
set_option maxRecDepth 100000 in
theorem lawc_37 {p : Program} {l : Launch} {e : Env} {s : State} {m : MethodId} {below : List Frame} {meth : Method} {c : Code} {b Ln : Nat} {xs : Nat → Int32} {D : va_G} {cy : Nat → ClassId} {a1 a2 : Nat → Nat} {u1 u2 : St} {i : Int32} {A : Nat → Prop} {Q : State → Prop} {H : Heap} {locs : List Loc} {ls : Array Slot} (C : Cx p s m #[Value.ref b] c code 4 RL D cy A) (hX : va_X b Ln xs s s.heap) (hbl : b < s.heap.size) (hbA : ¬ A b) (hi0 : 0 ≤ i.toInt) (hiL : i.toInt + 6 ≤ (Ln : Int)) (hLm : Ln ≤ 3072) (hJ1 : CI a1 u1) (hJ2 : MI a2 u2) (hT : fI u1 39 6 = fI u2 0 62) (kend : ∀ (b1 : Nat → Nat) (v1 v2 : St) (H : Heap) (locs : List Loc) (ls : Array Slot), b1 0 = a1 0 → CI b1 v1 → MI a2 v2 → fI v1 39 6 = fI v2 0 62 → Wo D A (cW cy b1 v1 ++ mW cy a2 v2) s.heap H locs → lv_has ls 4 [(0, .ref b), (1, .ref (a1 0)), (2, .ref (a2 0)), (3, .int i)] → W p l e room_1 s m #[Value.ref b] below meth c H locs 134 12281 Q (F0 m 1386 ls [])) (hO : Wo D A (cW cy a1 u1 ++ mW cy a2 u2) s.heap H locs) (hl : lv_has ls 4 [(0, .ref b), (1, .ref (a1 0)), (2, .ref (a2 0)), (3, .int i)]) : W p l e room_1 s m #[Value.ref b] below meth c H locs 134 12281 Q (F0 m 1123 ls []) := by
  obtain ⟨hx, hb, hml, hown, ht, hK, hA⟩ := id C
  refine lv_aload_n hx hb dL_law_1123 rfl (lv_at hl 1 rfl) ?_
  refine lv_aload_n hx hb dL_law_1124 rfl (lv_at hl 0 rfl) ?_
  refine lv_iload_n hx hb dL_law_1125 rfl (lv_at hl 3 rfl) ?_
  refine lv_iconst (v := 1) hx hb dL_law_1126 (by decide) ?_
  refine lv_iadd hx hb dL_law_1127 ?_
  refine lv_topi (fun z1 ez1 => ?_)
  have nz1 : z1.toInt = i.toInt + 1 := by rw [ez1]; exact i_add rfl rfl (by omega)
  refine va_sld hx hb hX hbl hbA hO.2.2 (i_in (X := i.toInt + 1) nz1 (by omega) (by omega)) dL_law_1128 ?_
  refine lv_topi (fun w2 ew2 => ?_)
  refine lv_aload_n hx hb dL_law_1129 rfl (lv_at hl 0 rfl) ?_
  refine lv_iload_n hx hb dL_law_1130 rfl (lv_at hl 3 rfl) ?_
  refine lv_iconst (v := 2) hx hb dL_law_1131 (by decide) ?_
  refine lv_iadd hx hb dL_law_1132 ?_
  refine lv_topi (fun z3 ez3 => ?_)
  have nz3 : z3.toInt = i.toInt + 2 := by rw [ez3]; exact i_add rfl rfl (by omega)
  refine va_sld hx hb hX hbl hbA hO.2.2 (i_in (X := i.toInt + 2) nz3 (by omega) (by omega)) dL_law_1133 ?_
  refine lv_topi (fun w4 ew4 => ?_)
  refine lv_aload_n hx hb dL_law_1134 rfl (lv_at hl 0 rfl) ?_
  refine lv_iload_n hx hb dL_law_1135 rfl (lv_at hl 3 rfl) ?_
  refine lv_iconst (v := 3) hx hb dL_law_1136 (by decide) ?_
  refine lv_iadd hx hb dL_law_1137 ?_
  refine lv_topi (fun z5 ez5 => ?_)
  have nz5 : z5.toInt = i.toInt + 3 := by rw [ez5]; exact i_add rfl rfl (by omega)
  refine va_sld hx hb hX hbl hbA hO.2.2 (i_in (X := i.toInt + 3) nz5 (by omega) (by omega)) dL_law_1138 ?_
  refine lv_topi (fun w6 ew6 => ?_)
  refine bs_eq (tgt := 1146) (X := w6.toInt) hx hb dL_law_1139 (by decide) rfl (fun c0 => ?_) (fun c0 => ?_)
  · refine lv_iconst (v := 0) hx hb dL_law_1146 (by decide) ?_
    refine fVi (w := cW cy a1) (pl := mW cy a2 u2) (As := [.int w2, .int w4, .int 0]) (rest := []) C hO (T_X10_heard l D cy a1 u1 hJ1 w2 w4 0) (cwV 3 ht (gV wd_1238 wd_1239 wd_1240 wd_110 wd_1241) rfl rfl rfl hd_yX10_heard ⟨Nat.le_of_ble_eq_true rfl, Nat.le_of_ble_eq_true rfl⟩) 0 rfl cW_0 rfl rfl hl.1 (Nat.le_of_ble_eq_true rfl) dL_law_1147 rfl ⟨Nat.le_of_ble_eq_true rfl, Nat.le_of_ble_eq_true rfl⟩ (fun r1 v1 H locs hp1 hO => ?_)
    obtain ⟨hI1, hk1⟩ := hp1
    refine lv_pop hx hb dL_law_1150 rfl ?_
    refine lv_aload_n hx hb dL_law_1151 rfl (lv_at hl 2 rfl) ?_
    refine lv_aload_n hx hb dL_law_1152 rfl (lv_at hl 0 rfl) ?_
    refine lv_iload_n hx hb dL_law_1153 rfl (lv_at hl 3 rfl) ?_
    refine lv_iconst (v := 1) hx hb dL_law_1154 (by decide) ?_
    refine lv_iadd hx hb dL_law_1155 ?_
    refine lv_topi (fun z7 ez7 => ?_)
    have nz7 : z7.toInt = i.toInt + 1 := by rw [ez7]; exact i_add rfl rfl (by omega)
    refine va_sld hx hb hX hbl hbA hO.2.2 (i_in (X := i.toInt + 1) nz7 (by omega) (by omega)) dL_law_1156 ?_
    refine lv_topi (fun w8 ew8 => ?_)
    refine lv_aload_n hx hb dL_law_1157 rfl (lv_at hl 0 rfl) ?_
    refine lv_iload_n hx hb dL_law_1158 rfl (lv_at hl 3 rfl) ?_
    refine lv_iconst (v := 2) hx hb dL_law_1159 (by decide) ?_
    refine lv_iadd hx hb dL_law_1160 ?_
    refine lv_topi (fun z9 ez9 => ?_)
    have nz9 : z9.toInt = i.toInt + 2 := by rw [ez9]; exact i_add rfl rfl (by omega)
    refine va_sld hx hb hX hbl hbA hO.2.2 (i_in (X := i.toInt + 2) nz9 (by omega) (by omega)) dL_law_1161 ?_
    refine lv_topi (fun w10 ew10 => ?_)
    refine lv_aload_n hx hb dL_law_1162 rfl (lv_at hl 0 rfl) ?_
    refine lv_iload_n hx hb dL_law_1163 rfl (lv_at hl 3 rfl) ?_
    refine lv_iconst (v := 3) hx hb dL_law_1164 (by decide) ?_
    refine lv_iadd hx hb dL_law_1165 ?_
    refine lv_topi (fun z11 ez11 => ?_)
    have nz11 : z11.toInt = i.toInt + 3 := by rw [ez11]; exact i_add rfl rfl (by omega)
    refine va_sld hx hb hX hbl hbA hO.2.2 (i_in (X := i.toInt + 3) nz11 (by omega) (by omega)) dL_law_1166 ?_
    refine lv_topi (fun w12 ew12 => ?_)
    refine bs_eq (tgt := 1174) (X := w12.toInt) hx hb dL_law_1167 (by decide) rfl (fun c0 => ?_) (fun c0 => ?_)
    · refine lv_iconst (v := 0) hx hb dL_law_1174 (by decide) ?_
      have hO : Wo D A (mW cy a2 u2 ++ cW cy a1 v1) s.heap H locs := Wo.swap (a := []) hO
      refine fVi (w := mW cy a2) (pl := cW cy a1 v1) (As := [.int w8, .int w10, .int 0]) (rest := []) C hO (T_X11_heard l D cy a2 u2 hJ2 w8 w10 0) (cwV 3 ht (gV wd_1978 wd_1979 wd_1980 wd_121 wd_1981) rfl rfl rfl hd_yX11_heard ⟨Nat.le_of_ble_eq_true rfl, Nat.le_of_ble_eq_true rfl⟩) 0 rfl mW_0 rfl rfl hl.1 (Nat.le_of_ble_eq_true rfl) dL_law_1175 rfl ⟨Nat.le_of_ble_eq_true rfl, Nat.le_of_ble_eq_true rfl⟩ (fun r2 v2 H locs hp2 hO => ?_)
      obtain ⟨hI2, hk2⟩ := hp2
      refine lv_pop hx hb dL_law_1178 rfl ?_
      refine lv_goto (tgt := 1386) hx hb dL_law_1179 (by decide) ?_
      exact kend a1 v1 v2 H locs ls (rfl) hI1 hI2 (Eq.trans (hk1) (Eq.trans hT (Eq.symm ((Km19_I62 hk2))))) (Wo.swap (a := []) hO) hl
    · refine lv_iconst (v := 1) hx hb dL_law_1170 (by decide) ?_
      refine lv_goto (tgt := 1175) hx hb dL_law_1171 (by decide) ?_
      have hO : Wo D A (mW cy a2 u2 ++ cW cy a1 v1) s.heap H locs := Wo.swap (a := []) hO
      refine fVi (w := mW cy a2) (pl := cW cy a1 v1) (As := [.int w8, .int w10, .int 1]) (rest := []) C hO (T_X11_heard l D cy a2 u2 hJ2 w8 w10 1) (cwV 3 ht (gV wd_1978 wd_1979 wd_1980 wd_121 wd_1981) rfl rfl rfl hd_yX11_heard ⟨Nat.le_of_ble_eq_true rfl, Nat.le_of_ble_eq_true rfl⟩) 0 rfl mW_0 rfl rfl hl.1 (Nat.le_of_ble_eq_true rfl) dL_law_1175 rfl ⟨Nat.le_of_ble_eq_true rfl, Nat.le_of_ble_eq_true rfl⟩ (fun r2 v2 H locs hp2 hO => ?_)
      obtain ⟨hI2, hk2⟩ := hp2
      refine lv_pop hx hb dL_law_1178 rfl ?_
      refine lv_goto (tgt := 1386) hx hb dL_law_1179 (by decide) ?_
      exact kend a1 v1 v2 H locs ls (rfl) hI1 hI2 (Eq.trans (hk1) (Eq.trans hT (Eq.symm ((Km19_I62 hk2))))) (Wo.swap (a := []) hO) hl
  · refine lv_iconst (v := 1) hx hb dL_law_1142 (by decide) ?_
    refine lv_goto (tgt := 1147) hx hb dL_law_1143 (by decide) ?_
    refine fVi (w := cW cy a1) (pl := mW cy a2 u2) (As := [.int w2, .int w4, .int 1]) (rest := []) C hO (T_X10_heard l D cy a1 u1 hJ1 w2 w4 1) (cwV 3 ht (gV wd_1238 wd_1239 wd_1240 wd_110 wd_1241) rfl rfl rfl hd_yX10_heard ⟨Nat.le_of_ble_eq_true rfl, Nat.le_of_ble_eq_true rfl⟩) 0 rfl cW_0 rfl rfl hl.1 (Nat.le_of_ble_eq_true rfl) dL_law_1147 rfl ⟨Nat.le_of_ble_eq_true rfl, Nat.le_of_ble_eq_true rfl⟩ (fun r1 v1 H locs hp1 hO => ?_)
    obtain ⟨hI1, hk1⟩ := hp1
    refine lv_pop hx hb dL_law_1150 rfl ?_
    refine lv_aload_n hx hb dL_law_1151 rfl (lv_at hl 2 rfl) ?_
    refine lv_aload_n hx hb dL_law_1152 rfl (lv_at hl 0 rfl) ?_
    refine lv_iload_n hx hb dL_law_1153 rfl (lv_at hl 3 rfl) ?_
    refine lv_iconst (v := 1) hx hb dL_law_1154 (by decide) ?_
    refine lv_iadd hx hb dL_law_1155 ?_
    refine lv_topi (fun z7 ez7 => ?_)
    have nz7 : z7.toInt = i.toInt + 1 := by rw [ez7]; exact i_add rfl rfl (by omega)
    refine va_sld hx hb hX hbl hbA hO.2.2 (i_in (X := i.toInt + 1) nz7 (by omega) (by omega)) dL_law_1156 ?_
    refine lv_topi (fun w8 ew8 => ?_)
    refine lv_aload_n hx hb dL_law_1157 rfl (lv_at hl 0 rfl) ?_
    refine lv_iload_n hx hb dL_law_1158 rfl (lv_at hl 3 rfl) ?_
    refine lv_iconst (v := 2) hx hb dL_law_1159 (by decide) ?_
    refine lv_iadd hx hb dL_law_1160 ?_
    refine lv_topi (fun z9 ez9 => ?_)
    have nz9 : z9.toInt = i.toInt + 2 := by rw [ez9]; exact i_add rfl rfl (by omega)
    refine va_sld hx hb hX hbl hbA hO.2.2 (i_in (X := i.toInt + 2) nz9 (by omega) (by omega)) dL_law_1161 ?_
    refine lv_topi (fun w10 ew10 => ?_)
    refine lv_aload_n hx hb dL_law_1162 rfl (lv_at hl 0 rfl) ?_
    refine lv_iload_n hx hb dL_law_1163 rfl (lv_at hl 3 rfl) ?_
    refine lv_iconst (v := 3) hx hb dL_law_1164 (by decide) ?_
    refine lv_iadd hx hb dL_law_1165 ?_
    refine lv_topi (fun z11 ez11 => ?_)
    have nz11 : z11.toInt = i.toInt + 3 := by rw [ez11]; exact i_add rfl rfl (by omega)
    refine va_sld hx hb hX hbl hbA hO.2.2 (i_in (X := i.toInt + 3) nz11 (by omega) (by omega)) dL_law_1166 ?_
    refine lv_topi (fun w12 ew12 => ?_)
    refine bs_eq (tgt := 1174) (X := w12.toInt) hx hb dL_law_1167 (by decide) rfl (fun c0 => ?_) (fun c0 => ?_)
    · refine lv_iconst (v := 0) hx hb dL_law_1174 (by decide) ?_
      have hO : Wo D A (mW cy a2 u2 ++ cW cy a1 v1) s.heap H locs := Wo.swap (a := []) hO
      refine fVi (w := mW cy a2) (pl := cW cy a1 v1) (As := [.int w8, .int w10, .int 0]) (rest := []) C hO (T_X11_heard l D cy a2 u2 hJ2 w8 w10 0) (cwV 3 ht (gV wd_1978 wd_1979 wd_1980 wd_121 wd_1981) rfl rfl rfl hd_yX11_heard ⟨Nat.le_of_ble_eq_true rfl, Nat.le_of_ble_eq_true rfl⟩) 0 rfl mW_0 rfl rfl hl.1 (Nat.le_of_ble_eq_true rfl) dL_law_1175 rfl ⟨Nat.le_of_ble_eq_true rfl, Nat.le_of_ble_eq_true rfl⟩ (fun r2 v2 H locs hp2 hO => ?_)
      obtain ⟨hI2, hk2⟩ := hp2
      refine lv_pop hx hb dL_law_1178 rfl ?_
      refine lv_goto (tgt := 1386) hx hb dL_law_1179 (by decide) ?_
      exact kend a1 v1 v2 H locs ls (rfl) hI1 hI2 (Eq.trans (hk1) (Eq.trans hT (Eq.symm ((Km19_I62 hk2))))) (Wo.swap (a := []) hO) hl
    · refine lv_iconst (v := 1) hx hb dL_law_1170 (by decide) ?_
      refine lv_goto (tgt := 1175) hx hb dL_law_1171 (by decide) ?_
      have hO : Wo D A (mW cy a2 u2 ++ cW cy a1 v1) s.heap H locs := Wo.swap (a := []) hO
      refine fVi (w := mW cy a2) (pl := cW cy a1 v1) (As := [.int w8, .int w10, .int 1]) (rest := []) C hO (T_X11_heard l D cy a2 u2 hJ2 w8 w10 1) (cwV 3 ht (gV wd_1978 wd_1979 wd_1980 wd_121 wd_1981) rfl rfl rfl hd_yX11_heard ⟨Nat.le_of_ble_eq_true rfl, Nat.le_of_ble_eq_true rfl⟩) 0 rfl mW_0 rfl rfl hl.1 (Nat.le_of_ble_eq_true rfl) dL_law_1175 rfl ⟨Nat.le_of_ble_eq_true rfl, Nat.le_of_ble_eq_true rfl⟩ (fun r2 v2 H locs hp2 hO => ?_)
      obtain ⟨hI2, hk2⟩ := hp2
      refine lv_pop hx hb dL_law_1178 rfl ?_
      refine lv_goto (tgt := 1386) hx hb dL_law_1179 (by decide) ?_
      exact kend a1 v1 v2 H locs ls (rfl) hI1 hI2 (Eq.trans (hk1) (Eq.trans hT (Eq.symm ((Km19_I62 hk2))))) (Wo.swap (a := []) hO) hl
theorem wd_1246 : (Cond.methodLink "WebCourtLaw" (171 : Nat) ⟨"WebCourt", "untell", "(I)Z"⟩) ∈ gtb := gtb_c5 177 (by decide +kernel) rfl
theorem wd_1247 : (Cond.instanceMethod ⟨"WebCourt", "untell", "(I)Z"⟩) ∈ gtb := gtb_c5 178 (by decide +kernel) rfl
theorem wd_1248 : (Cond.selects "WebCourt" ⟨"WebCourt", "untell", "(I)Z"⟩ ⟨"WebCourt", "untell", "(I)Z"⟩) ∈ gtb := gtb_c5 179 (by decide +kernel) rfl
theorem hd_yX10_untell : yX10_untell.cls = RX10 ∧ yX10_untell.cls ≠ "java/lang/invoke/MethodHandle" ∧ yX10_untell.cls ≠ "java/lang/invoke/VarHandle" ∧ (parseMethodDescriptor yX10_untell.desc).map (fun d => d.parameters.length) = some 1 := by decide +kernel
theorem wd_1982 : (Cond.methodLink "WebCourtLaw" (175 : Nat) ⟨"WebCourtModel", "untell", "(I)Z"⟩) ∈ gtb := gtb_c8 193 (by decide +kernel) rfl
theorem wd_1983 : (Cond.instanceMethod ⟨"WebCourtModel", "untell", "(I)Z"⟩) ∈ gtb := gtb_c8 194 (by decide +kernel) rfl
theorem wd_1984 : (Cond.selects "WebCourtModel" ⟨"WebCourtModel", "untell", "(I)Z"⟩ ⟨"WebCourtModel", "untell", "(I)Z"⟩) ∈ gtb := gtb_c8 195 (by decide +kernel) rfl
theorem hd_yX11_untell : yX11_untell.cls = RX11 ∧ yX11_untell.cls ≠ "java/lang/invoke/MethodHandle" ∧ yX11_untell.cls ≠ "java/lang/invoke/VarHandle" ∧ (parseMethodDescriptor yX11_untell.desc).map (fun d => d.parameters.length) = some 1 := by decide +kernel
theorem Km20_I62 {u v : St} (h : Km20 u v) : fI v 0 62 = fI u 0 62 := h.2.2.2.2.2.2.2.2.2.2.2.2.2.2.2.2.2.2.2.2.2.2.1
set_option maxHeartbeats 4000000 in
set_option maxRecDepth 100000 in
theorem lawc_38 {p : Program} {l : Launch} {e : Env} {s : State} {m : MethodId} {below : List Frame} {meth : Method} {c : Code} {b Ln : Nat} {xs : Nat → Int32} {D : va_G} {cy : Nat → ClassId} {a1 a2 : Nat → Nat} {u1 u2 : St} {i : Int32} {A : Nat → Prop} {Q : State → Prop} {H : Heap} {locs : List Loc} {ls : Array Slot} (C : Cx p s m #[Value.ref b] c code 4 RL D cy A) (hX : va_X b Ln xs s s.heap) (hbl : b < s.heap.size) (hbA : ¬ A b) (hi0 : 0 ≤ i.toInt) (hiL : i.toInt + 6 ≤ (Ln : Int)) (hLm : Ln ≤ 3072) (hJ1 : CI a1 u1) (hJ2 : MI a2 u2) (hT : fI u1 39 6 = fI u2 0 62) (kend : ∀ (b1 : Nat → Nat) (v1 v2 : St) (H : Heap) (locs : List Loc) (ls : Array Slot), b1 0 = a1 0 → CI b1 v1 → MI a2 v2 → fI v1 39 6 = fI v2 0 62 → Wo D A (cW cy b1 v1 ++ mW cy a2 v2) s.heap H locs → lv_has ls 4 [(0, .ref b), (1, .ref (a1 0)), (2, .ref (a2 0)), (3, .int i)] → W p l e room_1 s m #[Value.ref b] below meth c H locs 134 12281 Q (F0 m 1386 ls [])) (hO : Wo D A (cW cy a1 u1 ++ mW cy a2 u2) s.heap H locs) (hl : lv_has ls 4 [(0, .ref b), (1, .ref (a1 0)), (2, .ref (a2 0)), (3, .int i)]) : W p l e room_1 s m #[Value.ref b] below meth c H locs 134 12281 Q (F0 m 1182 ls []) := by
  obtain ⟨hx, hb, hml, hown, ht, hK, hA⟩ := id C
  refine lv_aload_n hx hb dL_law_1182 rfl (lv_at hl 1 rfl) ?_
  refine lv_aload_n hx hb dL_law_1183 rfl (lv_at hl 0 rfl) ?_
  refine lv_iload_n hx hb dL_law_1184 rfl (lv_at hl 3 rfl) ?_
  refine lv_iconst (v := 1) hx hb dL_law_1185 (by decide) ?_
  refine lv_iadd hx hb dL_law_1186 ?_
  refine lv_topi (fun z1 ez1 => ?_)
  have nz1 : z1.toInt = i.toInt + 1 := by rw [ez1]; exact i_add rfl rfl (by omega)
  refine va_sld hx hb hX hbl hbA hO.2.2 (i_in (X := i.toInt + 1) nz1 (by omega) (by omega)) dL_law_1187 ?_
  refine lv_topi (fun w2 ew2 => ?_)
  refine fVi (w := cW cy a1) (pl := mW cy a2 u2) (As := [.int w2]) (rest := []) C hO (T_X10_untell l D cy a1 u1 hJ1 w2) (cwV 1 ht (gV wd_1246 wd_1247 wd_1248 wd_110 wd_1249) rfl rfl rfl hd_yX10_untell ⟨Nat.le_of_ble_eq_true rfl, Nat.le_of_ble_eq_true rfl⟩) 0 rfl cW_0 rfl rfl hl.1 (Nat.le_of_ble_eq_true rfl) dL_law_1188 rfl ⟨Nat.le_of_ble_eq_true rfl, Nat.le_of_ble_eq_true rfl⟩ (fun r1 v1 H locs hp1 hO => ?_)
  obtain ⟨hr, hI1, hk1⟩ := hp1
  refine lv_pop hx hb dL_law_1191 rfl ?_
  refine lv_aload_n hx hb dL_law_1192 rfl (lv_at hl 2 rfl) ?_
  refine lv_aload_n hx hb dL_law_1193 rfl (lv_at hl 0 rfl) ?_
  refine lv_iload_n hx hb dL_law_1194 rfl (lv_at hl 3 rfl) ?_
  refine lv_iconst (v := 1) hx hb dL_law_1195 (by decide) ?_
  refine lv_iadd hx hb dL_law_1196 ?_
  refine lv_topi (fun z3 ez3 => ?_)
  have nz3 : z3.toInt = i.toInt + 1 := by rw [ez3]; exact i_add rfl rfl (by omega)
  refine va_sld hx hb hX hbl hbA hO.2.2 (i_in (X := i.toInt + 1) nz3 (by omega) (by omega)) dL_law_1197 ?_
  refine lv_topi (fun w4 ew4 => ?_)
  have hO : Wo D A (mW cy a2 u2 ++ cW cy a1 v1) s.heap H locs := Wo.swap (a := []) hO
  refine fVi (w := mW cy a2) (pl := cW cy a1 v1) (As := [.int w4]) (rest := []) C hO (T_X11_untell l D cy a2 u2 hJ2 w4) (cwV 1 ht (gV wd_1982 wd_1983 wd_1984 wd_121 wd_1985) rfl rfl rfl hd_yX11_untell ⟨Nat.le_of_ble_eq_true rfl, Nat.le_of_ble_eq_true rfl⟩) 0 rfl mW_0 rfl rfl hl.1 (Nat.le_of_ble_eq_true rfl) dL_law_1198 rfl ⟨Nat.le_of_ble_eq_true rfl, Nat.le_of_ble_eq_true rfl⟩ (fun r2 v2 H locs hp2 hO => ?_)
  obtain ⟨hr, hI2, hk2⟩ := hp2
  refine lv_pop hx hb dL_law_1201 rfl ?_
  refine lv_goto (tgt := 1386) hx hb dL_law_1202 (by decide) ?_
  exact kend a1 v1 v2 H locs ls (rfl) hI1 hI2 (Eq.trans (hk1) (Eq.trans hT (Eq.symm ((Km20_I62 hk2))))) (Wo.swap (a := []) hO) hl
theorem wd_1254 : (Cond.methodLink "WebCourtLaw" (176 : Nat) ⟨"WebCourt", "later", "(I)I"⟩) ∈ gtb := gtb_c5 185 (by decide +kernel) rfl
theorem wd_1255 : (Cond.instanceMethod ⟨"WebCourt", "later", "(I)I"⟩) ∈ gtb := gtb_c5 186 (by decide +kernel) rfl
theorem wd_1256 : (Cond.selects "WebCourt" ⟨"WebCourt", "later", "(I)I"⟩ ⟨"WebCourt", "later", "(I)I"⟩) ∈ gtb := gtb_c5 187 (by decide +kernel) rfl
theorem hd_yX10_later : yX10_later.cls = RX10 ∧ yX10_later.cls ≠ "java/lang/invoke/MethodHandle" ∧ yX10_later.cls ≠ "java/lang/invoke/VarHandle" ∧ (parseMethodDescriptor yX10_later.desc).map (fun d => d.parameters.length) = some 1 := by decide +kernel
theorem wd_1986 : (Cond.methodLink "WebCourtLaw" (179 : Nat) ⟨"WebCourtModel", "later", "(I)I"⟩) ∈ gtb := gtb_c8 197 (by decide +kernel) rfl
theorem wd_1987 : (Cond.instanceMethod ⟨"WebCourtModel", "later", "(I)I"⟩) ∈ gtb := gtb_c8 198 (by decide +kernel) rfl
theorem wd_1988 : (Cond.selects "WebCourtModel" ⟨"WebCourtModel", "later", "(I)I"⟩ ⟨"WebCourtModel", "later", "(I)I"⟩) ∈ gtb := gtb_c8 199 (by decide +kernel) rfl
theorem hd_yX11_later : yX11_later.cls = RX11 ∧ yX11_later.cls ≠ "java/lang/invoke/MethodHandle" ∧ yX11_later.cls ≠ "java/lang/invoke/VarHandle" ∧ (parseMethodDescriptor yX11_later.desc).map (fun d => d.parameters.length) = some 1 := by decide +kernel
set_option maxHeartbeats 4000000 in
set_option maxRecDepth 100000 in
theorem lawc_39 {p : Program} {l : Launch} {e : Env} {s : State} {m : MethodId} {below : List Frame} {meth : Method} {c : Code} {b Ln : Nat} {xs : Nat → Int32} {D : va_G} {cy : Nat → ClassId} {a1 a2 : Nat → Nat} {u1 u2 : St} {i : Int32} {A : Nat → Prop} {Q : State → Prop} {H : Heap} {locs : List Loc} {ls : Array Slot} (C : Cx p s m #[Value.ref b] c code 4 RL D cy A) (hX : va_X b Ln xs s s.heap) (hbl : b < s.heap.size) (hbA : ¬ A b) (hi0 : 0 ≤ i.toInt) (hiL : i.toInt + 6 ≤ (Ln : Int)) (hLm : Ln ≤ 3072) (hJ1 : CI a1 u1) (hJ2 : MI a2 u2) (hT : fI u1 39 6 = fI u2 0 62) (kend : ∀ (b1 : Nat → Nat) (v1 v2 : St) (H : Heap) (locs : List Loc) (ls : Array Slot), b1 0 = a1 0 → CI b1 v1 → MI a2 v2 → fI v1 39 6 = fI v2 0 62 → Wo D A (cW cy b1 v1 ++ mW cy a2 v2) s.heap H locs → lv_has ls 4 [(0, .ref b), (1, .ref (a1 0)), (2, .ref (a2 0)), (3, .int i)] → W p l e room_1 s m #[Value.ref b] below meth c H locs 134 12281 Q (F0 m 1386 ls [])) (hO : Wo D A (cW cy a1 u1 ++ mW cy a2 u2) s.heap H locs) (hl : lv_has ls 4 [(0, .ref b), (1, .ref (a1 0)), (2, .ref (a2 0)), (3, .int i)]) : W p l e room_1 s m #[Value.ref b] below meth c H locs 134 12281 Q (F0 m 1205 ls []) := by
  obtain ⟨hx, hb, hml, hown, ht, hK, hA⟩ := id C
  refine lv_aload_n hx hb dL_law_1205 rfl (lv_at hl 1 rfl) ?_
  refine lv_aload_n hx hb dL_law_1206 rfl (lv_at hl 0 rfl) ?_
  refine lv_iload_n hx hb dL_law_1207 rfl (lv_at hl 3 rfl) ?_
  refine lv_iconst (v := 1) hx hb dL_law_1208 (by decide) ?_
  refine lv_iadd hx hb dL_law_1209 ?_
  refine lv_topi (fun z1 ez1 => ?_)
  have nz1 : z1.toInt = i.toInt + 1 := by rw [ez1]; exact i_add rfl rfl (by omega)
  refine va_sld hx hb hX hbl hbA hO.2.2 (i_in (X := i.toInt + 1) nz1 (by omega) (by omega)) dL_law_1210 ?_
  refine lv_topi (fun w2 ew2 => ?_)
  refine fVi (w := cW cy a1) (pl := mW cy a2 u2) (As := [.int w2]) (rest := []) C hO (T_X10_later l D cy a1 u1 hJ1 w2) (cwV 1 ht (gV wd_1254 wd_1255 wd_1256 wd_110 wd_1257) rfl rfl rfl hd_yX10_later ⟨Nat.le_of_ble_eq_true rfl, Nat.le_of_ble_eq_true rfl⟩) 0 rfl cW_0 rfl rfl hl.1 (Nat.le_of_ble_eq_true rfl) dL_law_1211 rfl ⟨Nat.le_of_ble_eq_true rfl, Nat.le_of_ble_eq_true rfl⟩ (fun r1 v1 H locs hp1 hO => ?_)
  obtain ⟨hI1, hk1, hx01, hx11⟩ := hp1
  refine lv_aload_n hx hb dL_law_1214 rfl (lv_at hl 2 rfl) ?_
  refine lv_aload_n hx hb dL_law_1215 rfl (lv_at hl 0 rfl) ?_
  refine lv_iload_n hx hb dL_law_1216 rfl (lv_at hl 3 rfl) ?_
  refine lv_iconst (v := 1) hx hb dL_law_1217 (by decide) ?_
  refine lv_iadd hx hb dL_law_1218 ?_
  refine lv_topi (fun z3 ez3 => ?_)
  have nz3 : z3.toInt = i.toInt + 1 := by rw [ez3]; exact i_add rfl rfl (by omega)
  refine va_sld hx hb hX hbl hbA hO.2.2 (i_in (X := i.toInt + 1) nz3 (by omega) (by omega)) dL_law_1219 ?_
  refine lv_topi (fun w4 ew4 => ?_)
  have hO : Wo D A (mW cy a2 u2 ++ cW cy a1 v1) s.heap H locs := Wo.swap (a := []) hO
  refine fVi (w := mW cy a2) (pl := cW cy a1 v1) (As := [.int w4]) (rest := [.int r1]) C hO (T_X11_later l D cy a2 u2 hJ2 w4) (cwV 1 ht (gV wd_1986 wd_1987 wd_1988 wd_121 wd_1989) rfl rfl rfl hd_yX11_later ⟨Nat.le_of_ble_eq_true rfl, Nat.le_of_ble_eq_true rfl⟩) 0 rfl mW_0 rfl rfl hl.1 (Nat.le_of_ble_eq_true rfl) dL_law_1220 rfl ⟨Nat.le_of_ble_eq_true rfl, Nat.le_of_ble_eq_true rfl⟩ (fun r2 v2 H locs hp2 hO => ?_)
  obtain ⟨hI2, hk2, hx02, hx12⟩ := hp2
  have hw : w2 = w4 := by rw [ew2, ew4]; exact congrArg xs (congrArg Int32.toNatClampNeg (i32_eq.mpr (by omega)))
  have hrr : r1 = r2 := by rw [hx01, hx02, hT, hw]
  refine ct_eq (tgt := 1386) (X := r1.toInt) (Y := r2.toInt) hx hb dL_law_1223 (by decide) rfl rfl (by rw [hrr]) ?_
  exact kend a1 v1 v2 H locs ls (rfl) hI1 hI2 (by rw [hx11, hx12, hT, hw]) (Wo.swap (a := []) hO) hl
theorem wd_1263 : (Cond.methodLink "WebCourtLaw" (180 : Nat) ⟨"WebCourt", "fits", "(I)I"⟩) ∈ gtb := gtb_c5 194 (by decide +kernel) rfl
theorem wd_1264 : (Cond.instanceMethod ⟨"WebCourt", "fits", "(I)I"⟩) ∈ gtb := gtb_c5 195 (by decide +kernel) rfl
theorem wd_1265 : (Cond.selects "WebCourt" ⟨"WebCourt", "fits", "(I)I"⟩ ⟨"WebCourt", "fits", "(I)I"⟩) ∈ gtb := gtb_c5 196 (by decide +kernel) rfl
theorem hd_yX10_fits : yX10_fits.cls = RX10 ∧ yX10_fits.cls ≠ "java/lang/invoke/MethodHandle" ∧ yX10_fits.cls ≠ "java/lang/invoke/VarHandle" ∧ (parseMethodDescriptor yX10_fits.desc).map (fun d => d.parameters.length) = some 1 := by decide +kernel
theorem wd_1991 : (Cond.methodLink "WebCourtLaw" (183 : Nat) ⟨"WebCourtModel", "fits", "(I)I"⟩) ∈ gtb := gtb_c8 202 (by decide +kernel) rfl
theorem Km22_I62 {u v : St} (h : Km22 u v) : fI v 0 62 = fI u 0 62 := h.2.2.2.2.2.2.2.2.2.2.2.2.2.2.2.2.2.2.2.1
set_option maxHeartbeats 4000000 in
set_option maxRecDepth 100000 in
theorem lawc_40 {p : Program} {l : Launch} {e : Env} {s : State} {m : MethodId} {below : List Frame} {meth : Method} {c : Code} {b Ln : Nat} {xs : Nat → Int32} {D : va_G} {cy : Nat → ClassId} {a1 a2 : Nat → Nat} {u1 u2 : St} {i : Int32} {A : Nat → Prop} {Q : State → Prop} {H : Heap} {locs : List Loc} {ls : Array Slot} (C : Cx p s m #[Value.ref b] c code 4 RL D cy A) (hX : va_X b Ln xs s s.heap) (hbl : b < s.heap.size) (hbA : ¬ A b) (hi0 : 0 ≤ i.toInt) (hiL : i.toInt + 6 ≤ (Ln : Int)) (hLm : Ln ≤ 3072) (hJ1 : CI a1 u1) (hJ2 : MI a2 u2) (hT : fI u1 39 6 = fI u2 0 62) (kend : ∀ (b1 : Nat → Nat) (v1 v2 : St) (H : Heap) (locs : List Loc) (ls : Array Slot), b1 0 = a1 0 → CI b1 v1 → MI a2 v2 → fI v1 39 6 = fI v2 0 62 → Wo D A (cW cy b1 v1 ++ mW cy a2 v2) s.heap H locs → lv_has ls 4 [(0, .ref b), (1, .ref (a1 0)), (2, .ref (a2 0)), (3, .int i)] → W p l e room_1 s m #[Value.ref b] below meth c H locs 134 12281 Q (F0 m 1386 ls [])) (hO : Wo D A (cW cy a1 u1 ++ mW cy a2 u2) s.heap H locs) (hl : lv_has ls 4 [(0, .ref b), (1, .ref (a1 0)), (2, .ref (a2 0)), (3, .int i)]) : W p l e room_1 s m #[Value.ref b] below meth c H locs 134 12281 Q (F0 m 1228 ls []) := by
  obtain ⟨hx, hb, hml, hown, ht, hK, hA⟩ := id C
  refine lv_aload_n hx hb dL_law_1228 rfl (lv_at hl 1 rfl) ?_
  refine lv_aload_n hx hb dL_law_1229 rfl (lv_at hl 0 rfl) ?_
  refine lv_iload_n hx hb dL_law_1230 rfl (lv_at hl 3 rfl) ?_
  refine lv_iconst (v := 1) hx hb dL_law_1231 (by decide) ?_
  refine lv_iadd hx hb dL_law_1232 ?_
  refine lv_topi (fun z1 ez1 => ?_)
  have nz1 : z1.toInt = i.toInt + 1 := by rw [ez1]; exact i_add rfl rfl (by omega)
  refine va_sld hx hb hX hbl hbA hO.2.2 (i_in (X := i.toInt + 1) nz1 (by omega) (by omega)) dL_law_1233 ?_
  refine lv_topi (fun w2 ew2 => ?_)
  refine fVi (w := cW cy a1) (pl := mW cy a2 u2) (As := [.int w2]) (rest := []) C hO (T_X10_fits l D cy a1 u1 hJ1 w2) (cwV 1 ht (gV wd_1263 wd_1264 wd_1265 wd_110 wd_1266) rfl rfl rfl hd_yX10_fits ⟨Nat.le_of_ble_eq_true rfl, Nat.le_of_ble_eq_true rfl⟩) 0 rfl cW_0 rfl rfl hl.1 (Nat.le_of_ble_eq_true rfl) dL_law_1234 rfl ⟨Nat.le_of_ble_eq_true rfl, Nat.le_of_ble_eq_true rfl⟩ (fun r1 v1 H locs hp1 hO => ?_)
  obtain ⟨hI1, hk1⟩ := hp1
  refine lv_pop hx hb dL_law_1237 rfl ?_
  refine lv_aload_n hx hb dL_law_1238 rfl (lv_at hl 2 rfl) ?_
  refine lv_aload_n hx hb dL_law_1239 rfl (lv_at hl 0 rfl) ?_
  refine lv_iload_n hx hb dL_law_1240 rfl (lv_at hl 3 rfl) ?_
  refine lv_iconst (v := 1) hx hb dL_law_1241 (by decide) ?_
  refine lv_iadd hx hb dL_law_1242 ?_
  refine lv_topi (fun z3 ez3 => ?_)
  have nz3 : z3.toInt = i.toInt + 1 := by rw [ez3]; exact i_add rfl rfl (by omega)
  refine va_sld hx hb hX hbl hbA hO.2.2 (i_in (X := i.toInt + 1) nz3 (by omega) (by omega)) dL_law_1243 ?_
  refine lv_topi (fun w4 ew4 => ?_)
  have hO : Wo D A (mW cy a2 u2 ++ cW cy a1 v1) s.heap H locs := Wo.swap (a := []) hO
  refine fVi (w := mW cy a2) (pl := cW cy a1 v1) (As := [.int w4]) (rest := []) C hO (T_X11_fits l D cy a2 u2 hJ2 w4) (cwV 1 ht (gV wd_1991 wd_1992 wd_1993 wd_121 wd_1994) rfl rfl rfl hd_yX11_fits ⟨Nat.le_of_ble_eq_true rfl, Nat.le_of_ble_eq_true rfl⟩) 0 rfl mW_0 rfl rfl hl.1 (Nat.le_of_ble_eq_true rfl) dL_law_1244 rfl ⟨Nat.le_of_ble_eq_true rfl, Nat.le_of_ble_eq_true rfl⟩ (fun r2 v2 H locs hp2 hO => ?_)
  obtain ⟨hI2, hk2, hx02⟩ := hp2
  refine lv_pop hx hb dL_law_1247 rfl ?_
  refine lv_goto (tgt := 1386) hx hb dL_law_1248 (by decide) ?_
  exact kend a1 v1 v2 H locs ls (rfl) hI1 hI2 (Eq.trans (hk1) (Eq.trans hT (Eq.symm ((Km22_I62 hk2))))) (Wo.swap (a := []) hO) hl
theorem wd_1287 : (Cond.methodLink "WebCourtLaw" (184 : Nat) ⟨"WebCourt", "sure", "(II)I"⟩) ∈ gtb := gtb_c5 218 (by decide +kernel) rfl
theorem wd_1288 : (Cond.instanceMethod ⟨"WebCourt", "sure", "(II)I"⟩) ∈ gtb := gtb_c5 219 (by decide +kernel) rfl
theorem wd_1289 : (Cond.selects "WebCourt" ⟨"WebCourt", "sure", "(II)I"⟩ ⟨"WebCourt", "sure", "(II)I"⟩) ∈ gtb := gtb_c5 220 (by decide +kernel) rfl
theorem hd_yX10_sure : yX10_sure.cls = RX10 ∧ yX10_sure.cls ≠ "java/lang/invoke/MethodHandle" ∧ yX10_sure.cls ≠ "java/lang/invoke/VarHandle" ∧ (parseMethodDescriptor yX10_sure.desc).map (fun d => d.parameters.length) = some 2 := by decide +kernel
theorem wd_2003 : (Cond.methodLink "WebCourtLaw" (187 : Nat) ⟨"WebCourtModel", "sure", "(II)I"⟩) ∈ gtb := gtb_c8 214 (by decide +kernel) rfl
theorem wd_2004 : (Cond.instanceMethod ⟨"WebCourtModel", "sure", "(II)I"⟩) ∈ gtb := gtb_c8 215 (by decide +kernel) rfl
theorem wd_2005 : (Cond.selects "WebCourtModel" ⟨"WebCourtModel", "sure", "(II)I"⟩ ⟨"WebCourtModel", "sure", "(II)I"⟩) ∈ gtb := gtb_c8 216 (by decide +kernel) rfl
theorem hd_yX11_sure : yX11_sure.cls = RX11 ∧ yX11_sure.cls ≠ "java/lang/invoke/MethodHandle" ∧ yX11_sure.cls ≠ "java/lang/invoke/VarHandle" ∧ (parseMethodDescriptor yX11_sure.desc).map (fun d => d.parameters.length) = some 2 := by decide +kernel
set_option maxHeartbeats 4000000 in
set_option maxRecDepth 100000 in
theorem lawc_41 {p : Program} {l : Launch} {e : Env} {s : State} {m : MethodId} {below : List Frame} {meth : Method} {c : Code} {b Ln : Nat} {xs : Nat → Int32} {D : va_G} {cy : Nat → ClassId} {a1 a2 : Nat → Nat} {u1 u2 : St} {i : Int32} {A : Nat → Prop} {Q : State → Prop} {H : Heap} {locs : List Loc} {ls : Array Slot} (C : Cx p s m #[Value.ref b] c code 4 RL D cy A) (hX : va_X b Ln xs s s.heap) (hbl : b < s.heap.size) (hbA : ¬ A b) (hi0 : 0 ≤ i.toInt) (hiL : i.toInt + 6 ≤ (Ln : Int)) (hLm : Ln ≤ 3072) (hJ1 : CI a1 u1) (hJ2 : MI a2 u2) (hT : fI u1 39 6 = fI u2 0 62) (kend : ∀ (b1 : Nat → Nat) (v1 v2 : St) (H : Heap) (locs : List Loc) (ls : Array Slot), b1 0 = a1 0 → CI b1 v1 → MI a2 v2 → fI v1 39 6 = fI v2 0 62 → Wo D A (cW cy b1 v1 ++ mW cy a2 v2) s.heap H locs → lv_has ls 4 [(0, .ref b), (1, .ref (a1 0)), (2, .ref (a2 0)), (3, .int i)] → W p l e room_1 s m #[Value.ref b] below meth c H locs 134 12281 Q (F0 m 1386 ls [])) (hO : Wo D A (cW cy a1 u1 ++ mW cy a2 u2) s.heap H locs) (hl : lv_has ls 4 [(0, .ref b), (1, .ref (a1 0)), (2, .ref (a2 0)), (3, .int i)]) : W p l e room_1 s m #[Value.ref b] below meth c H locs 134 12281 Q (F0 m 1251 ls []) := by
  obtain ⟨hx, hb, hml, hown, ht, hK, hA⟩ := id C
  refine lv_aload_n hx hb dL_law_1251 rfl (lv_at hl 1 rfl) ?_
  refine lv_aload_n hx hb dL_law_1252 rfl (lv_at hl 0 rfl) ?_
  refine lv_iload_n hx hb dL_law_1253 rfl (lv_at hl 3 rfl) ?_
  refine lv_iconst (v := 1) hx hb dL_law_1254 (by decide) ?_
  refine lv_iadd hx hb dL_law_1255 ?_
  refine lv_topi (fun z1 ez1 => ?_)
  have nz1 : z1.toInt = i.toInt + 1 := by rw [ez1]; exact i_add rfl rfl (by omega)
  refine va_sld hx hb hX hbl hbA hO.2.2 (i_in (X := i.toInt + 1) nz1 (by omega) (by omega)) dL_law_1256 ?_
  refine lv_topi (fun w2 ew2 => ?_)
  refine lv_aload_n hx hb dL_law_1257 rfl (lv_at hl 0 rfl) ?_
  refine lv_iload_n hx hb dL_law_1258 rfl (lv_at hl 3 rfl) ?_
  refine lv_iconst (v := 2) hx hb dL_law_1259 (by decide) ?_
  refine lv_iadd hx hb dL_law_1260 ?_
  refine lv_topi (fun z3 ez3 => ?_)
  have nz3 : z3.toInt = i.toInt + 2 := by rw [ez3]; exact i_add rfl rfl (by omega)
  refine va_sld hx hb hX hbl hbA hO.2.2 (i_in (X := i.toInt + 2) nz3 (by omega) (by omega)) dL_law_1261 ?_
  refine lv_topi (fun w4 ew4 => ?_)
  refine fVi (w := cW cy a1) (pl := mW cy a2 u2) (As := [.int w2, .int w4]) (rest := []) C hO (T_X10_sure l D cy a1 u1 hJ1 w2 w4) (cwV 2 ht (gV wd_1287 wd_1288 wd_1289 wd_110 wd_1290) rfl rfl rfl hd_yX10_sure ⟨Nat.le_of_ble_eq_true rfl, Nat.le_of_ble_eq_true rfl⟩) 0 rfl cW_0 rfl rfl hl.1 (Nat.le_of_ble_eq_true rfl) dL_law_1262 rfl ⟨Nat.le_of_ble_eq_true rfl, Nat.le_of_ble_eq_true rfl⟩ (fun r1 v1 H locs hp1 hO => ?_)
  obtain ⟨hI1, hk1⟩ := hp1
  refine lv_pop hx hb dL_law_1265 rfl ?_
  refine lv_aload_n hx hb dL_law_1266 rfl (lv_at hl 2 rfl) ?_
  refine lv_aload_n hx hb dL_law_1267 rfl (lv_at hl 0 rfl) ?_
  refine lv_iload_n hx hb dL_law_1268 rfl (lv_at hl 3 rfl) ?_
  refine lv_iconst (v := 1) hx hb dL_law_1269 (by decide) ?_
  refine lv_iadd hx hb dL_law_1270 ?_
  refine lv_topi (fun z5 ez5 => ?_)
  have nz5 : z5.toInt = i.toInt + 1 := by rw [ez5]; exact i_add rfl rfl (by omega)
  refine va_sld hx hb hX hbl hbA hO.2.2 (i_in (X := i.toInt + 1) nz5 (by omega) (by omega)) dL_law_1271 ?_
  refine lv_topi (fun w6 ew6 => ?_)
  refine lv_aload_n hx hb dL_law_1272 rfl (lv_at hl 0 rfl) ?_
  refine lv_iload_n hx hb dL_law_1273 rfl (lv_at hl 3 rfl) ?_
  refine lv_iconst (v := 2) hx hb dL_law_1274 (by decide) ?_
  refine lv_iadd hx hb dL_law_1275 ?_
  refine lv_topi (fun z7 ez7 => ?_)
  have nz7 : z7.toInt = i.toInt + 2 := by rw [ez7]; exact i_add rfl rfl (by omega)
  refine va_sld hx hb hX hbl hbA hO.2.2 (i_in (X := i.toInt + 2) nz7 (by omega) (by omega)) dL_law_1276 ?_
  refine lv_topi (fun w8 ew8 => ?_)
  have hO : Wo D A (mW cy a2 u2 ++ cW cy a1 v1) s.heap H locs := Wo.swap (a := []) hO
  refine fVi (w := mW cy a2) (pl := cW cy a1 v1) (As := [.int w6, .int w8]) (rest := []) C hO (T_X11_sure l D cy a2 u2 hJ2 w6 w8) (cwV 2 ht (gV wd_2003 wd_2004 wd_2005 wd_121 wd_2006) rfl rfl rfl hd_yX11_sure ⟨Nat.le_of_ble_eq_true rfl, Nat.le_of_ble_eq_true rfl⟩) 0 rfl mW_0 rfl rfl hl.1 (Nat.le_of_ble_eq_true rfl) dL_law_1277 rfl ⟨Nat.le_of_ble_eq_true rfl, Nat.le_of_ble_eq_true rfl⟩ (fun r2 v2 H locs hp2 hO => ?_)
  obtain ⟨hI2, hk2⟩ := hp2
  refine lv_pop hx hb dL_law_1280 rfl ?_
  refine lv_goto (tgt := 1386) hx hb dL_law_1281 (by decide) ?_
  exact kend a1 v1 v2 H locs ls (rfl) hI1 hI2 (Eq.trans (hk1) (Eq.trans hT (Eq.symm ((Km22_I62 hk2))))) (Wo.swap (a := []) hO) hl
theorem wd_1299 : (Cond.methodLink "WebCourtLaw" (188 : Nat) ⟨"WebCourt", "ask", "(II)I"⟩) ∈ gtb := gtb_c5 230 (by decide +kernel) rfl
theorem wd_1300 : (Cond.instanceMethod ⟨"WebCourt", "ask", "(II)I"⟩) ∈ gtb := gtb_c5 231 (by decide +kernel) rfl
theorem wd_1301 : (Cond.selects "WebCourt" ⟨"WebCourt", "ask", "(II)I"⟩ ⟨"WebCourt", "ask", "(II)I"⟩) ∈ gtb := gtb_c5 232 (by decide +kernel) rfl
theorem hd_yX10_ask : yX10_ask.cls = RX10 ∧ yX10_ask.cls ≠ "java/lang/invoke/MethodHandle" ∧ yX10_ask.cls ≠ "java/lang/invoke/VarHandle" ∧ (parseMethodDescriptor yX10_ask.desc).map (fun d => d.parameters.length) = some 2 := by decide +kernel
theorem wd_2008 : (Cond.methodLink "WebCourtLaw" (191 : Nat) ⟨"WebCourtModel", "ask", "(II)I"⟩) ∈ gtb := gtb_c8 219 (by decide +kernel) rfl
theorem wd_2009 : (Cond.instanceMethod ⟨"WebCourtModel", "ask", "(II)I"⟩) ∈ gtb := gtb_c8 220 (by decide +kernel) rfl
theorem wd_2010 : (Cond.selects "WebCourtModel" ⟨"WebCourtModel", "ask", "(II)I"⟩ ⟨"WebCourtModel", "ask", "(II)I"⟩) ∈ gtb := gtb_c8 221 (by decide +kernel) rfl
theorem hd_yX11_ask : yX11_ask.cls = RX11 ∧ yX11_ask.cls ≠ "java/lang/invoke/MethodHandle" ∧ yX11_ask.cls ≠ "java/lang/invoke/VarHandle" ∧ (parseMethodDescriptor yX11_ask.desc).map (fun d => d.parameters.length) = some 2 := by decide +kernel
theorem Km24_I62 {u v : St} (h : Km24 u v) : fI v 0 62 = fI u 0 62 := h.2.2.2.2.2.2.2.2.2.2.2.2.2.2.2.2.2.2.2.1
set_option maxHeartbeats 4000000 in
set_option maxRecDepth 100000 in
theorem lawc_42 {p : Program} {l : Launch} {e : Env} {s : State} {m : MethodId} {below : List Frame} {meth : Method} {c : Code} {b Ln : Nat} {xs : Nat → Int32} {D : va_G} {cy : Nat → ClassId} {a1 a2 : Nat → Nat} {u1 u2 : St} {i : Int32} {A : Nat → Prop} {Q : State → Prop} {H : Heap} {locs : List Loc} {ls : Array Slot} (C : Cx p s m #[Value.ref b] c code 4 RL D cy A) (hX : va_X b Ln xs s s.heap) (hbl : b < s.heap.size) (hbA : ¬ A b) (hi0 : 0 ≤ i.toInt) (hiL : i.toInt + 6 ≤ (Ln : Int)) (hLm : Ln ≤ 3072) (hJ1 : CI a1 u1) (hJ2 : MI a2 u2) (hT : fI u1 39 6 = fI u2 0 62) (kend : ∀ (b1 : Nat → Nat) (v1 v2 : St) (H : Heap) (locs : List Loc) (ls : Array Slot), b1 0 = a1 0 → CI b1 v1 → MI a2 v2 → fI v1 39 6 = fI v2 0 62 → Wo D A (cW cy b1 v1 ++ mW cy a2 v2) s.heap H locs → lv_has ls 4 [(0, .ref b), (1, .ref (a1 0)), (2, .ref (a2 0)), (3, .int i)] → W p l e room_1 s m #[Value.ref b] below meth c H locs 134 12281 Q (F0 m 1386 ls [])) (hO : Wo D A (cW cy a1 u1 ++ mW cy a2 u2) s.heap H locs) (hl : lv_has ls 4 [(0, .ref b), (1, .ref (a1 0)), (2, .ref (a2 0)), (3, .int i)]) : W p l e room_1 s m #[Value.ref b] below meth c H locs 134 12281 Q (F0 m 1284 ls []) := by
  obtain ⟨hx, hb, hml, hown, ht, hK, hA⟩ := id C
  refine lv_aload_n hx hb dL_law_1284 rfl (lv_at hl 1 rfl) ?_
  refine lv_aload_n hx hb dL_law_1285 rfl (lv_at hl 0 rfl) ?_
  refine lv_iload_n hx hb dL_law_1286 rfl (lv_at hl 3 rfl) ?_
  refine lv_iconst (v := 1) hx hb dL_law_1287 (by decide) ?_
  refine lv_iadd hx hb dL_law_1288 ?_
  refine lv_topi (fun z1 ez1 => ?_)
  have nz1 : z1.toInt = i.toInt + 1 := by rw [ez1]; exact i_add rfl rfl (by omega)
  refine va_sld hx hb hX hbl hbA hO.2.2 (i_in (X := i.toInt + 1) nz1 (by omega) (by omega)) dL_law_1289 ?_
  refine lv_topi (fun w2 ew2 => ?_)
  refine lv_aload_n hx hb dL_law_1290 rfl (lv_at hl 0 rfl) ?_
  refine lv_iload_n hx hb dL_law_1291 rfl (lv_at hl 3 rfl) ?_
  refine lv_iconst (v := 2) hx hb dL_law_1292 (by decide) ?_
  refine lv_iadd hx hb dL_law_1293 ?_
  refine lv_topi (fun z3 ez3 => ?_)
  have nz3 : z3.toInt = i.toInt + 2 := by rw [ez3]; exact i_add rfl rfl (by omega)
  refine va_sld hx hb hX hbl hbA hO.2.2 (i_in (X := i.toInt + 2) nz3 (by omega) (by omega)) dL_law_1294 ?_
  refine lv_topi (fun w4 ew4 => ?_)
  refine fVi (w := cW cy a1) (pl := mW cy a2 u2) (As := [.int w2, .int w4]) (rest := []) C hO (T_X10_ask l D cy a1 u1 hJ1 w2 w4) (cwV 2 ht (gV wd_1299 wd_1300 wd_1301 wd_110 wd_1302) rfl rfl rfl hd_yX10_ask ⟨Nat.le_of_ble_eq_true rfl, Nat.le_of_ble_eq_true rfl⟩) 0 rfl cW_0 rfl rfl hl.1 (Nat.le_of_ble_eq_true rfl) dL_law_1295 rfl ⟨Nat.le_of_ble_eq_true rfl, Nat.le_of_ble_eq_true rfl⟩ (fun r1 v1 H locs hp1 hO => ?_)
  obtain ⟨hI1, hk1⟩ := hp1
  refine lv_pop hx hb dL_law_1298 rfl ?_
  refine lv_aload_n hx hb dL_law_1299 rfl (lv_at hl 2 rfl) ?_
  refine lv_aload_n hx hb dL_law_1300 rfl (lv_at hl 0 rfl) ?_
  refine lv_iload_n hx hb dL_law_1301 rfl (lv_at hl 3 rfl) ?_
  refine lv_iconst (v := 1) hx hb dL_law_1302 (by decide) ?_
  refine lv_iadd hx hb dL_law_1303 ?_
  refine lv_topi (fun z5 ez5 => ?_)
  have nz5 : z5.toInt = i.toInt + 1 := by rw [ez5]; exact i_add rfl rfl (by omega)
  refine va_sld hx hb hX hbl hbA hO.2.2 (i_in (X := i.toInt + 1) nz5 (by omega) (by omega)) dL_law_1304 ?_
  refine lv_topi (fun w6 ew6 => ?_)
  refine lv_aload_n hx hb dL_law_1305 rfl (lv_at hl 0 rfl) ?_
  refine lv_iload_n hx hb dL_law_1306 rfl (lv_at hl 3 rfl) ?_
  refine lv_iconst (v := 2) hx hb dL_law_1307 (by decide) ?_
  refine lv_iadd hx hb dL_law_1308 ?_
  refine lv_topi (fun z7 ez7 => ?_)
  have nz7 : z7.toInt = i.toInt + 2 := by rw [ez7]; exact i_add rfl rfl (by omega)
  refine va_sld hx hb hX hbl hbA hO.2.2 (i_in (X := i.toInt + 2) nz7 (by omega) (by omega)) dL_law_1309 ?_
  refine lv_topi (fun w8 ew8 => ?_)
  have hO : Wo D A (mW cy a2 u2 ++ cW cy a1 v1) s.heap H locs := Wo.swap (a := []) hO
  refine fVi (w := mW cy a2) (pl := cW cy a1 v1) (As := [.int w6, .int w8]) (rest := []) C hO (T_X11_ask l D cy a2 u2 hJ2 w6 w8) (cwV 2 ht (gV wd_2008 wd_2009 wd_2010 wd_121 wd_2011) rfl rfl rfl hd_yX11_ask ⟨Nat.le_of_ble_eq_true rfl, Nat.le_of_ble_eq_true rfl⟩) 0 rfl mW_0 rfl rfl hl.1 (Nat.le_of_ble_eq_true rfl) dL_law_1310 rfl ⟨Nat.le_of_ble_eq_true rfl, Nat.le_of_ble_eq_true rfl⟩ (fun r2 v2 H locs hp2 hO => ?_)
  obtain ⟨hI2, hk2⟩ := hp2
  refine lv_pop hx hb dL_law_1313 rfl ?_
  refine lv_goto (tgt := 1386) hx hb dL_law_1314 (by decide) ?_
  exact kend a1 v1 v2 H locs ls (rfl) hI1 hI2 (Eq.trans (hk1) (Eq.trans hT (Eq.symm ((Km24_I62 hk2))))) (Wo.swap (a := []) hO) hl
theorem wd_1313 : (Cond.methodLink "WebCourtLaw" (192 : Nat) ⟨"WebCourt", "image", "(I)I"⟩) ∈ gtb := gtb_c6 4 (by decide +kernel) rfl
theorem wd_1314 : (Cond.instanceMethod ⟨"WebCourt", "image", "(I)I"⟩) ∈ gtb := gtb_c6 5 (by decide +kernel) rfl
theorem wd_1315 : (Cond.selects "WebCourt" ⟨"WebCourt", "image", "(I)I"⟩ ⟨"WebCourt", "image", "(I)I"⟩) ∈ gtb := gtb_c6 6 (by decide +kernel) rfl
theorem hd_yX10_image : yX10_image.cls = RX10 ∧ yX10_image.cls ≠ "java/lang/invoke/MethodHandle" ∧ yX10_image.cls ≠ "java/lang/invoke/VarHandle" ∧ (parseMethodDescriptor yX10_image.desc).map (fun d => d.parameters.length) = some 1 := by decide +kernel
theorem wd_2016 : (Cond.methodLink "WebCourtLaw" (195 : Nat) ⟨"WebCourtModel", "image", "(I)I"⟩) ∈ gtb := gtb_c8 227 (by decide +kernel) rfl
theorem wd_2017 : (Cond.instanceMethod ⟨"WebCourtModel", "image", "(I)I"⟩) ∈ gtb := gtb_c8 228 (by decide +kernel) rfl
theorem wd_2018 : (Cond.selects "WebCourtModel" ⟨"WebCourtModel", "image", "(I)I"⟩ ⟨"WebCourtModel", "image", "(I)I"⟩) ∈ gtb := gtb_c8 229 (by decide +kernel) rfl
theorem hd_yX11_image : yX11_image.cls = RX11 ∧ yX11_image.cls ≠ "java/lang/invoke/MethodHandle" ∧ yX11_image.cls ≠ "java/lang/invoke/VarHandle" ∧ (parseMethodDescriptor yX11_image.desc).map (fun d => d.parameters.length) = some 1 := by decide +kernel
theorem Km12_I62 {u v : St} (h : Km12 u v) : fI v 0 62 = fI u 0 62 := h.2.2.2.2.2.2.2.2.2.2.2.2.2.2.2.2.2.2.2.2.2.2.1
set_option maxHeartbeats 4000000 in
set_option maxRecDepth 100000 in
theorem lawc_43 {p : Program} {l : Launch} {e : Env} {s : State} {m : MethodId} {below : List Frame} {meth : Method} {c : Code} {b Ln : Nat} {xs : Nat → Int32} {D : va_G} {cy : Nat → ClassId} {a1 a2 : Nat → Nat} {u1 u2 : St} {i : Int32} {A : Nat → Prop} {Q : State → Prop} {H : Heap} {locs : List Loc} {ls : Array Slot} (C : Cx p s m #[Value.ref b] c code 4 RL D cy A) (hX : va_X b Ln xs s s.heap) (hbl : b < s.heap.size) (hbA : ¬ A b) (hi0 : 0 ≤ i.toInt) (hiL : i.toInt + 6 ≤ (Ln : Int)) (hLm : Ln ≤ 3072) (hJ1 : CI a1 u1) (hJ2 : MI a2 u2) (hT : fI u1 39 6 = fI u2 0 62) (kend : ∀ (b1 : Nat → Nat) (v1 v2 : St) (H : Heap) (locs : List Loc) (ls : Array Slot), b1 0 = a1 0 → CI b1 v1 → MI a2 v2 → fI v1 39 6 = fI v2 0 62 → Wo D A (cW cy b1 v1 ++ mW cy a2 v2) s.heap H locs → lv_has ls 4 [(0, .ref b), (1, .ref (a1 0)), (2, .ref (a2 0)), (3, .int i)] → W p l e room_1 s m #[Value.ref b] below meth c H locs 134 12281 Q (F0 m 1386 ls [])) (hO : Wo D A (cW cy a1 u1 ++ mW cy a2 u2) s.heap H locs) (hl : lv_has ls 4 [(0, .ref b), (1, .ref (a1 0)), (2, .ref (a2 0)), (3, .int i)]) : W p l e room_1 s m #[Value.ref b] below meth c H locs 134 12281 Q (F0 m 1317 ls []) := by
  obtain ⟨hx, hb, hml, hown, ht, hK, hA⟩ := id C
  refine lv_aload_n hx hb dL_law_1317 rfl (lv_at hl 1 rfl) ?_
  refine lv_aload_n hx hb dL_law_1318 rfl (lv_at hl 0 rfl) ?_
  refine lv_iload_n hx hb dL_law_1319 rfl (lv_at hl 3 rfl) ?_
  refine lv_iconst (v := 1) hx hb dL_law_1320 (by decide) ?_
  refine lv_iadd hx hb dL_law_1321 ?_
  refine lv_topi (fun z1 ez1 => ?_)
  have nz1 : z1.toInt = i.toInt + 1 := by rw [ez1]; exact i_add rfl rfl (by omega)
  refine va_sld hx hb hX hbl hbA hO.2.2 (i_in (X := i.toInt + 1) nz1 (by omega) (by omega)) dL_law_1322 ?_
  refine lv_topi (fun w2 ew2 => ?_)
  refine fVi (w := cW cy a1) (pl := mW cy a2 u2) (As := [.int w2]) (rest := []) C hO (T_X10_image l D cy a1 u1 hJ1 w2) (cwV 1 ht (gV wd_1313 wd_1314 wd_1315 wd_110 wd_1316) rfl rfl rfl hd_yX10_image ⟨Nat.le_of_ble_eq_true rfl, Nat.le_of_ble_eq_true rfl⟩) 0 rfl cW_0 rfl rfl hl.1 (Nat.le_of_ble_eq_true rfl) dL_law_1323 rfl ⟨Nat.le_of_ble_eq_true rfl, Nat.le_of_ble_eq_true rfl⟩ (fun r1 v1 H locs hp1 hO => ?_)
  obtain ⟨hI1, hk1⟩ := hp1
  refine lv_pop hx hb dL_law_1326 rfl ?_
  refine lv_aload_n hx hb dL_law_1327 rfl (lv_at hl 2 rfl) ?_
  refine lv_aload_n hx hb dL_law_1328 rfl (lv_at hl 0 rfl) ?_
  refine lv_iload_n hx hb dL_law_1329 rfl (lv_at hl 3 rfl) ?_
  refine lv_iconst (v := 1) hx hb dL_law_1330 (by decide) ?_
  refine lv_iadd hx hb dL_law_1331 ?_
  refine lv_topi (fun z3 ez3 => ?_)
  have nz3 : z3.toInt = i.toInt + 1 := by rw [ez3]; exact i_add rfl rfl (by omega)
  refine va_sld hx hb hX hbl hbA hO.2.2 (i_in (X := i.toInt + 1) nz3 (by omega) (by omega)) dL_law_1332 ?_
  refine lv_topi (fun w4 ew4 => ?_)
  have hO : Wo D A (mW cy a2 u2 ++ cW cy a1 v1) s.heap H locs := Wo.swap (a := []) hO
  refine fVi (w := mW cy a2) (pl := cW cy a1 v1) (As := [.int w4]) (rest := []) C hO (T_X11_image l D cy a2 u2 hJ2 w4) (cwV 1 ht (gV wd_2016 wd_2017 wd_2018 wd_121 wd_2019) rfl rfl rfl hd_yX11_image ⟨Nat.le_of_ble_eq_true rfl, Nat.le_of_ble_eq_true rfl⟩) 0 rfl mW_0 rfl rfl hl.1 (Nat.le_of_ble_eq_true rfl) dL_law_1333 rfl ⟨Nat.le_of_ble_eq_true rfl, Nat.le_of_ble_eq_true rfl⟩ (fun r2 v2 H locs hp2 hO => ?_)
  obtain ⟨hI2, hk2⟩ := hp2
  refine lv_pop hx hb dL_law_1336 rfl ?_
  refine lv_goto (tgt := 1386) hx hb dL_law_1337 (by decide) ?_
  exact kend a1 v1 v2 H locs ls (rfl) hI1 hI2 (Eq.trans (hk1) (Eq.trans hT (Eq.symm ((Km12_I62 hk2))))) (Wo.swap (a := []) hO) hl
theorem wd_1318 : (Cond.methodLink "WebCourtLaw" (196 : Nat) ⟨"WebCourt", "restore", "(I)I"⟩) ∈ gtb := gtb_c6 9 (by decide +kernel) rfl
theorem wd_1319 : (Cond.instanceMethod ⟨"WebCourt", "restore", "(I)I"⟩) ∈ gtb := gtb_c6 10 (by decide +kernel) rfl
theorem wd_1320 : (Cond.selects "WebCourt" ⟨"WebCourt", "restore", "(I)I"⟩ ⟨"WebCourt", "restore", "(I)I"⟩) ∈ gtb := gtb_c6 11 (by decide +kernel) rfl
theorem hd_yX10_restore : yX10_restore.cls = RX10 ∧ yX10_restore.cls ≠ "java/lang/invoke/MethodHandle" ∧ yX10_restore.cls ≠ "java/lang/invoke/VarHandle" ∧ (parseMethodDescriptor yX10_restore.desc).map (fun d => d.parameters.length) = some 1 := by decide +kernel
theorem wd_2020 : (Cond.methodLink "WebCourtLaw" (199 : Nat) ⟨"WebCourtModel", "restore", "(I)I"⟩) ∈ gtb := gtb_c8 231 (by decide +kernel) rfl
theorem wd_2021 : (Cond.instanceMethod ⟨"WebCourtModel", "restore", "(I)I"⟩) ∈ gtb := gtb_c8 232 (by decide +kernel) rfl
theorem wd_2022 : (Cond.selects "WebCourtModel" ⟨"WebCourtModel", "restore", "(I)I"⟩ ⟨"WebCourtModel", "restore", "(I)I"⟩) ∈ gtb := gtb_c8 233 (by decide +kernel) rfl
theorem hd_yX11_restore : yX11_restore.cls = RX11 ∧ yX11_restore.cls ≠ "java/lang/invoke/MethodHandle" ∧ yX11_restore.cls ≠ "java/lang/invoke/VarHandle" ∧ (parseMethodDescriptor yX11_restore.desc).map (fun d => d.parameters.length) = some 1 := by decide +kernel
theorem Km13_I62 {u v : St} (h : Km13 u v) : fI v 0 62 = fI u 0 62 := h.2.2.2.2.2.2.2.2.2.2.2.2.2.2.2.2.2.2.2.2.1
set_option maxHeartbeats 4000000 in
set_option maxRecDepth 100000 in
theorem lawc_44 {p : Program} {l : Launch} {e : Env} {s : State} {m : MethodId} {below : List Frame} {meth : Method} {c : Code} {b Ln : Nat} {xs : Nat → Int32} {D : va_G} {cy : Nat → ClassId} {a1 a2 : Nat → Nat} {u1 u2 : St} {i : Int32} {A : Nat → Prop} {Q : State → Prop} {H : Heap} {locs : List Loc} {ls : Array Slot} (C : Cx p s m #[Value.ref b] c code 4 RL D cy A) (hX : va_X b Ln xs s s.heap) (hbl : b < s.heap.size) (hbA : ¬ A b) (hi0 : 0 ≤ i.toInt) (hiL : i.toInt + 6 ≤ (Ln : Int)) (hLm : Ln ≤ 3072) (hJ1 : CI a1 u1) (hJ2 : MI a2 u2) (hT : fI u1 39 6 = fI u2 0 62) (kend : ∀ (b1 : Nat → Nat) (v1 v2 : St) (H : Heap) (locs : List Loc) (ls : Array Slot), b1 0 = a1 0 → CI b1 v1 → MI a2 v2 → fI v1 39 6 = fI v2 0 62 → Wo D A (cW cy b1 v1 ++ mW cy a2 v2) s.heap H locs → lv_has ls 4 [(0, .ref b), (1, .ref (a1 0)), (2, .ref (a2 0)), (3, .int i)] → W p l e room_1 s m #[Value.ref b] below meth c H locs 134 12281 Q (F0 m 1386 ls [])) (hO : Wo D A (cW cy a1 u1 ++ mW cy a2 u2) s.heap H locs) (hl : lv_has ls 4 [(0, .ref b), (1, .ref (a1 0)), (2, .ref (a2 0)), (3, .int i)]) : W p l e room_1 s m #[Value.ref b] below meth c H locs 134 12281 Q (F0 m 1340 ls []) := by
  obtain ⟨hx, hb, hml, hown, ht, hK, hA⟩ := id C
  refine lv_aload_n hx hb dL_law_1340 rfl (lv_at hl 1 rfl) ?_
  refine lv_aload_n hx hb dL_law_1341 rfl (lv_at hl 0 rfl) ?_
  refine lv_iload_n hx hb dL_law_1342 rfl (lv_at hl 3 rfl) ?_
  refine lv_iconst (v := 1) hx hb dL_law_1343 (by decide) ?_
  refine lv_iadd hx hb dL_law_1344 ?_
  refine lv_topi (fun z1 ez1 => ?_)
  have nz1 : z1.toInt = i.toInt + 1 := by rw [ez1]; exact i_add rfl rfl (by omega)
  refine va_sld hx hb hX hbl hbA hO.2.2 (i_in (X := i.toInt + 1) nz1 (by omega) (by omega)) dL_law_1345 ?_
  refine lv_topi (fun w2 ew2 => ?_)
  refine fVi (w := cW cy a1) (pl := mW cy a2 u2) (As := [.int w2]) (rest := []) C hO (T_X10_restore l D cy a1 u1 hJ1 w2) (cwV 1 ht (gV wd_1318 wd_1319 wd_1320 wd_110 wd_1321) rfl rfl rfl hd_yX10_restore ⟨Nat.le_of_ble_eq_true rfl, Nat.le_of_ble_eq_true rfl⟩) 0 rfl cW_0 rfl rfl hl.1 (Nat.le_of_ble_eq_true rfl) dL_law_1346 rfl ⟨Nat.le_of_ble_eq_true rfl, Nat.le_of_ble_eq_true rfl⟩ (fun r1 v1 H locs hp1 hO => ?_)
  obtain ⟨hI1, hk1⟩ := hp1
  refine lv_pop hx hb dL_law_1349 rfl ?_
  refine lv_aload_n hx hb dL_law_1350 rfl (lv_at hl 2 rfl) ?_
  refine lv_aload_n hx hb dL_law_1351 rfl (lv_at hl 0 rfl) ?_
  refine lv_iload_n hx hb dL_law_1352 rfl (lv_at hl 3 rfl) ?_
  refine lv_iconst (v := 1) hx hb dL_law_1353 (by decide) ?_
  refine lv_iadd hx hb dL_law_1354 ?_
  refine lv_topi (fun z3 ez3 => ?_)
  have nz3 : z3.toInt = i.toInt + 1 := by rw [ez3]; exact i_add rfl rfl (by omega)
  refine va_sld hx hb hX hbl hbA hO.2.2 (i_in (X := i.toInt + 1) nz3 (by omega) (by omega)) dL_law_1355 ?_
  refine lv_topi (fun w4 ew4 => ?_)
  have hO : Wo D A (mW cy a2 u2 ++ cW cy a1 v1) s.heap H locs := Wo.swap (a := []) hO
  refine fVi (w := mW cy a2) (pl := cW cy a1 v1) (As := [.int w4]) (rest := []) C hO (T_X11_restore l D cy a2 u2 hJ2 w4) (cwV 1 ht (gV wd_2020 wd_2021 wd_2022 wd_121 wd_2023) rfl rfl rfl hd_yX11_restore ⟨Nat.le_of_ble_eq_true rfl, Nat.le_of_ble_eq_true rfl⟩) 0 rfl mW_0 rfl rfl hl.1 (Nat.le_of_ble_eq_true rfl) dL_law_1356 rfl ⟨Nat.le_of_ble_eq_true rfl, Nat.le_of_ble_eq_true rfl⟩ (fun r2 v2 H locs hp2 hO => ?_)
  obtain ⟨hI2, hk2⟩ := hp2
  refine lv_pop hx hb dL_law_1359 rfl ?_
  refine lv_goto (tgt := 1386) hx hb dL_law_1360 (by decide) ?_
  exact kend a1 v1 v2 H locs ls (rfl) hI1 hI2 (Eq.trans (hk1) (Eq.trans hT (Eq.symm ((Km13_I62 hk2))))) (Wo.swap (a := []) hO) hl
theorem wd_1322 : (Cond.methodLink "WebCourtLaw" (200 : Nat) ⟨"WebCourt", "about", "(I)I"⟩) ∈ gtb := gtb_c6 13 (by decide +kernel) rfl
theorem wd_1323 : (Cond.instanceMethod ⟨"WebCourt", "about", "(I)I"⟩) ∈ gtb := gtb_c6 14 (by decide +kernel) rfl
theorem wd_1324 : (Cond.selects "WebCourt" ⟨"WebCourt", "about", "(I)I"⟩ ⟨"WebCourt", "about", "(I)I"⟩) ∈ gtb := gtb_c6 15 (by decide +kernel) rfl
theorem hd_yX10_about : yX10_about.cls = RX10 ∧ yX10_about.cls ≠ "java/lang/invoke/MethodHandle" ∧ yX10_about.cls ≠ "java/lang/invoke/VarHandle" ∧ (parseMethodDescriptor yX10_about.desc).map (fun d => d.parameters.length) = some 1 := by decide +kernel
theorem wd_2024 : (Cond.methodLink "WebCourtLaw" (203 : Nat) ⟨"WebCourtModel", "about", "(I)I"⟩) ∈ gtb := gtb_c8 235 (by decide +kernel) rfl
theorem wd_2025 : (Cond.instanceMethod ⟨"WebCourtModel", "about", "(I)I"⟩) ∈ gtb := gtb_c8 236 (by decide +kernel) rfl
theorem wd_2026 : (Cond.selects "WebCourtModel" ⟨"WebCourtModel", "about", "(I)I"⟩ ⟨"WebCourtModel", "about", "(I)I"⟩) ∈ gtb := gtb_c8 237 (by decide +kernel) rfl
theorem hd_yX11_about : yX11_about.cls = RX11 ∧ yX11_about.cls ≠ "java/lang/invoke/MethodHandle" ∧ yX11_about.cls ≠ "java/lang/invoke/VarHandle" ∧ (parseMethodDescriptor yX11_about.desc).map (fun d => d.parameters.length) = some 1 := by decide +kernel
set_option maxHeartbeats 4000000 in
set_option maxRecDepth 100000 in
theorem lawc_45 {p : Program} {l : Launch} {e : Env} {s : State} {m : MethodId} {below : List Frame} {meth : Method} {c : Code} {b Ln : Nat} {xs : Nat → Int32} {D : va_G} {cy : Nat → ClassId} {a1 a2 : Nat → Nat} {u1 u2 : St} {i : Int32} {A : Nat → Prop} {Q : State → Prop} {H : Heap} {locs : List Loc} {ls : Array Slot} (C : Cx p s m #[Value.ref b] c code 4 RL D cy A) (hX : va_X b Ln xs s s.heap) (hbl : b < s.heap.size) (hbA : ¬ A b) (hi0 : 0 ≤ i.toInt) (hiL : i.toInt + 6 ≤ (Ln : Int)) (hLm : Ln ≤ 3072) (hJ1 : CI a1 u1) (hJ2 : MI a2 u2) (hT : fI u1 39 6 = fI u2 0 62) (kend : ∀ (b1 : Nat → Nat) (v1 v2 : St) (H : Heap) (locs : List Loc) (ls : Array Slot), b1 0 = a1 0 → CI b1 v1 → MI a2 v2 → fI v1 39 6 = fI v2 0 62 → Wo D A (cW cy b1 v1 ++ mW cy a2 v2) s.heap H locs → lv_has ls 4 [(0, .ref b), (1, .ref (a1 0)), (2, .ref (a2 0)), (3, .int i)] → W p l e room_1 s m #[Value.ref b] below meth c H locs 134 12281 Q (F0 m 1386 ls [])) (hO : Wo D A (cW cy a1 u1 ++ mW cy a2 u2) s.heap H locs) (hl : lv_has ls 4 [(0, .ref b), (1, .ref (a1 0)), (2, .ref (a2 0)), (3, .int i)]) : W p l e room_1 s m #[Value.ref b] below meth c H locs 134 12281 Q (F0 m 1363 ls []) := by
  obtain ⟨hx, hb, hml, hown, ht, hK, hA⟩ := id C
  refine lv_aload_n hx hb dL_law_1363 rfl (lv_at hl 1 rfl) ?_
  refine lv_aload_n hx hb dL_law_1364 rfl (lv_at hl 0 rfl) ?_
  refine lv_iload_n hx hb dL_law_1365 rfl (lv_at hl 3 rfl) ?_
  refine lv_iconst (v := 1) hx hb dL_law_1366 (by decide) ?_
  refine lv_iadd hx hb dL_law_1367 ?_
  refine lv_topi (fun z1 ez1 => ?_)
  have nz1 : z1.toInt = i.toInt + 1 := by rw [ez1]; exact i_add rfl rfl (by omega)
  refine va_sld hx hb hX hbl hbA hO.2.2 (i_in (X := i.toInt + 1) nz1 (by omega) (by omega)) dL_law_1368 ?_
  refine lv_topi (fun w2 ew2 => ?_)
  refine fVi (w := cW cy a1) (pl := mW cy a2 u2) (As := [.int w2]) (rest := []) C hO (T_X10_about l D cy a1 u1 hJ1 w2) (cwV 1 ht (gV wd_1322 wd_1323 wd_1324 wd_110 wd_1325) rfl rfl rfl hd_yX10_about ⟨Nat.le_of_ble_eq_true rfl, Nat.le_of_ble_eq_true rfl⟩) 0 rfl cW_0 rfl rfl hl.1 (Nat.le_of_ble_eq_true rfl) dL_law_1369 rfl ⟨Nat.le_of_ble_eq_true rfl, Nat.le_of_ble_eq_true rfl⟩ (fun r1 v1 H locs hp1 hO => ?_)
  have hu := hp1
  rw [hu] at hO
  refine lv_pop hx hb dL_law_1372 rfl ?_
  refine lv_aload_n hx hb dL_law_1373 rfl (lv_at hl 2 rfl) ?_
  refine lv_aload_n hx hb dL_law_1374 rfl (lv_at hl 0 rfl) ?_
  refine lv_iload_n hx hb dL_law_1375 rfl (lv_at hl 3 rfl) ?_
  refine lv_iconst (v := 1) hx hb dL_law_1376 (by decide) ?_
  refine lv_iadd hx hb dL_law_1377 ?_
  refine lv_topi (fun z3 ez3 => ?_)
  have nz3 : z3.toInt = i.toInt + 1 := by rw [ez3]; exact i_add rfl rfl (by omega)
  refine va_sld hx hb hX hbl hbA hO.2.2 (i_in (X := i.toInt + 1) nz3 (by omega) (by omega)) dL_law_1378 ?_
  refine lv_topi (fun w4 ew4 => ?_)
  have hO : Wo D A (mW cy a2 u2 ++ cW cy a1 u1) s.heap H locs := Wo.swap (a := []) hO
  refine fVi (w := mW cy a2) (pl := cW cy a1 u1) (As := [.int w4]) (rest := []) C hO (T_X11_about l D cy a2 u2 hJ2 w4) (cwV 1 ht (gV wd_2024 wd_2025 wd_2026 wd_121 wd_2027) rfl rfl rfl hd_yX11_about ⟨Nat.le_of_ble_eq_true rfl, Nat.le_of_ble_eq_true rfl⟩) 0 rfl mW_0 rfl rfl hl.1 (Nat.le_of_ble_eq_true rfl) dL_law_1379 rfl ⟨Nat.le_of_ble_eq_true rfl, Nat.le_of_ble_eq_true rfl⟩ (fun r2 v2 H locs hp2 hO => ?_)
  have hu := hp2
  rw [hu] at hO
  refine lv_pop hx hb dL_law_1382 rfl ?_
  refine lv_goto (tgt := 1386) hx hb dL_law_1383 (by decide) ?_
  exact kend a1 u1 u2 H locs ls (rfl) hJ1 hJ2 (Eq.trans (rfl) (Eq.trans hT (Eq.symm (rfl)))) (Wo.swap (a := []) hO) hl
