/-! the law's instructions, 1 -/
theorem dl_0 : decode code 0 = .ok (.new 7, 3) := by decide +kernel
theorem dl_3 : decode code 3 = .ok (.dup, 1) := by decide +kernel
theorem dl_4 : decode code 4 = .ok (.invokespecial 9, 3) := by decide +kernel
theorem dl_7 : decode code 7 = .ok (.astore_n 1, 1) := by decide +kernel
theorem dl_8 : decode code 8 = .ok (.new 10, 3) := by decide +kernel
theorem dl_11 : decode code 11 = .ok (.dup, 1) := by decide +kernel
theorem dl_12 : decode code 12 = .ok (.invokespecial 12, 3) := by decide +kernel
theorem dl_15 : decode code 15 = .ok (.astore_n 2, 1) := by decide +kernel
theorem dl_16 : decode code 16 = .ok (.iconst 0, 1) := by decide +kernel
theorem dl_17 : decode code 17 = .ok (.istore_n 3, 1) := by decide +kernel
theorem dl_18 : decode code 18 = .ok (.iload_n 3, 1) := by decide +kernel
theorem dl_19 : decode code 19 = .ok (.aload_n 0, 1) := by decide +kernel
theorem dl_20 : decode code 20 = .ok (.arraylength, 1) := by decide +kernel
theorem dl_21 : decode code 21 = .ok (.bipush 6, 2) := by decide +kernel
theorem dl_23 : decode code 23 = .ok (.isub, 1) := by decide +kernel
theorem dl_24 : decode code 24 = .ok (.if_icmp .gt 1653, 3) := by decide +kernel
theorem dl_27 : decode code 27 = .ok (.aload_n 0, 1) := by decide +kernel
theorem dl_28 : decode code 28 = .ok (.iload_n 3, 1) := by decide +kernel
theorem dl_29 : decode code 29 = .ok (.iaload, 1) := by decide +kernel
theorem dl_30 : decode code 30 = .ok (.bipush 63, 2) := by decide +kernel
theorem dl_32 : decode code 32 = .ok (.iand, 1) := by decide +kernel
theorem dl_33 : decode code 33 = .ok (.tableswitch 1638 0 42 #[187, 250, 273, 296, 329, 362, 385, 408, 431, 454, 487, 520, 533, 556, 589, 612, 645, 678, 711, 734, 767, 800, 823, 856, 889, 912, 945, 978, 1021, 1054, 1097, 1140, 1193, 1236, 1289, 1352, 1396, 1419, 1462, 1536, 1569, 1592, 1615], 187) := by decide +kernel
theorem dl_220 : decode code 220 = .ok (.aload_n 1, 1) := by decide +kernel
theorem dl_221 : decode code 221 = .ok (.aload_n 0, 1) := by decide +kernel
theorem dl_222 : decode code 222 = .ok (.iload_n 3, 1) := by decide +kernel
theorem dl_223 : decode code 223 = .ok (.iconst 1, 1) := by decide +kernel
theorem dl_224 : decode code 224 = .ok (.iadd, 1) := by decide +kernel
theorem dl_225 : decode code 225 = .ok (.iaload, 1) := by decide +kernel
theorem dl_226 : decode code 226 = .ok (.aload_n 0, 1) := by decide +kernel
theorem dl_227 : decode code 227 = .ok (.iload_n 3, 1) := by decide +kernel
theorem dl_228 : decode code 228 = .ok (.iconst 2, 1) := by decide +kernel
theorem dl_229 : decode code 229 = .ok (.iadd, 1) := by decide +kernel
theorem dl_230 : decode code 230 = .ok (.iaload, 1) := by decide +kernel
theorem dl_231 : decode code 231 = .ok (.aload_n 0, 1) := by decide +kernel
theorem dl_232 : decode code 232 = .ok (.iload_n 3, 1) := by decide +kernel
theorem dl_233 : decode code 233 = .ok (.iconst 3, 1) := by decide +kernel
theorem dl_234 : decode code 234 = .ok (.iadd, 1) := by decide +kernel
theorem dl_235 : decode code 235 = .ok (.iaload, 1) := by decide +kernel
theorem dl_236 : decode code 236 = .ok (.aload_n 0, 1) := by decide +kernel
theorem dl_237 : decode code 237 = .ok (.iload_n 3, 1) := by decide +kernel
theorem dl_238 : decode code 238 = .ok (.iconst 4, 1) := by decide +kernel
theorem dl_239 : decode code 239 = .ok (.iadd, 1) := by decide +kernel
theorem dl_240 : decode code 240 = .ok (.iaload, 1) := by decide +kernel
theorem dl_241 : decode code 241 = .ok (.aload_n 0, 1) := by decide +kernel
theorem dl_242 : decode code 242 = .ok (.iload_n 3, 1) := by decide +kernel
theorem dl_243 : decode code 243 = .ok (.iconst 5, 1) := by decide +kernel
theorem dl_244 : decode code 244 = .ok (.iadd, 1) := by decide +kernel
theorem dl_245 : decode code 245 = .ok (.iaload, 1) := by decide +kernel
theorem dl_246 : decode code 246 = .ok (.invokevirtual 13, 3) := by decide +kernel
theorem dl_249 : decode code 249 = .ok (.aload_n 2, 1) := by decide +kernel
theorem dl_250 : decode code 250 = .ok (.aload_n 0, 1) := by decide +kernel
theorem dl_251 : decode code 251 = .ok (.iload_n 3, 1) := by decide +kernel
theorem dl_252 : decode code 252 = .ok (.iconst 1, 1) := by decide +kernel
theorem dl_253 : decode code 253 = .ok (.iadd, 1) := by decide +kernel
theorem dl_254 : decode code 254 = .ok (.iaload, 1) := by decide +kernel
theorem dl_255 : decode code 255 = .ok (.aload_n 0, 1) := by decide +kernel
theorem dl_256 : decode code 256 = .ok (.iload_n 3, 1) := by decide +kernel
theorem dl_257 : decode code 257 = .ok (.iconst 2, 1) := by decide +kernel
theorem dl_258 : decode code 258 = .ok (.iadd, 1) := by decide +kernel
theorem dl_259 : decode code 259 = .ok (.iaload, 1) := by decide +kernel
theorem dl_260 : decode code 260 = .ok (.aload_n 0, 1) := by decide +kernel
theorem dl_261 : decode code 261 = .ok (.iload_n 3, 1) := by decide +kernel
theorem dl_262 : decode code 262 = .ok (.iconst 3, 1) := by decide +kernel
theorem dl_263 : decode code 263 = .ok (.iadd, 1) := by decide +kernel
theorem dl_264 : decode code 264 = .ok (.iaload, 1) := by decide +kernel
theorem dl_265 : decode code 265 = .ok (.aload_n 0, 1) := by decide +kernel
theorem dl_266 : decode code 266 = .ok (.iload_n 3, 1) := by decide +kernel
theorem dl_267 : decode code 267 = .ok (.iconst 4, 1) := by decide +kernel
theorem dl_268 : decode code 268 = .ok (.iadd, 1) := by decide +kernel
theorem dl_269 : decode code 269 = .ok (.iaload, 1) := by decide +kernel
theorem dl_270 : decode code 270 = .ok (.aload_n 0, 1) := by decide +kernel
theorem dl_271 : decode code 271 = .ok (.iload_n 3, 1) := by decide +kernel
theorem dl_272 : decode code 272 = .ok (.iconst 5, 1) := by decide +kernel
theorem dl_273 : decode code 273 = .ok (.iadd, 1) := by decide +kernel
theorem dl_274 : decode code 274 = .ok (.iaload, 1) := by decide +kernel
theorem dl_275 : decode code 275 = .ok (.invokevirtual 17, 3) := by decide +kernel
theorem dl_278 : decode code 278 = .ok (.if_icmp .eq 1393, 3) := by decide +kernel
theorem dl_281 : decode code 281 = .ok (.iconst 0, 1) := by decide +kernel
theorem dl_282 : decode code 282 = .ok (.ireturn, 1) := by decide +kernel
theorem dl_283 : decode code 283 = .ok (.aload_n 1, 1) := by decide +kernel
theorem dl_284 : decode code 284 = .ok (.aload_n 0, 1) := by decide +kernel
theorem dl_285 : decode code 285 = .ok (.iload_n 3, 1) := by decide +kernel
theorem dl_286 : decode code 286 = .ok (.iconst 1, 1) := by decide +kernel
theorem dl_287 : decode code 287 = .ok (.iadd, 1) := by decide +kernel
theorem dl_288 : decode code 288 = .ok (.iaload, 1) := by decide +kernel
theorem dl_289 : decode code 289 = .ok (.invokevirtual 18, 3) := by decide +kernel
theorem dl_292 : decode code 292 = .ok (.aload_n 2, 1) := by decide +kernel
theorem dl_293 : decode code 293 = .ok (.aload_n 0, 1) := by decide +kernel
theorem dl_294 : decode code 294 = .ok (.iload_n 3, 1) := by decide +kernel
theorem dl_295 : decode code 295 = .ok (.iconst 1, 1) := by decide +kernel
theorem dl_296 : decode code 296 = .ok (.iadd, 1) := by decide +kernel
theorem dl_297 : decode code 297 = .ok (.iaload, 1) := by decide +kernel
theorem dl_298 : decode code 298 = .ok (.invokevirtual 22, 3) := by decide +kernel
theorem dl_301 : decode code 301 = .ok (.if_icmp .eq 1370, 3) := by decide +kernel
theorem dl_304 : decode code 304 = .ok (.iconst 0, 1) := by decide +kernel
theorem dl_305 : decode code 305 = .ok (.ireturn, 1) := by decide +kernel
theorem dl_306 : decode code 306 = .ok (.aload_n 1, 1) := by decide +kernel
theorem dl_307 : decode code 307 = .ok (.aload_n 0, 1) := by decide +kernel
theorem dl_308 : decode code 308 = .ok (.iload_n 3, 1) := by decide +kernel
theorem dl_309 : decode code 309 = .ok (.iconst 1, 1) := by decide +kernel
theorem dl_310 : decode code 310 = .ok (.iadd, 1) := by decide +kernel
theorem dl_311 : decode code 311 = .ok (.iaload, 1) := by decide +kernel
theorem dl_312 : decode code 312 = .ok (.invokevirtual 23, 3) := by decide +kernel
theorem dl_315 : decode code 315 = .ok (.aload_n 2, 1) := by decide +kernel
theorem dl_316 : decode code 316 = .ok (.aload_n 0, 1) := by decide +kernel
theorem dl_317 : decode code 317 = .ok (.iload_n 3, 1) := by decide +kernel
theorem dl_318 : decode code 318 = .ok (.iconst 1, 1) := by decide +kernel
theorem dl_319 : decode code 319 = .ok (.iadd, 1) := by decide +kernel
theorem dl_320 : decode code 320 = .ok (.iaload, 1) := by decide +kernel
theorem dl_321 : decode code 321 = .ok (.invokevirtual 26, 3) := by decide +kernel
theorem dl_324 : decode code 324 = .ok (.if_icmp .eq 1347, 3) := by decide +kernel
theorem dl_327 : decode code 327 = .ok (.iconst 0, 1) := by decide +kernel
theorem dl_328 : decode code 328 = .ok (.ireturn, 1) := by decide +kernel
theorem dl_329 : decode code 329 = .ok (.aload_n 1, 1) := by decide +kernel
theorem dl_330 : decode code 330 = .ok (.aload_n 0, 1) := by decide +kernel
theorem dl_331 : decode code 331 = .ok (.iload_n 3, 1) := by decide +kernel
theorem dl_332 : decode code 332 = .ok (.iconst 1, 1) := by decide +kernel
theorem dl_333 : decode code 333 = .ok (.iadd, 1) := by decide +kernel
theorem dl_334 : decode code 334 = .ok (.iaload, 1) := by decide +kernel
theorem dl_335 : decode code 335 = .ok (.aload_n 0, 1) := by decide +kernel
theorem dl_336 : decode code 336 = .ok (.iload_n 3, 1) := by decide +kernel
theorem dl_337 : decode code 337 = .ok (.iconst 2, 1) := by decide +kernel
theorem dl_338 : decode code 338 = .ok (.iadd, 1) := by decide +kernel
theorem dl_339 : decode code 339 = .ok (.iaload, 1) := by decide +kernel
theorem dl_340 : decode code 340 = .ok (.invokevirtual 27, 3) := by decide +kernel
theorem dl_343 : decode code 343 = .ok (.aload_n 2, 1) := by decide +kernel
theorem dl_344 : decode code 344 = .ok (.aload_n 0, 1) := by decide +kernel
theorem dl_345 : decode code 345 = .ok (.iload_n 3, 1) := by decide +kernel
theorem dl_346 : decode code 346 = .ok (.iconst 1, 1) := by decide +kernel
theorem dl_347 : decode code 347 = .ok (.iadd, 1) := by decide +kernel
theorem dl_348 : decode code 348 = .ok (.iaload, 1) := by decide +kernel
theorem dl_349 : decode code 349 = .ok (.aload_n 0, 1) := by decide +kernel
theorem dl_350 : decode code 350 = .ok (.iload_n 3, 1) := by decide +kernel
theorem dl_351 : decode code 351 = .ok (.iconst 2, 1) := by decide +kernel
theorem dl_352 : decode code 352 = .ok (.iadd, 1) := by decide +kernel
theorem dl_353 : decode code 353 = .ok (.iaload, 1) := by decide +kernel
theorem dl_354 : decode code 354 = .ok (.invokevirtual 31, 3) := by decide +kernel
theorem dl_357 : decode code 357 = .ok (.if_icmp .eq 1314, 3) := by decide +kernel
theorem dl_360 : decode code 360 = .ok (.iconst 0, 1) := by decide +kernel
theorem dl_361 : decode code 361 = .ok (.ireturn, 1) := by decide +kernel
theorem dl_362 : decode code 362 = .ok (.aload_n 1, 1) := by decide +kernel
theorem dl_363 : decode code 363 = .ok (.aload_n 0, 1) := by decide +kernel
theorem dl_364 : decode code 364 = .ok (.iload_n 3, 1) := by decide +kernel
theorem dl_365 : decode code 365 = .ok (.iconst 1, 1) := by decide +kernel
theorem dl_366 : decode code 366 = .ok (.iadd, 1) := by decide +kernel
theorem dl_367 : decode code 367 = .ok (.iaload, 1) := by decide +kernel
theorem dl_368 : decode code 368 = .ok (.aload_n 0, 1) := by decide +kernel
theorem dl_369 : decode code 369 = .ok (.iload_n 3, 1) := by decide +kernel
theorem dl_370 : decode code 370 = .ok (.iconst 2, 1) := by decide +kernel
theorem dl_371 : decode code 371 = .ok (.iadd, 1) := by decide +kernel
theorem dl_372 : decode code 372 = .ok (.iaload, 1) := by decide +kernel
theorem dl_373 : decode code 373 = .ok (.invokevirtual 32, 3) := by decide +kernel
theorem dl_376 : decode code 376 = .ok (.aload_n 2, 1) := by decide +kernel
theorem dl_377 : decode code 377 = .ok (.aload_n 0, 1) := by decide +kernel
theorem dl_378 : decode code 378 = .ok (.iload_n 3, 1) := by decide +kernel
theorem dl_379 : decode code 379 = .ok (.iconst 1, 1) := by decide +kernel
theorem dl_380 : decode code 380 = .ok (.iadd, 1) := by decide +kernel
theorem dl_381 : decode code 381 = .ok (.iaload, 1) := by decide +kernel
theorem dl_382 : decode code 382 = .ok (.aload_n 0, 1) := by decide +kernel
theorem dl_383 : decode code 383 = .ok (.iload_n 3, 1) := by decide +kernel
theorem dl_384 : decode code 384 = .ok (.iconst 2, 1) := by decide +kernel
theorem dl_385 : decode code 385 = .ok (.iadd, 1) := by decide +kernel
theorem dl_386 : decode code 386 = .ok (.iaload, 1) := by decide +kernel
theorem dl_387 : decode code 387 = .ok (.invokevirtual 35, 3) := by decide +kernel
theorem dl_390 : decode code 390 = .ok (.if_icmp .eq 1281, 3) := by decide +kernel
theorem dl_393 : decode code 393 = .ok (.iconst 0, 1) := by decide +kernel
theorem dl_394 : decode code 394 = .ok (.ireturn, 1) := by decide +kernel
theorem dl_395 : decode code 395 = .ok (.aload_n 1, 1) := by decide +kernel
theorem dl_396 : decode code 396 = .ok (.aload_n 0, 1) := by decide +kernel
theorem dl_397 : decode code 397 = .ok (.iload_n 3, 1) := by decide +kernel
theorem dl_398 : decode code 398 = .ok (.iconst 1, 1) := by decide +kernel
theorem dl_399 : decode code 399 = .ok (.iadd, 1) := by decide +kernel
theorem dl_400 : decode code 400 = .ok (.iaload, 1) := by decide +kernel
theorem dl_401 : decode code 401 = .ok (.invokevirtual 36, 3) := by decide +kernel
theorem dl_404 : decode code 404 = .ok (.aload_n 2, 1) := by decide +kernel
theorem dl_405 : decode code 405 = .ok (.aload_n 0, 1) := by decide +kernel
theorem dl_406 : decode code 406 = .ok (.iload_n 3, 1) := by decide +kernel
theorem dl_407 : decode code 407 = .ok (.iconst 1, 1) := by decide +kernel
theorem dl_408 : decode code 408 = .ok (.iadd, 1) := by decide +kernel
theorem dl_409 : decode code 409 = .ok (.iaload, 1) := by decide +kernel
theorem dl_410 : decode code 410 = .ok (.invokevirtual 39, 3) := by decide +kernel
theorem dl_413 : decode code 413 = .ok (.if_icmp .eq 1258, 3) := by decide +kernel
theorem dl_416 : decode code 416 = .ok (.iconst 0, 1) := by decide +kernel
theorem dl_417 : decode code 417 = .ok (.ireturn, 1) := by decide +kernel
theorem dl_418 : decode code 418 = .ok (.aload_n 1, 1) := by decide +kernel
theorem dl_419 : decode code 419 = .ok (.aload_n 0, 1) := by decide +kernel
theorem dl_420 : decode code 420 = .ok (.iload_n 3, 1) := by decide +kernel
theorem dl_421 : decode code 421 = .ok (.iconst 1, 1) := by decide +kernel
theorem dl_422 : decode code 422 = .ok (.iadd, 1) := by decide +kernel
theorem dl_423 : decode code 423 = .ok (.iaload, 1) := by decide +kernel
theorem dl_424 : decode code 424 = .ok (.invokevirtual 40, 3) := by decide +kernel
theorem dl_427 : decode code 427 = .ok (.aload_n 2, 1) := by decide +kernel
theorem dl_428 : decode code 428 = .ok (.aload_n 0, 1) := by decide +kernel
theorem dl_429 : decode code 429 = .ok (.iload_n 3, 1) := by decide +kernel
theorem dl_430 : decode code 430 = .ok (.iconst 1, 1) := by decide +kernel
theorem dl_431 : decode code 431 = .ok (.iadd, 1) := by decide +kernel
theorem dl_432 : decode code 432 = .ok (.iaload, 1) := by decide +kernel
theorem dl_433 : decode code 433 = .ok (.invokevirtual 43, 3) := by decide +kernel
theorem dl_436 : decode code 436 = .ok (.if_icmp .eq 1235, 3) := by decide +kernel
theorem dl_439 : decode code 439 = .ok (.iconst 0, 1) := by decide +kernel
theorem dl_440 : decode code 440 = .ok (.ireturn, 1) := by decide +kernel
theorem dl_441 : decode code 441 = .ok (.aload_n 1, 1) := by decide +kernel
theorem dl_442 : decode code 442 = .ok (.aload_n 0, 1) := by decide +kernel
theorem dl_443 : decode code 443 = .ok (.iload_n 3, 1) := by decide +kernel
theorem dl_444 : decode code 444 = .ok (.iconst 1, 1) := by decide +kernel
theorem dl_445 : decode code 445 = .ok (.iadd, 1) := by decide +kernel
theorem dl_446 : decode code 446 = .ok (.iaload, 1) := by decide +kernel
theorem dl_447 : decode code 447 = .ok (.invokevirtual 44, 3) := by decide +kernel
theorem dl_450 : decode code 450 = .ok (.aload_n 2, 1) := by decide +kernel
theorem dl_451 : decode code 451 = .ok (.aload_n 0, 1) := by decide +kernel
theorem dl_452 : decode code 452 = .ok (.iload_n 3, 1) := by decide +kernel
theorem dl_453 : decode code 453 = .ok (.iconst 1, 1) := by decide +kernel
theorem dl_454 : decode code 454 = .ok (.iadd, 1) := by decide +kernel
theorem dl_455 : decode code 455 = .ok (.iaload, 1) := by decide +kernel
theorem dl_456 : decode code 456 = .ok (.invokevirtual 47, 3) := by decide +kernel
theorem dl_459 : decode code 459 = .ok (.if_icmp .eq 1212, 3) := by decide +kernel
theorem dl_462 : decode code 462 = .ok (.iconst 0, 1) := by decide +kernel
theorem dl_463 : decode code 463 = .ok (.ireturn, 1) := by decide +kernel
theorem dl_464 : decode code 464 = .ok (.aload_n 1, 1) := by decide +kernel
theorem dl_465 : decode code 465 = .ok (.aload_n 0, 1) := by decide +kernel
theorem dl_466 : decode code 466 = .ok (.iload_n 3, 1) := by decide +kernel
theorem dl_467 : decode code 467 = .ok (.iconst 1, 1) := by decide +kernel
theorem dl_468 : decode code 468 = .ok (.iadd, 1) := by decide +kernel
theorem dl_469 : decode code 469 = .ok (.iaload, 1) := by decide +kernel
theorem dl_470 : decode code 470 = .ok (.invokevirtual 48, 3) := by decide +kernel
theorem dl_473 : decode code 473 = .ok (.aload_n 2, 1) := by decide +kernel
theorem dl_474 : decode code 474 = .ok (.aload_n 0, 1) := by decide +kernel
theorem dl_475 : decode code 475 = .ok (.iload_n 3, 1) := by decide +kernel
theorem dl_476 : decode code 476 = .ok (.iconst 1, 1) := by decide +kernel
theorem dl_477 : decode code 477 = .ok (.iadd, 1) := by decide +kernel
theorem dl_478 : decode code 478 = .ok (.iaload, 1) := by decide +kernel
theorem dl_479 : decode code 479 = .ok (.invokevirtual 51, 3) := by decide +kernel
theorem dl_482 : decode code 482 = .ok (.if_icmp .eq 1189, 3) := by decide +kernel
theorem dl_485 : decode code 485 = .ok (.iconst 0, 1) := by decide +kernel
theorem dl_486 : decode code 486 = .ok (.ireturn, 1) := by decide +kernel
theorem dl_487 : decode code 487 = .ok (.aload_n 1, 1) := by decide +kernel
theorem dl_488 : decode code 488 = .ok (.aload_n 0, 1) := by decide +kernel
theorem dl_489 : decode code 489 = .ok (.iload_n 3, 1) := by decide +kernel
theorem dl_490 : decode code 490 = .ok (.iconst 1, 1) := by decide +kernel
theorem dl_491 : decode code 491 = .ok (.iadd, 1) := by decide +kernel
theorem dl_492 : decode code 492 = .ok (.iaload, 1) := by decide +kernel
theorem dl_493 : decode code 493 = .ok (.aload_n 0, 1) := by decide +kernel
theorem dl_494 : decode code 494 = .ok (.iload_n 3, 1) := by decide +kernel
theorem dl_495 : decode code 495 = .ok (.iconst 2, 1) := by decide +kernel
theorem dl_496 : decode code 496 = .ok (.iadd, 1) := by decide +kernel
theorem dl_497 : decode code 497 = .ok (.iaload, 1) := by decide +kernel
theorem dl_498 : decode code 498 = .ok (.invokevirtual 52, 3) := by decide +kernel
theorem dl_501 : decode code 501 = .ok (.aload_n 2, 1) := by decide +kernel
theorem dl_502 : decode code 502 = .ok (.aload_n 0, 1) := by decide +kernel
theorem dl_503 : decode code 503 = .ok (.iload_n 3, 1) := by decide +kernel
theorem dl_504 : decode code 504 = .ok (.iconst 1, 1) := by decide +kernel
theorem dl_505 : decode code 505 = .ok (.iadd, 1) := by decide +kernel
theorem dl_506 : decode code 506 = .ok (.iaload, 1) := by decide +kernel
theorem dl_507 : decode code 507 = .ok (.aload_n 0, 1) := by decide +kernel
theorem dl_508 : decode code 508 = .ok (.iload_n 3, 1) := by decide +kernel
theorem dl_509 : decode code 509 = .ok (.iconst 2, 1) := by decide +kernel
theorem dl_510 : decode code 510 = .ok (.iadd, 1) := by decide +kernel
theorem dl_511 : decode code 511 = .ok (.iaload, 1) := by decide +kernel
theorem dl_512 : decode code 512 = .ok (.invokevirtual 55, 3) := by decide +kernel
theorem dl_515 : decode code 515 = .ok (.if_icmp .eq 1156, 3) := by decide +kernel
theorem dl_518 : decode code 518 = .ok (.iconst 0, 1) := by decide +kernel
theorem dl_519 : decode code 519 = .ok (.ireturn, 1) := by decide +kernel
theorem dl_520 : decode code 520 = .ok (.aload_n 1, 1) := by decide +kernel
theorem dl_521 : decode code 521 = .ok (.aload_n 0, 1) := by decide +kernel
theorem dl_522 : decode code 522 = .ok (.iload_n 3, 1) := by decide +kernel
theorem dl_523 : decode code 523 = .ok (.iconst 1, 1) := by decide +kernel
theorem dl_524 : decode code 524 = .ok (.iadd, 1) := by decide +kernel
theorem dl_525 : decode code 525 = .ok (.iaload, 1) := by decide +kernel
theorem dl_526 : decode code 526 = .ok (.aload_n 0, 1) := by decide +kernel
theorem dl_527 : decode code 527 = .ok (.iload_n 3, 1) := by decide +kernel
theorem dl_528 : decode code 528 = .ok (.iconst 2, 1) := by decide +kernel
theorem dl_529 : decode code 529 = .ok (.iadd, 1) := by decide +kernel
theorem dl_530 : decode code 530 = .ok (.iaload, 1) := by decide +kernel
theorem dl_531 : decode code 531 = .ok (.invokevirtual 56, 3) := by decide +kernel
theorem dl_534 : decode code 534 = .ok (.aload_n 2, 1) := by decide +kernel
theorem dl_535 : decode code 535 = .ok (.aload_n 0, 1) := by decide +kernel
theorem dl_536 : decode code 536 = .ok (.iload_n 3, 1) := by decide +kernel
theorem dl_537 : decode code 537 = .ok (.iconst 1, 1) := by decide +kernel
theorem dl_538 : decode code 538 = .ok (.iadd, 1) := by decide +kernel
theorem dl_539 : decode code 539 = .ok (.iaload, 1) := by decide +kernel
theorem dl_540 : decode code 540 = .ok (.aload_n 0, 1) := by decide +kernel
theorem dl_541 : decode code 541 = .ok (.iload_n 3, 1) := by decide +kernel
theorem dl_542 : decode code 542 = .ok (.iconst 2, 1) := by decide +kernel
theorem dl_543 : decode code 543 = .ok (.iadd, 1) := by decide +kernel
theorem dl_544 : decode code 544 = .ok (.iaload, 1) := by decide +kernel
theorem dl_545 : decode code 545 = .ok (.invokevirtual 59, 3) := by decide +kernel
theorem dl_548 : decode code 548 = .ok (.if_icmp .eq 1123, 3) := by decide +kernel
theorem dl_551 : decode code 551 = .ok (.iconst 0, 1) := by decide +kernel
theorem dl_552 : decode code 552 = .ok (.ireturn, 1) := by decide +kernel
theorem dl_553 : decode code 553 = .ok (.aload_n 1, 1) := by decide +kernel
theorem dl_554 : decode code 554 = .ok (.invokevirtual 60, 3) := by decide +kernel
theorem dl_557 : decode code 557 = .ok (.aload_n 2, 1) := by decide +kernel
theorem dl_558 : decode code 558 = .ok (.invokevirtual 64, 3) := by decide +kernel
theorem dl_561 : decode code 561 = .ok (.if_icmp .eq 1110, 3) := by decide +kernel
theorem dl_564 : decode code 564 = .ok (.iconst 0, 1) := by decide +kernel
theorem dl_565 : decode code 565 = .ok (.ireturn, 1) := by decide +kernel
theorem dl_566 : decode code 566 = .ok (.aload_n 1, 1) := by decide +kernel
theorem dl_567 : decode code 567 = .ok (.aload_n 0, 1) := by decide +kernel
theorem dl_568 : decode code 568 = .ok (.iload_n 3, 1) := by decide +kernel
theorem dl_569 : decode code 569 = .ok (.iconst 1, 1) := by decide +kernel
theorem dl_570 : decode code 570 = .ok (.iadd, 1) := by decide +kernel
theorem dl_571 : decode code 571 = .ok (.iaload, 1) := by decide +kernel
theorem dl_572 : decode code 572 = .ok (.invokevirtual 65, 3) := by decide +kernel
theorem dl_575 : decode code 575 = .ok (.aload_n 2, 1) := by decide +kernel
