/-! THE LAW: its instructions and words (by wip/whole/gen4/mk711.py) -/
theorem dL_0 : decode code 0 = .ok (.new 7, 3) := by decide +kernel
theorem dL_3 : decode code 3 = .ok (.dup, 1) := by decide +kernel
theorem dL_4 : decode code 4 = .ok (.invokespecial 9, 3) := by decide +kernel
theorem dL_7 : decode code 7 = .ok (.astore_n 1, 1) := by decide +kernel
theorem dL_8 : decode code 8 = .ok (.new 10, 3) := by decide +kernel
theorem dL_11 : decode code 11 = .ok (.dup, 1) := by decide +kernel
theorem dL_12 : decode code 12 = .ok (.invokespecial 12, 3) := by decide +kernel
theorem dL_15 : decode code 15 = .ok (.astore_n 2, 1) := by decide +kernel
theorem dL_16 : decode code 16 = .ok (.iconst 0, 1) := by decide +kernel
theorem dL_17 : decode code 17 = .ok (.istore_n 3, 1) := by decide +kernel
theorem dL_18 : decode code 18 = .ok (.iload_n 3, 1) := by decide +kernel
theorem dL_19 : decode code 19 = .ok (.aload_n 0, 1) := by decide +kernel
theorem dL_20 : decode code 20 = .ok (.arraylength, 1) := by decide +kernel
theorem dL_21 : decode code 21 = .ok (.bipush 6, 2) := by decide +kernel
theorem dL_23 : decode code 23 = .ok (.isub, 1) := by decide +kernel
theorem dL_24 : decode code 24 = .ok (.if_icmp .gt 1388, 3) := by decide +kernel
theorem dL_27 : decode code 27 = .ok (.aload_n 0, 1) := by decide +kernel
theorem dL_28 : decode code 28 = .ok (.iload_n 3, 1) := by decide +kernel
theorem dL_29 : decode code 29 = .ok (.iaload, 1) := by decide +kernel
theorem dL_30 : decode code 30 = .ok (.bipush 63, 2) := by decide +kernel
theorem dL_32 : decode code 32 = .ok (.iand, 1) := by decide +kernel
theorem dL_33 : decode code 33 = .ok (.tableswitch 1373 0 43 #[191, 254, 277, 290, 313, 336, 379, 412, 445, 488, 531, 574, 607, 640, 673, 706, 719, 732, 755, 778, 811, 844, 867, 890, 913, 936, 959, 982, 1005, 1028, 1051, 1074, 1097, 1130, 1153, 1186, 1219, 1242, 1265, 1278, 1301, 1314, 1337, 1350], 191) := by decide +kernel
theorem dL_224 : decode code 224 = .ok (.aload_n 1, 1) := by decide +kernel
theorem dL_225 : decode code 225 = .ok (.aload_n 0, 1) := by decide +kernel
theorem dL_226 : decode code 226 = .ok (.iload_n 3, 1) := by decide +kernel
theorem dL_227 : decode code 227 = .ok (.iconst 1, 1) := by decide +kernel
theorem dL_228 : decode code 228 = .ok (.iadd, 1) := by decide +kernel
theorem dL_229 : decode code 229 = .ok (.iaload, 1) := by decide +kernel
theorem dL_230 : decode code 230 = .ok (.aload_n 0, 1) := by decide +kernel
theorem dL_231 : decode code 231 = .ok (.iload_n 3, 1) := by decide +kernel
theorem dL_232 : decode code 232 = .ok (.iconst 2, 1) := by decide +kernel
theorem dL_233 : decode code 233 = .ok (.iadd, 1) := by decide +kernel
theorem dL_234 : decode code 234 = .ok (.iaload, 1) := by decide +kernel
theorem dL_235 : decode code 235 = .ok (.aload_n 0, 1) := by decide +kernel
theorem dL_236 : decode code 236 = .ok (.iload_n 3, 1) := by decide +kernel
theorem dL_237 : decode code 237 = .ok (.iconst 3, 1) := by decide +kernel
theorem dL_238 : decode code 238 = .ok (.iadd, 1) := by decide +kernel
theorem dL_239 : decode code 239 = .ok (.iaload, 1) := by decide +kernel
theorem dL_240 : decode code 240 = .ok (.aload_n 0, 1) := by decide +kernel
theorem dL_241 : decode code 241 = .ok (.iload_n 3, 1) := by decide +kernel
theorem dL_242 : decode code 242 = .ok (.iconst 4, 1) := by decide +kernel
theorem dL_243 : decode code 243 = .ok (.iadd, 1) := by decide +kernel
theorem dL_244 : decode code 244 = .ok (.iaload, 1) := by decide +kernel
theorem dL_245 : decode code 245 = .ok (.aload_n 0, 1) := by decide +kernel
theorem dL_246 : decode code 246 = .ok (.iload_n 3, 1) := by decide +kernel
theorem dL_247 : decode code 247 = .ok (.iconst 5, 1) := by decide +kernel
theorem dL_248 : decode code 248 = .ok (.iadd, 1) := by decide +kernel
theorem dL_249 : decode code 249 = .ok (.iaload, 1) := by decide +kernel
theorem dL_250 : decode code 250 = .ok (.invokevirtual 13, 3) := by decide +kernel
theorem dL_253 : decode code 253 = .ok (.aload_n 2, 1) := by decide +kernel
theorem dL_254 : decode code 254 = .ok (.aload_n 0, 1) := by decide +kernel
theorem dL_255 : decode code 255 = .ok (.iload_n 3, 1) := by decide +kernel
theorem dL_256 : decode code 256 = .ok (.iconst 1, 1) := by decide +kernel
theorem dL_257 : decode code 257 = .ok (.iadd, 1) := by decide +kernel
theorem dL_258 : decode code 258 = .ok (.iaload, 1) := by decide +kernel
theorem dL_259 : decode code 259 = .ok (.aload_n 0, 1) := by decide +kernel
theorem dL_260 : decode code 260 = .ok (.iload_n 3, 1) := by decide +kernel
theorem dL_261 : decode code 261 = .ok (.iconst 2, 1) := by decide +kernel
theorem dL_262 : decode code 262 = .ok (.iadd, 1) := by decide +kernel
theorem dL_263 : decode code 263 = .ok (.iaload, 1) := by decide +kernel
theorem dL_264 : decode code 264 = .ok (.aload_n 0, 1) := by decide +kernel
theorem dL_265 : decode code 265 = .ok (.iload_n 3, 1) := by decide +kernel
theorem dL_266 : decode code 266 = .ok (.iconst 3, 1) := by decide +kernel
theorem dL_267 : decode code 267 = .ok (.iadd, 1) := by decide +kernel
theorem dL_268 : decode code 268 = .ok (.iaload, 1) := by decide +kernel
theorem dL_269 : decode code 269 = .ok (.aload_n 0, 1) := by decide +kernel
theorem dL_270 : decode code 270 = .ok (.iload_n 3, 1) := by decide +kernel
theorem dL_271 : decode code 271 = .ok (.iconst 4, 1) := by decide +kernel
theorem dL_272 : decode code 272 = .ok (.iadd, 1) := by decide +kernel
theorem dL_273 : decode code 273 = .ok (.iaload, 1) := by decide +kernel
theorem dL_274 : decode code 274 = .ok (.aload_n 0, 1) := by decide +kernel
theorem dL_275 : decode code 275 = .ok (.iload_n 3, 1) := by decide +kernel
theorem dL_276 : decode code 276 = .ok (.iconst 5, 1) := by decide +kernel
theorem dL_277 : decode code 277 = .ok (.iadd, 1) := by decide +kernel
theorem dL_278 : decode code 278 = .ok (.iaload, 1) := by decide +kernel
theorem dL_279 : decode code 279 = .ok (.invokevirtual 17, 3) := by decide +kernel
theorem dL_282 : decode code 282 = .ok (.if_icmp .eq 1124, 3) := by decide +kernel
theorem dL_285 : decode code 285 = .ok (.iconst 0, 1) := by decide +kernel
theorem dL_286 : decode code 286 = .ok (.ireturn, 1) := by decide +kernel
theorem dL_287 : decode code 287 = .ok (.aload_n 1, 1) := by decide +kernel
theorem dL_288 : decode code 288 = .ok (.aload_n 0, 1) := by decide +kernel
theorem dL_289 : decode code 289 = .ok (.iload_n 3, 1) := by decide +kernel
theorem dL_290 : decode code 290 = .ok (.iconst 1, 1) := by decide +kernel
theorem dL_291 : decode code 291 = .ok (.iadd, 1) := by decide +kernel
theorem dL_292 : decode code 292 = .ok (.iaload, 1) := by decide +kernel
theorem dL_293 : decode code 293 = .ok (.invokevirtual 18, 3) := by decide +kernel
theorem dL_296 : decode code 296 = .ok (.aload_n 2, 1) := by decide +kernel
theorem dL_297 : decode code 297 = .ok (.aload_n 0, 1) := by decide +kernel
theorem dL_298 : decode code 298 = .ok (.iload_n 3, 1) := by decide +kernel
theorem dL_299 : decode code 299 = .ok (.iconst 1, 1) := by decide +kernel
theorem dL_300 : decode code 300 = .ok (.iadd, 1) := by decide +kernel
theorem dL_301 : decode code 301 = .ok (.iaload, 1) := by decide +kernel
theorem dL_302 : decode code 302 = .ok (.invokevirtual 22, 3) := by decide +kernel
theorem dL_305 : decode code 305 = .ok (.if_icmp .eq 1101, 3) := by decide +kernel
theorem dL_308 : decode code 308 = .ok (.iconst 0, 1) := by decide +kernel
theorem dL_309 : decode code 309 = .ok (.ireturn, 1) := by decide +kernel
theorem dL_310 : decode code 310 = .ok (.aload_n 1, 1) := by decide +kernel
theorem dL_311 : decode code 311 = .ok (.invokevirtual 23, 3) := by decide +kernel
theorem dL_314 : decode code 314 = .ok (.aload_n 2, 1) := by decide +kernel
theorem dL_315 : decode code 315 = .ok (.invokevirtual 27, 3) := by decide +kernel
theorem dL_318 : decode code 318 = .ok (.if_icmp .eq 1088, 3) := by decide +kernel
theorem dL_321 : decode code 321 = .ok (.iconst 0, 1) := by decide +kernel
theorem dL_322 : decode code 322 = .ok (.ireturn, 1) := by decide +kernel
theorem dL_323 : decode code 323 = .ok (.aload_n 1, 1) := by decide +kernel
theorem dL_324 : decode code 324 = .ok (.aload_n 0, 1) := by decide +kernel
theorem dL_325 : decode code 325 = .ok (.iload_n 3, 1) := by decide +kernel
theorem dL_326 : decode code 326 = .ok (.iconst 1, 1) := by decide +kernel
theorem dL_327 : decode code 327 = .ok (.iadd, 1) := by decide +kernel
theorem dL_328 : decode code 328 = .ok (.iaload, 1) := by decide +kernel
theorem dL_329 : decode code 329 = .ok (.invokevirtual 28, 3) := by decide +kernel
theorem dL_332 : decode code 332 = .ok (.aload_n 2, 1) := by decide +kernel
theorem dL_333 : decode code 333 = .ok (.aload_n 0, 1) := by decide +kernel
theorem dL_334 : decode code 334 = .ok (.iload_n 3, 1) := by decide +kernel
theorem dL_335 : decode code 335 = .ok (.iconst 1, 1) := by decide +kernel
theorem dL_336 : decode code 336 = .ok (.iadd, 1) := by decide +kernel
theorem dL_337 : decode code 337 = .ok (.iaload, 1) := by decide +kernel
theorem dL_338 : decode code 338 = .ok (.invokevirtual 32, 3) := by decide +kernel
theorem dL_341 : decode code 341 = .ok (.if_icmp .eq 1065, 3) := by decide +kernel
theorem dL_344 : decode code 344 = .ok (.iconst 0, 1) := by decide +kernel
theorem dL_345 : decode code 345 = .ok (.ireturn, 1) := by decide +kernel
theorem dL_346 : decode code 346 = .ok (.aload_n 1, 1) := by decide +kernel
theorem dL_347 : decode code 347 = .ok (.aload_n 0, 1) := by decide +kernel
theorem dL_348 : decode code 348 = .ok (.iload_n 3, 1) := by decide +kernel
theorem dL_349 : decode code 349 = .ok (.iconst 1, 1) := by decide +kernel
theorem dL_350 : decode code 350 = .ok (.iadd, 1) := by decide +kernel
theorem dL_351 : decode code 351 = .ok (.iaload, 1) := by decide +kernel
theorem dL_352 : decode code 352 = .ok (.invokevirtual 33, 3) := by decide +kernel
theorem dL_355 : decode code 355 = .ok (.aload_n 2, 1) := by decide +kernel
theorem dL_356 : decode code 356 = .ok (.aload_n 0, 1) := by decide +kernel
theorem dL_357 : decode code 357 = .ok (.iload_n 3, 1) := by decide +kernel
theorem dL_358 : decode code 358 = .ok (.iconst 1, 1) := by decide +kernel
theorem dL_359 : decode code 359 = .ok (.iadd, 1) := by decide +kernel
theorem dL_360 : decode code 360 = .ok (.iaload, 1) := by decide +kernel
theorem dL_361 : decode code 361 = .ok (.invokevirtual 36, 3) := by decide +kernel
theorem dL_364 : decode code 364 = .ok (.if_icmp .eq 1042, 3) := by decide +kernel
theorem dL_367 : decode code 367 = .ok (.iconst 0, 1) := by decide +kernel
theorem dL_368 : decode code 368 = .ok (.ireturn, 1) := by decide +kernel
theorem dL_369 : decode code 369 = .ok (.aload_n 1, 1) := by decide +kernel
theorem dL_370 : decode code 370 = .ok (.aload_n 0, 1) := by decide +kernel
theorem dL_371 : decode code 371 = .ok (.iload_n 3, 1) := by decide +kernel
theorem dL_372 : decode code 372 = .ok (.iconst 1, 1) := by decide +kernel
theorem dL_373 : decode code 373 = .ok (.iadd, 1) := by decide +kernel
theorem dL_374 : decode code 374 = .ok (.iaload, 1) := by decide +kernel
theorem dL_375 : decode code 375 = .ok (.aload_n 0, 1) := by decide +kernel
theorem dL_376 : decode code 376 = .ok (.iload_n 3, 1) := by decide +kernel
theorem dL_377 : decode code 377 = .ok (.iconst 2, 1) := by decide +kernel
theorem dL_378 : decode code 378 = .ok (.iadd, 1) := by decide +kernel
theorem dL_379 : decode code 379 = .ok (.iaload, 1) := by decide +kernel
theorem dL_380 : decode code 380 = .ok (.aload_n 0, 1) := by decide +kernel
theorem dL_381 : decode code 381 = .ok (.iload_n 3, 1) := by decide +kernel
theorem dL_382 : decode code 382 = .ok (.iconst 3, 1) := by decide +kernel
theorem dL_383 : decode code 383 = .ok (.iadd, 1) := by decide +kernel
theorem dL_384 : decode code 384 = .ok (.iaload, 1) := by decide +kernel
theorem dL_385 : decode code 385 = .ok (.invokevirtual 37, 3) := by decide +kernel
theorem dL_388 : decode code 388 = .ok (.aload_n 2, 1) := by decide +kernel
theorem dL_389 : decode code 389 = .ok (.aload_n 0, 1) := by decide +kernel
theorem dL_390 : decode code 390 = .ok (.iload_n 3, 1) := by decide +kernel
theorem dL_391 : decode code 391 = .ok (.iconst 1, 1) := by decide +kernel
theorem dL_392 : decode code 392 = .ok (.iadd, 1) := by decide +kernel
theorem dL_393 : decode code 393 = .ok (.iaload, 1) := by decide +kernel
theorem dL_394 : decode code 394 = .ok (.aload_n 0, 1) := by decide +kernel
theorem dL_395 : decode code 395 = .ok (.iload_n 3, 1) := by decide +kernel
theorem dL_396 : decode code 396 = .ok (.iconst 2, 1) := by decide +kernel
theorem dL_397 : decode code 397 = .ok (.iadd, 1) := by decide +kernel
theorem dL_398 : decode code 398 = .ok (.iaload, 1) := by decide +kernel
theorem dL_399 : decode code 399 = .ok (.aload_n 0, 1) := by decide +kernel
theorem dL_400 : decode code 400 = .ok (.iload_n 3, 1) := by decide +kernel
theorem dL_401 : decode code 401 = .ok (.iconst 3, 1) := by decide +kernel
theorem dL_402 : decode code 402 = .ok (.iadd, 1) := by decide +kernel
theorem dL_403 : decode code 403 = .ok (.iaload, 1) := by decide +kernel
theorem dL_404 : decode code 404 = .ok (.invokevirtual 41, 3) := by decide +kernel
theorem dL_407 : decode code 407 = .ok (.if_icmp .eq 999, 3) := by decide +kernel
theorem dL_410 : decode code 410 = .ok (.iconst 0, 1) := by decide +kernel
theorem dL_411 : decode code 411 = .ok (.ireturn, 1) := by decide +kernel
theorem dL_412 : decode code 412 = .ok (.aload_n 1, 1) := by decide +kernel
theorem dL_413 : decode code 413 = .ok (.aload_n 0, 1) := by decide +kernel
theorem dL_414 : decode code 414 = .ok (.iload_n 3, 1) := by decide +kernel
theorem dL_415 : decode code 415 = .ok (.iconst 1, 1) := by decide +kernel
theorem dL_416 : decode code 416 = .ok (.iadd, 1) := by decide +kernel
theorem dL_417 : decode code 417 = .ok (.iaload, 1) := by decide +kernel
theorem dL_418 : decode code 418 = .ok (.aload_n 0, 1) := by decide +kernel
theorem dL_419 : decode code 419 = .ok (.iload_n 3, 1) := by decide +kernel
theorem dL_420 : decode code 420 = .ok (.iconst 2, 1) := by decide +kernel
theorem dL_421 : decode code 421 = .ok (.iadd, 1) := by decide +kernel
theorem dL_422 : decode code 422 = .ok (.iaload, 1) := by decide +kernel
theorem dL_423 : decode code 423 = .ok (.invokevirtual 42, 3) := by decide +kernel
theorem dL_426 : decode code 426 = .ok (.aload_n 2, 1) := by decide +kernel
theorem dL_427 : decode code 427 = .ok (.aload_n 0, 1) := by decide +kernel
theorem dL_428 : decode code 428 = .ok (.iload_n 3, 1) := by decide +kernel
theorem dL_429 : decode code 429 = .ok (.iconst 1, 1) := by decide +kernel
theorem dL_430 : decode code 430 = .ok (.iadd, 1) := by decide +kernel
theorem dL_431 : decode code 431 = .ok (.iaload, 1) := by decide +kernel
theorem dL_432 : decode code 432 = .ok (.aload_n 0, 1) := by decide +kernel
theorem dL_433 : decode code 433 = .ok (.iload_n 3, 1) := by decide +kernel
theorem dL_434 : decode code 434 = .ok (.iconst 2, 1) := by decide +kernel
theorem dL_435 : decode code 435 = .ok (.iadd, 1) := by decide +kernel
theorem dL_436 : decode code 436 = .ok (.iaload, 1) := by decide +kernel
theorem dL_437 : decode code 437 = .ok (.invokevirtual 46, 3) := by decide +kernel
theorem dL_440 : decode code 440 = .ok (.if_icmp .eq 966, 3) := by decide +kernel
theorem dL_443 : decode code 443 = .ok (.iconst 0, 1) := by decide +kernel
theorem dL_444 : decode code 444 = .ok (.ireturn, 1) := by decide +kernel
theorem dL_445 : decode code 445 = .ok (.aload_n 1, 1) := by decide +kernel
theorem dL_446 : decode code 446 = .ok (.aload_n 0, 1) := by decide +kernel
theorem dL_447 : decode code 447 = .ok (.iload_n 3, 1) := by decide +kernel
theorem dL_448 : decode code 448 = .ok (.iconst 1, 1) := by decide +kernel
theorem dL_449 : decode code 449 = .ok (.iadd, 1) := by decide +kernel
theorem dL_450 : decode code 450 = .ok (.iaload, 1) := by decide +kernel
theorem dL_451 : decode code 451 = .ok (.aload_n 0, 1) := by decide +kernel
theorem dL_452 : decode code 452 = .ok (.iload_n 3, 1) := by decide +kernel
theorem dL_453 : decode code 453 = .ok (.iconst 2, 1) := by decide +kernel
theorem dL_454 : decode code 454 = .ok (.iadd, 1) := by decide +kernel
theorem dL_455 : decode code 455 = .ok (.iaload, 1) := by decide +kernel
theorem dL_456 : decode code 456 = .ok (.invokevirtual 47, 3) := by decide +kernel
theorem dL_459 : decode code 459 = .ok (.aload_n 2, 1) := by decide +kernel
theorem dL_460 : decode code 460 = .ok (.aload_n 0, 1) := by decide +kernel
theorem dL_461 : decode code 461 = .ok (.iload_n 3, 1) := by decide +kernel
theorem dL_462 : decode code 462 = .ok (.iconst 1, 1) := by decide +kernel
theorem dL_463 : decode code 463 = .ok (.iadd, 1) := by decide +kernel
theorem dL_464 : decode code 464 = .ok (.iaload, 1) := by decide +kernel
theorem dL_465 : decode code 465 = .ok (.aload_n 0, 1) := by decide +kernel
theorem dL_466 : decode code 466 = .ok (.iload_n 3, 1) := by decide +kernel
theorem dL_467 : decode code 467 = .ok (.iconst 2, 1) := by decide +kernel
theorem dL_468 : decode code 468 = .ok (.iadd, 1) := by decide +kernel
theorem dL_469 : decode code 469 = .ok (.iaload, 1) := by decide +kernel
theorem dL_470 : decode code 470 = .ok (.invokevirtual 50, 3) := by decide +kernel
theorem dL_473 : decode code 473 = .ok (.if_icmp .eq 933, 3) := by decide +kernel
theorem dL_476 : decode code 476 = .ok (.iconst 0, 1) := by decide +kernel
theorem dL_477 : decode code 477 = .ok (.ireturn, 1) := by decide +kernel
theorem dL_478 : decode code 478 = .ok (.aload_n 1, 1) := by decide +kernel
theorem dL_479 : decode code 479 = .ok (.aload_n 0, 1) := by decide +kernel
theorem dL_480 : decode code 480 = .ok (.iload_n 3, 1) := by decide +kernel
theorem dL_481 : decode code 481 = .ok (.iconst 1, 1) := by decide +kernel
theorem dL_482 : decode code 482 = .ok (.iadd, 1) := by decide +kernel
theorem dL_483 : decode code 483 = .ok (.iaload, 1) := by decide +kernel
theorem dL_484 : decode code 484 = .ok (.aload_n 0, 1) := by decide +kernel
theorem dL_485 : decode code 485 = .ok (.iload_n 3, 1) := by decide +kernel
theorem dL_486 : decode code 486 = .ok (.iconst 2, 1) := by decide +kernel
theorem dL_487 : decode code 487 = .ok (.iadd, 1) := by decide +kernel
theorem dL_488 : decode code 488 = .ok (.iaload, 1) := by decide +kernel
theorem dL_489 : decode code 489 = .ok (.aload_n 0, 1) := by decide +kernel
theorem dL_490 : decode code 490 = .ok (.iload_n 3, 1) := by decide +kernel
theorem dL_491 : decode code 491 = .ok (.iconst 3, 1) := by decide +kernel
theorem dL_492 : decode code 492 = .ok (.iadd, 1) := by decide +kernel
theorem dL_493 : decode code 493 = .ok (.iaload, 1) := by decide +kernel
theorem dL_494 : decode code 494 = .ok (.invokevirtual 51, 3) := by decide +kernel
theorem dL_497 : decode code 497 = .ok (.aload_n 2, 1) := by decide +kernel
theorem dL_498 : decode code 498 = .ok (.aload_n 0, 1) := by decide +kernel
theorem dL_499 : decode code 499 = .ok (.iload_n 3, 1) := by decide +kernel
theorem dL_500 : decode code 500 = .ok (.iconst 1, 1) := by decide +kernel
theorem dL_501 : decode code 501 = .ok (.iadd, 1) := by decide +kernel
theorem dL_502 : decode code 502 = .ok (.iaload, 1) := by decide +kernel
theorem dL_503 : decode code 503 = .ok (.aload_n 0, 1) := by decide +kernel
theorem dL_504 : decode code 504 = .ok (.iload_n 3, 1) := by decide +kernel
theorem dL_505 : decode code 505 = .ok (.iconst 2, 1) := by decide +kernel
theorem dL_506 : decode code 506 = .ok (.iadd, 1) := by decide +kernel
theorem dL_507 : decode code 507 = .ok (.iaload, 1) := by decide +kernel
theorem dL_508 : decode code 508 = .ok (.aload_n 0, 1) := by decide +kernel
theorem dL_509 : decode code 509 = .ok (.iload_n 3, 1) := by decide +kernel
theorem dL_510 : decode code 510 = .ok (.iconst 3, 1) := by decide +kernel
theorem dL_511 : decode code 511 = .ok (.iadd, 1) := by decide +kernel
theorem dL_512 : decode code 512 = .ok (.iaload, 1) := by decide +kernel
theorem dL_513 : decode code 513 = .ok (.invokevirtual 54, 3) := by decide +kernel
theorem dL_516 : decode code 516 = .ok (.if_icmp .eq 890, 3) := by decide +kernel
theorem dL_519 : decode code 519 = .ok (.iconst 0, 1) := by decide +kernel
theorem dL_520 : decode code 520 = .ok (.ireturn, 1) := by decide +kernel
theorem dL_521 : decode code 521 = .ok (.aload_n 1, 1) := by decide +kernel
theorem dL_522 : decode code 522 = .ok (.aload_n 0, 1) := by decide +kernel
theorem dL_523 : decode code 523 = .ok (.iload_n 3, 1) := by decide +kernel
theorem dL_524 : decode code 524 = .ok (.iconst 1, 1) := by decide +kernel
theorem dL_525 : decode code 525 = .ok (.iadd, 1) := by decide +kernel
theorem dL_526 : decode code 526 = .ok (.iaload, 1) := by decide +kernel
theorem dL_527 : decode code 527 = .ok (.aload_n 0, 1) := by decide +kernel
theorem dL_528 : decode code 528 = .ok (.iload_n 3, 1) := by decide +kernel
theorem dL_529 : decode code 529 = .ok (.iconst 2, 1) := by decide +kernel
theorem dL_530 : decode code 530 = .ok (.iadd, 1) := by decide +kernel
theorem dL_531 : decode code 531 = .ok (.iaload, 1) := by decide +kernel
theorem dL_532 : decode code 532 = .ok (.aload_n 0, 1) := by decide +kernel
theorem dL_533 : decode code 533 = .ok (.iload_n 3, 1) := by decide +kernel
theorem dL_534 : decode code 534 = .ok (.iconst 3, 1) := by decide +kernel
theorem dL_535 : decode code 535 = .ok (.iadd, 1) := by decide +kernel
theorem dL_536 : decode code 536 = .ok (.iaload, 1) := by decide +kernel
theorem dL_537 : decode code 537 = .ok (.invokevirtual 55, 3) := by decide +kernel
theorem dL_540 : decode code 540 = .ok (.aload_n 2, 1) := by decide +kernel
theorem dL_541 : decode code 541 = .ok (.aload_n 0, 1) := by decide +kernel
theorem dL_542 : decode code 542 = .ok (.iload_n 3, 1) := by decide +kernel
theorem dL_543 : decode code 543 = .ok (.iconst 1, 1) := by decide +kernel
theorem dL_544 : decode code 544 = .ok (.iadd, 1) := by decide +kernel
theorem dL_545 : decode code 545 = .ok (.iaload, 1) := by decide +kernel
theorem dL_546 : decode code 546 = .ok (.aload_n 0, 1) := by decide +kernel
theorem dL_547 : decode code 547 = .ok (.iload_n 3, 1) := by decide +kernel
theorem dL_548 : decode code 548 = .ok (.iconst 2, 1) := by decide +kernel
theorem dL_549 : decode code 549 = .ok (.iadd, 1) := by decide +kernel
theorem dL_550 : decode code 550 = .ok (.iaload, 1) := by decide +kernel
theorem dL_551 : decode code 551 = .ok (.aload_n 0, 1) := by decide +kernel
theorem dL_552 : decode code 552 = .ok (.iload_n 3, 1) := by decide +kernel
theorem dL_553 : decode code 553 = .ok (.iconst 3, 1) := by decide +kernel
theorem dL_554 : decode code 554 = .ok (.iadd, 1) := by decide +kernel
theorem dL_555 : decode code 555 = .ok (.iaload, 1) := by decide +kernel
theorem dL_556 : decode code 556 = .ok (.invokevirtual 58, 3) := by decide +kernel
theorem dL_559 : decode code 559 = .ok (.if_icmp .eq 847, 3) := by decide +kernel
theorem dL_562 : decode code 562 = .ok (.iconst 0, 1) := by decide +kernel
theorem dL_563 : decode code 563 = .ok (.ireturn, 1) := by decide +kernel
theorem dL_564 : decode code 564 = .ok (.aload_n 1, 1) := by decide +kernel
theorem dL_565 : decode code 565 = .ok (.aload_n 0, 1) := by decide +kernel
theorem dL_566 : decode code 566 = .ok (.iload_n 3, 1) := by decide +kernel
theorem dL_567 : decode code 567 = .ok (.iconst 1, 1) := by decide +kernel
theorem dL_568 : decode code 568 = .ok (.iadd, 1) := by decide +kernel
theorem dL_569 : decode code 569 = .ok (.iaload, 1) := by decide +kernel
theorem dL_570 : decode code 570 = .ok (.aload_n 0, 1) := by decide +kernel
theorem dL_571 : decode code 571 = .ok (.iload_n 3, 1) := by decide +kernel
theorem dL_572 : decode code 572 = .ok (.iconst 2, 1) := by decide +kernel
theorem dL_573 : decode code 573 = .ok (.iadd, 1) := by decide +kernel
theorem dL_574 : decode code 574 = .ok (.iaload, 1) := by decide +kernel
theorem dL_575 : decode code 575 = .ok (.aload_n 0, 1) := by decide +kernel
theorem dL_576 : decode code 576 = .ok (.iload_n 3, 1) := by decide +kernel
theorem dL_577 : decode code 577 = .ok (.iconst 3, 1) := by decide +kernel
theorem dL_578 : decode code 578 = .ok (.iadd, 1) := by decide +kernel
theorem dL_579 : decode code 579 = .ok (.iaload, 1) := by decide +kernel
theorem dL_580 : decode code 580 = .ok (.invokevirtual 59, 3) := by decide +kernel
theorem dL_583 : decode code 583 = .ok (.aload_n 2, 1) := by decide +kernel
theorem dL_584 : decode code 584 = .ok (.aload_n 0, 1) := by decide +kernel
theorem dL_585 : decode code 585 = .ok (.iload_n 3, 1) := by decide +kernel
theorem dL_586 : decode code 586 = .ok (.iconst 1, 1) := by decide +kernel
theorem dL_587 : decode code 587 = .ok (.iadd, 1) := by decide +kernel
theorem dL_588 : decode code 588 = .ok (.iaload, 1) := by decide +kernel
theorem dL_589 : decode code 589 = .ok (.aload_n 0, 1) := by decide +kernel
theorem dL_590 : decode code 590 = .ok (.iload_n 3, 1) := by decide +kernel
theorem dL_591 : decode code 591 = .ok (.iconst 2, 1) := by decide +kernel
theorem dL_592 : decode code 592 = .ok (.iadd, 1) := by decide +kernel
theorem dL_593 : decode code 593 = .ok (.iaload, 1) := by decide +kernel
theorem dL_594 : decode code 594 = .ok (.aload_n 0, 1) := by decide +kernel
theorem dL_595 : decode code 595 = .ok (.iload_n 3, 1) := by decide +kernel
theorem dL_596 : decode code 596 = .ok (.iconst 3, 1) := by decide +kernel
theorem dL_597 : decode code 597 = .ok (.iadd, 1) := by decide +kernel
theorem dL_598 : decode code 598 = .ok (.iaload, 1) := by decide +kernel
theorem dL_599 : decode code 599 = .ok (.invokevirtual 62, 3) := by decide +kernel
theorem dL_602 : decode code 602 = .ok (.if_icmp .eq 804, 3) := by decide +kernel
theorem dL_605 : decode code 605 = .ok (.iconst 0, 1) := by decide +kernel
theorem dL_606 : decode code 606 = .ok (.ireturn, 1) := by decide +kernel
theorem dL_607 : decode code 607 = .ok (.aload_n 1, 1) := by decide +kernel
theorem dL_608 : decode code 608 = .ok (.aload_n 0, 1) := by decide +kernel
theorem dL_609 : decode code 609 = .ok (.iload_n 3, 1) := by decide +kernel
theorem dL_610 : decode code 610 = .ok (.iconst 1, 1) := by decide +kernel
theorem dL_611 : decode code 611 = .ok (.iadd, 1) := by decide +kernel
theorem dL_612 : decode code 612 = .ok (.iaload, 1) := by decide +kernel
theorem dL_613 : decode code 613 = .ok (.aload_n 0, 1) := by decide +kernel
theorem dL_614 : decode code 614 = .ok (.iload_n 3, 1) := by decide +kernel
theorem dL_615 : decode code 615 = .ok (.iconst 2, 1) := by decide +kernel
theorem dL_616 : decode code 616 = .ok (.iadd, 1) := by decide +kernel
theorem dL_617 : decode code 617 = .ok (.iaload, 1) := by decide +kernel
theorem dL_618 : decode code 618 = .ok (.invokevirtual 63, 3) := by decide +kernel
theorem dL_621 : decode code 621 = .ok (.aload_n 2, 1) := by decide +kernel
theorem dL_622 : decode code 622 = .ok (.aload_n 0, 1) := by decide +kernel
theorem dL_623 : decode code 623 = .ok (.iload_n 3, 1) := by decide +kernel
theorem dL_624 : decode code 624 = .ok (.iconst 1, 1) := by decide +kernel
theorem dL_625 : decode code 625 = .ok (.iadd, 1) := by decide +kernel
theorem dL_626 : decode code 626 = .ok (.iaload, 1) := by decide +kernel
theorem dL_627 : decode code 627 = .ok (.aload_n 0, 1) := by decide +kernel
theorem dL_628 : decode code 628 = .ok (.iload_n 3, 1) := by decide +kernel
theorem dL_629 : decode code 629 = .ok (.iconst 2, 1) := by decide +kernel
theorem dL_630 : decode code 630 = .ok (.iadd, 1) := by decide +kernel
theorem dL_631 : decode code 631 = .ok (.iaload, 1) := by decide +kernel
theorem dL_632 : decode code 632 = .ok (.invokevirtual 66, 3) := by decide +kernel
theorem dL_635 : decode code 635 = .ok (.if_icmp .eq 771, 3) := by decide +kernel
theorem dL_638 : decode code 638 = .ok (.iconst 0, 1) := by decide +kernel
theorem dL_639 : decode code 639 = .ok (.ireturn, 1) := by decide +kernel
theorem dL_640 : decode code 640 = .ok (.aload_n 1, 1) := by decide +kernel
theorem dL_641 : decode code 641 = .ok (.aload_n 0, 1) := by decide +kernel
theorem dL_642 : decode code 642 = .ok (.iload_n 3, 1) := by decide +kernel
theorem dL_643 : decode code 643 = .ok (.iconst 1, 1) := by decide +kernel
theorem dL_644 : decode code 644 = .ok (.iadd, 1) := by decide +kernel
theorem dL_645 : decode code 645 = .ok (.iaload, 1) := by decide +kernel
theorem dL_646 : decode code 646 = .ok (.aload_n 0, 1) := by decide +kernel
theorem dL_647 : decode code 647 = .ok (.iload_n 3, 1) := by decide +kernel
theorem dL_648 : decode code 648 = .ok (.iconst 2, 1) := by decide +kernel
theorem dL_649 : decode code 649 = .ok (.iadd, 1) := by decide +kernel
theorem dL_650 : decode code 650 = .ok (.iaload, 1) := by decide +kernel
theorem dL_651 : decode code 651 = .ok (.invokevirtual 67, 3) := by decide +kernel
theorem dL_654 : decode code 654 = .ok (.aload_n 2, 1) := by decide +kernel
theorem dL_655 : decode code 655 = .ok (.aload_n 0, 1) := by decide +kernel
theorem dL_656 : decode code 656 = .ok (.iload_n 3, 1) := by decide +kernel
theorem dL_657 : decode code 657 = .ok (.iconst 1, 1) := by decide +kernel
theorem dL_658 : decode code 658 = .ok (.iadd, 1) := by decide +kernel
theorem dL_659 : decode code 659 = .ok (.iaload, 1) := by decide +kernel
theorem dL_660 : decode code 660 = .ok (.aload_n 0, 1) := by decide +kernel
theorem dL_661 : decode code 661 = .ok (.iload_n 3, 1) := by decide +kernel
theorem dL_662 : decode code 662 = .ok (.iconst 2, 1) := by decide +kernel
theorem dL_663 : decode code 663 = .ok (.iadd, 1) := by decide +kernel
theorem dL_664 : decode code 664 = .ok (.iaload, 1) := by decide +kernel
theorem dL_665 : decode code 665 = .ok (.invokevirtual 70, 3) := by decide +kernel
theorem dL_668 : decode code 668 = .ok (.if_icmp .eq 738, 3) := by decide +kernel
theorem dL_671 : decode code 671 = .ok (.iconst 0, 1) := by decide +kernel
theorem dL_672 : decode code 672 = .ok (.ireturn, 1) := by decide +kernel
theorem dL_673 : decode code 673 = .ok (.aload_n 1, 1) := by decide +kernel
theorem dL_674 : decode code 674 = .ok (.aload_n 0, 1) := by decide +kernel
theorem dL_675 : decode code 675 = .ok (.iload_n 3, 1) := by decide +kernel
theorem dL_676 : decode code 676 = .ok (.iconst 1, 1) := by decide +kernel
theorem dL_677 : decode code 677 = .ok (.iadd, 1) := by decide +kernel
theorem dL_678 : decode code 678 = .ok (.iaload, 1) := by decide +kernel
theorem dL_679 : decode code 679 = .ok (.aload_n 0, 1) := by decide +kernel
theorem dL_680 : decode code 680 = .ok (.iload_n 3, 1) := by decide +kernel
theorem dL_681 : decode code 681 = .ok (.iconst 2, 1) := by decide +kernel
theorem dL_682 : decode code 682 = .ok (.iadd, 1) := by decide +kernel
theorem dL_683 : decode code 683 = .ok (.iaload, 1) := by decide +kernel
theorem dL_684 : decode code 684 = .ok (.invokevirtual 71, 3) := by decide +kernel
theorem dL_687 : decode code 687 = .ok (.aload_n 2, 1) := by decide +kernel
theorem dL_688 : decode code 688 = .ok (.aload_n 0, 1) := by decide +kernel
theorem dL_689 : decode code 689 = .ok (.iload_n 3, 1) := by decide +kernel
theorem dL_690 : decode code 690 = .ok (.iconst 1, 1) := by decide +kernel
theorem dL_691 : decode code 691 = .ok (.iadd, 1) := by decide +kernel
theorem dL_692 : decode code 692 = .ok (.iaload, 1) := by decide +kernel
theorem dL_693 : decode code 693 = .ok (.aload_n 0, 1) := by decide +kernel
theorem dL_694 : decode code 694 = .ok (.iload_n 3, 1) := by decide +kernel
theorem dL_695 : decode code 695 = .ok (.iconst 2, 1) := by decide +kernel
theorem dL_696 : decode code 696 = .ok (.iadd, 1) := by decide +kernel
theorem dL_697 : decode code 697 = .ok (.iaload, 1) := by decide +kernel
theorem dL_698 : decode code 698 = .ok (.invokevirtual 74, 3) := by decide +kernel
theorem dL_701 : decode code 701 = .ok (.if_icmp .eq 705, 3) := by decide +kernel
theorem dL_704 : decode code 704 = .ok (.iconst 0, 1) := by decide +kernel
theorem dL_705 : decode code 705 = .ok (.ireturn, 1) := by decide +kernel
theorem dL_706 : decode code 706 = .ok (.aload_n 1, 1) := by decide +kernel
theorem dL_707 : decode code 707 = .ok (.aload_n 0, 1) := by decide +kernel
theorem dL_708 : decode code 708 = .ok (.iload_n 3, 1) := by decide +kernel
theorem dL_709 : decode code 709 = .ok (.iconst 1, 1) := by decide +kernel
theorem dL_710 : decode code 710 = .ok (.iadd, 1) := by decide +kernel
theorem dL_711 : decode code 711 = .ok (.iaload, 1) := by decide +kernel
theorem dL_712 : decode code 712 = .ok (.aload_n 0, 1) := by decide +kernel
theorem dL_713 : decode code 713 = .ok (.iload_n 3, 1) := by decide +kernel
theorem dL_714 : decode code 714 = .ok (.iconst 2, 1) := by decide +kernel
theorem dL_715 : decode code 715 = .ok (.iadd, 1) := by decide +kernel
theorem dL_716 : decode code 716 = .ok (.iaload, 1) := by decide +kernel
theorem dL_717 : decode code 717 = .ok (.invokevirtual 75, 3) := by decide +kernel
theorem dL_720 : decode code 720 = .ok (.aload_n 2, 1) := by decide +kernel
theorem dL_721 : decode code 721 = .ok (.aload_n 0, 1) := by decide +kernel
theorem dL_722 : decode code 722 = .ok (.iload_n 3, 1) := by decide +kernel
theorem dL_723 : decode code 723 = .ok (.iconst 1, 1) := by decide +kernel
theorem dL_724 : decode code 724 = .ok (.iadd, 1) := by decide +kernel
theorem dL_725 : decode code 725 = .ok (.iaload, 1) := by decide +kernel
theorem dL_726 : decode code 726 = .ok (.aload_n 0, 1) := by decide +kernel
theorem dL_727 : decode code 727 = .ok (.iload_n 3, 1) := by decide +kernel
theorem dL_728 : decode code 728 = .ok (.iconst 2, 1) := by decide +kernel
theorem dL_729 : decode code 729 = .ok (.iadd, 1) := by decide +kernel
theorem dL_730 : decode code 730 = .ok (.iaload, 1) := by decide +kernel
theorem dL_731 : decode code 731 = .ok (.invokevirtual 78, 3) := by decide +kernel
theorem dL_734 : decode code 734 = .ok (.if_icmp .eq 672, 3) := by decide +kernel
theorem dL_737 : decode code 737 = .ok (.iconst 0, 1) := by decide +kernel
theorem dL_738 : decode code 738 = .ok (.ireturn, 1) := by decide +kernel
theorem dL_739 : decode code 739 = .ok (.aload_n 1, 1) := by decide +kernel
theorem dL_740 : decode code 740 = .ok (.invokevirtual 79, 3) := by decide +kernel
theorem dL_743 : decode code 743 = .ok (.aload_n 2, 1) := by decide +kernel
theorem dL_744 : decode code 744 = .ok (.invokevirtual 83, 3) := by decide +kernel
theorem dL_747 : decode code 747 = .ok (.if_icmp .eq 659, 3) := by decide +kernel
theorem dL_750 : decode code 750 = .ok (.iconst 0, 1) := by decide +kernel
theorem dL_751 : decode code 751 = .ok (.ireturn, 1) := by decide +kernel
theorem dL_752 : decode code 752 = .ok (.aload_n 1, 1) := by decide +kernel
theorem dL_753 : decode code 753 = .ok (.invokevirtual 84, 3) := by decide +kernel
theorem dL_756 : decode code 756 = .ok (.aload_n 2, 1) := by decide +kernel
theorem dL_757 : decode code 757 = .ok (.invokevirtual 87, 3) := by decide +kernel
theorem dL_760 : decode code 760 = .ok (.if_icmp .eq 646, 3) := by decide +kernel
theorem dL_763 : decode code 763 = .ok (.iconst 0, 1) := by decide +kernel
theorem dL_764 : decode code 764 = .ok (.ireturn, 1) := by decide +kernel
theorem dL_765 : decode code 765 = .ok (.aload_n 1, 1) := by decide +kernel
theorem dL_766 : decode code 766 = .ok (.aload_n 0, 1) := by decide +kernel
theorem dL_767 : decode code 767 = .ok (.iload_n 3, 1) := by decide +kernel
theorem dL_768 : decode code 768 = .ok (.iconst 1, 1) := by decide +kernel
theorem dL_769 : decode code 769 = .ok (.iadd, 1) := by decide +kernel
theorem dL_770 : decode code 770 = .ok (.iaload, 1) := by decide +kernel
theorem dL_771 : decode code 771 = .ok (.invokevirtual 88, 3) := by decide +kernel
theorem dL_774 : decode code 774 = .ok (.aload_n 2, 1) := by decide +kernel
theorem dL_775 : decode code 775 = .ok (.aload_n 0, 1) := by decide +kernel
theorem dL_776 : decode code 776 = .ok (.iload_n 3, 1) := by decide +kernel
theorem dL_777 : decode code 777 = .ok (.iconst 1, 1) := by decide +kernel
theorem dL_778 : decode code 778 = .ok (.iadd, 1) := by decide +kernel
theorem dL_779 : decode code 779 = .ok (.iaload, 1) := by decide +kernel
theorem dL_780 : decode code 780 = .ok (.invokevirtual 91, 3) := by decide +kernel
theorem dL_783 : decode code 783 = .ok (.if_icmp .eq 623, 3) := by decide +kernel
theorem dL_786 : decode code 786 = .ok (.iconst 0, 1) := by decide +kernel
theorem dL_787 : decode code 787 = .ok (.ireturn, 1) := by decide +kernel
theorem dL_788 : decode code 788 = .ok (.aload_n 1, 1) := by decide +kernel
theorem dL_789 : decode code 789 = .ok (.aload_n 0, 1) := by decide +kernel
theorem dL_790 : decode code 790 = .ok (.iload_n 3, 1) := by decide +kernel
theorem dL_791 : decode code 791 = .ok (.iconst 1, 1) := by decide +kernel
theorem dL_792 : decode code 792 = .ok (.iadd, 1) := by decide +kernel
theorem dL_793 : decode code 793 = .ok (.iaload, 1) := by decide +kernel
theorem dL_794 : decode code 794 = .ok (.invokevirtual 92, 3) := by decide +kernel
theorem dL_797 : decode code 797 = .ok (.aload_n 2, 1) := by decide +kernel
theorem dL_798 : decode code 798 = .ok (.aload_n 0, 1) := by decide +kernel
theorem dL_799 : decode code 799 = .ok (.iload_n 3, 1) := by decide +kernel
theorem dL_800 : decode code 800 = .ok (.iconst 1, 1) := by decide +kernel
theorem dL_801 : decode code 801 = .ok (.iadd, 1) := by decide +kernel
theorem dL_802 : decode code 802 = .ok (.iaload, 1) := by decide +kernel
theorem dL_803 : decode code 803 = .ok (.invokevirtual 95, 3) := by decide +kernel
theorem dL_806 : decode code 806 = .ok (.if_icmp .eq 600, 3) := by decide +kernel
theorem dL_809 : decode code 809 = .ok (.iconst 0, 1) := by decide +kernel
theorem dL_810 : decode code 810 = .ok (.ireturn, 1) := by decide +kernel
theorem dL_811 : decode code 811 = .ok (.aload_n 1, 1) := by decide +kernel
theorem dL_812 : decode code 812 = .ok (.aload_n 0, 1) := by decide +kernel
theorem dL_813 : decode code 813 = .ok (.iload_n 3, 1) := by decide +kernel
theorem dL_814 : decode code 814 = .ok (.iconst 1, 1) := by decide +kernel
theorem dL_815 : decode code 815 = .ok (.iadd, 1) := by decide +kernel
theorem dL_816 : decode code 816 = .ok (.iaload, 1) := by decide +kernel
theorem dL_817 : decode code 817 = .ok (.aload_n 0, 1) := by decide +kernel
theorem dL_818 : decode code 818 = .ok (.iload_n 3, 1) := by decide +kernel
theorem dL_819 : decode code 819 = .ok (.iconst 2, 1) := by decide +kernel
theorem dL_820 : decode code 820 = .ok (.iadd, 1) := by decide +kernel
theorem dL_821 : decode code 821 = .ok (.iaload, 1) := by decide +kernel
theorem dL_822 : decode code 822 = .ok (.invokevirtual 96, 3) := by decide +kernel
theorem dL_825 : decode code 825 = .ok (.aload_n 2, 1) := by decide +kernel
theorem dL_826 : decode code 826 = .ok (.aload_n 0, 1) := by decide +kernel
theorem dL_827 : decode code 827 = .ok (.iload_n 3, 1) := by decide +kernel
theorem dL_828 : decode code 828 = .ok (.iconst 1, 1) := by decide +kernel
theorem dL_829 : decode code 829 = .ok (.iadd, 1) := by decide +kernel
theorem dL_830 : decode code 830 = .ok (.iaload, 1) := by decide +kernel
theorem dL_831 : decode code 831 = .ok (.aload_n 0, 1) := by decide +kernel
theorem dL_832 : decode code 832 = .ok (.iload_n 3, 1) := by decide +kernel
theorem dL_833 : decode code 833 = .ok (.iconst 2, 1) := by decide +kernel
theorem dL_834 : decode code 834 = .ok (.iadd, 1) := by decide +kernel
theorem dL_835 : decode code 835 = .ok (.iaload, 1) := by decide +kernel
theorem dL_836 : decode code 836 = .ok (.invokevirtual 99, 3) := by decide +kernel
theorem dL_839 : decode code 839 = .ok (.if_icmp .eq 567, 3) := by decide +kernel
theorem dL_842 : decode code 842 = .ok (.iconst 0, 1) := by decide +kernel
theorem dL_843 : decode code 843 = .ok (.ireturn, 1) := by decide +kernel
theorem dL_844 : decode code 844 = .ok (.aload_n 1, 1) := by decide +kernel
theorem dL_845 : decode code 845 = .ok (.aload_n 0, 1) := by decide +kernel
theorem dL_846 : decode code 846 = .ok (.iload_n 3, 1) := by decide +kernel
theorem dL_847 : decode code 847 = .ok (.iconst 1, 1) := by decide +kernel
theorem dL_848 : decode code 848 = .ok (.iadd, 1) := by decide +kernel
theorem dL_849 : decode code 849 = .ok (.iaload, 1) := by decide +kernel
theorem dL_850 : decode code 850 = .ok (.aload_n 0, 1) := by decide +kernel
theorem dL_851 : decode code 851 = .ok (.iload_n 3, 1) := by decide +kernel
theorem dL_852 : decode code 852 = .ok (.iconst 2, 1) := by decide +kernel
theorem dL_853 : decode code 853 = .ok (.iadd, 1) := by decide +kernel
theorem dL_854 : decode code 854 = .ok (.iaload, 1) := by decide +kernel
theorem dL_855 : decode code 855 = .ok (.invokevirtual 100, 3) := by decide +kernel
theorem dL_858 : decode code 858 = .ok (.aload_n 2, 1) := by decide +kernel
theorem dL_859 : decode code 859 = .ok (.aload_n 0, 1) := by decide +kernel
theorem dL_860 : decode code 860 = .ok (.iload_n 3, 1) := by decide +kernel
theorem dL_861 : decode code 861 = .ok (.iconst 1, 1) := by decide +kernel
theorem dL_862 : decode code 862 = .ok (.iadd, 1) := by decide +kernel
theorem dL_863 : decode code 863 = .ok (.iaload, 1) := by decide +kernel
theorem dL_864 : decode code 864 = .ok (.aload_n 0, 1) := by decide +kernel
theorem dL_865 : decode code 865 = .ok (.iload_n 3, 1) := by decide +kernel
theorem dL_866 : decode code 866 = .ok (.iconst 2, 1) := by decide +kernel
theorem dL_867 : decode code 867 = .ok (.iadd, 1) := by decide +kernel
theorem dL_868 : decode code 868 = .ok (.iaload, 1) := by decide +kernel
theorem dL_869 : decode code 869 = .ok (.invokevirtual 103, 3) := by decide +kernel
theorem dL_872 : decode code 872 = .ok (.if_icmp .eq 534, 3) := by decide +kernel
theorem dL_875 : decode code 875 = .ok (.iconst 0, 1) := by decide +kernel
theorem dL_876 : decode code 876 = .ok (.ireturn, 1) := by decide +kernel
theorem dL_877 : decode code 877 = .ok (.aload_n 1, 1) := by decide +kernel
theorem dL_878 : decode code 878 = .ok (.aload_n 0, 1) := by decide +kernel
theorem dL_879 : decode code 879 = .ok (.iload_n 3, 1) := by decide +kernel
theorem dL_880 : decode code 880 = .ok (.iconst 1, 1) := by decide +kernel
theorem dL_881 : decode code 881 = .ok (.iadd, 1) := by decide +kernel
theorem dL_882 : decode code 882 = .ok (.iaload, 1) := by decide +kernel
theorem dL_883 : decode code 883 = .ok (.invokevirtual 104, 3) := by decide +kernel
theorem dL_886 : decode code 886 = .ok (.aload_n 2, 1) := by decide +kernel
theorem dL_887 : decode code 887 = .ok (.aload_n 0, 1) := by decide +kernel
theorem dL_888 : decode code 888 = .ok (.iload_n 3, 1) := by decide +kernel
theorem dL_889 : decode code 889 = .ok (.iconst 1, 1) := by decide +kernel
theorem dL_890 : decode code 890 = .ok (.iadd, 1) := by decide +kernel
theorem dL_891 : decode code 891 = .ok (.iaload, 1) := by decide +kernel
theorem dL_892 : decode code 892 = .ok (.invokevirtual 107, 3) := by decide +kernel
theorem dL_895 : decode code 895 = .ok (.if_icmp .eq 511, 3) := by decide +kernel
theorem dL_898 : decode code 898 = .ok (.iconst 0, 1) := by decide +kernel
theorem dL_899 : decode code 899 = .ok (.ireturn, 1) := by decide +kernel
theorem dL_900 : decode code 900 = .ok (.aload_n 1, 1) := by decide +kernel
theorem dL_901 : decode code 901 = .ok (.aload_n 0, 1) := by decide +kernel
theorem dL_902 : decode code 902 = .ok (.iload_n 3, 1) := by decide +kernel
theorem dL_903 : decode code 903 = .ok (.iconst 1, 1) := by decide +kernel
theorem dL_904 : decode code 904 = .ok (.iadd, 1) := by decide +kernel
theorem dL_905 : decode code 905 = .ok (.iaload, 1) := by decide +kernel
theorem dL_906 : decode code 906 = .ok (.invokevirtual 108, 3) := by decide +kernel
theorem dL_909 : decode code 909 = .ok (.aload_n 2, 1) := by decide +kernel
theorem dL_910 : decode code 910 = .ok (.aload_n 0, 1) := by decide +kernel
theorem dL_911 : decode code 911 = .ok (.iload_n 3, 1) := by decide +kernel
theorem dL_912 : decode code 912 = .ok (.iconst 1, 1) := by decide +kernel
theorem dL_913 : decode code 913 = .ok (.iadd, 1) := by decide +kernel
theorem dL_914 : decode code 914 = .ok (.iaload, 1) := by decide +kernel
theorem dL_915 : decode code 915 = .ok (.invokevirtual 111, 3) := by decide +kernel
theorem dL_918 : decode code 918 = .ok (.if_icmp .eq 488, 3) := by decide +kernel
theorem dL_921 : decode code 921 = .ok (.iconst 0, 1) := by decide +kernel
theorem dL_922 : decode code 922 = .ok (.ireturn, 1) := by decide +kernel
theorem dL_923 : decode code 923 = .ok (.aload_n 1, 1) := by decide +kernel
theorem dL_924 : decode code 924 = .ok (.aload_n 0, 1) := by decide +kernel
theorem dL_925 : decode code 925 = .ok (.iload_n 3, 1) := by decide +kernel
theorem dL_926 : decode code 926 = .ok (.iconst 1, 1) := by decide +kernel
theorem dL_927 : decode code 927 = .ok (.iadd, 1) := by decide +kernel
theorem dL_928 : decode code 928 = .ok (.iaload, 1) := by decide +kernel
theorem dL_929 : decode code 929 = .ok (.invokevirtual 112, 3) := by decide +kernel
theorem dL_932 : decode code 932 = .ok (.aload_n 2, 1) := by decide +kernel
theorem dL_933 : decode code 933 = .ok (.aload_n 0, 1) := by decide +kernel
theorem dL_934 : decode code 934 = .ok (.iload_n 3, 1) := by decide +kernel
theorem dL_935 : decode code 935 = .ok (.iconst 1, 1) := by decide +kernel
theorem dL_936 : decode code 936 = .ok (.iadd, 1) := by decide +kernel
theorem dL_937 : decode code 937 = .ok (.iaload, 1) := by decide +kernel
theorem dL_938 : decode code 938 = .ok (.invokevirtual 115, 3) := by decide +kernel
theorem dL_941 : decode code 941 = .ok (.if_icmp .eq 465, 3) := by decide +kernel
theorem dL_944 : decode code 944 = .ok (.iconst 0, 1) := by decide +kernel
theorem dL_945 : decode code 945 = .ok (.ireturn, 1) := by decide +kernel
theorem dL_946 : decode code 946 = .ok (.aload_n 1, 1) := by decide +kernel
theorem dL_947 : decode code 947 = .ok (.aload_n 0, 1) := by decide +kernel
theorem dL_948 : decode code 948 = .ok (.iload_n 3, 1) := by decide +kernel
theorem dL_949 : decode code 949 = .ok (.iconst 1, 1) := by decide +kernel
theorem dL_950 : decode code 950 = .ok (.iadd, 1) := by decide +kernel
theorem dL_951 : decode code 951 = .ok (.iaload, 1) := by decide +kernel
theorem dL_952 : decode code 952 = .ok (.invokevirtual 116, 3) := by decide +kernel
theorem dL_955 : decode code 955 = .ok (.aload_n 2, 1) := by decide +kernel
theorem dL_956 : decode code 956 = .ok (.aload_n 0, 1) := by decide +kernel
theorem dL_957 : decode code 957 = .ok (.iload_n 3, 1) := by decide +kernel
theorem dL_958 : decode code 958 = .ok (.iconst 1, 1) := by decide +kernel
theorem dL_959 : decode code 959 = .ok (.iadd, 1) := by decide +kernel
theorem dL_960 : decode code 960 = .ok (.iaload, 1) := by decide +kernel
theorem dL_961 : decode code 961 = .ok (.invokevirtual 119, 3) := by decide +kernel
theorem dL_964 : decode code 964 = .ok (.if_icmp .eq 442, 3) := by decide +kernel
theorem dL_967 : decode code 967 = .ok (.iconst 0, 1) := by decide +kernel
theorem dL_968 : decode code 968 = .ok (.ireturn, 1) := by decide +kernel
theorem dL_969 : decode code 969 = .ok (.aload_n 1, 1) := by decide +kernel
theorem dL_970 : decode code 970 = .ok (.aload_n 0, 1) := by decide +kernel
theorem dL_971 : decode code 971 = .ok (.iload_n 3, 1) := by decide +kernel
theorem dL_972 : decode code 972 = .ok (.iconst 1, 1) := by decide +kernel
theorem dL_973 : decode code 973 = .ok (.iadd, 1) := by decide +kernel
theorem dL_974 : decode code 974 = .ok (.iaload, 1) := by decide +kernel
theorem dL_975 : decode code 975 = .ok (.invokevirtual 120, 3) := by decide +kernel
theorem dL_978 : decode code 978 = .ok (.aload_n 2, 1) := by decide +kernel
theorem dL_979 : decode code 979 = .ok (.aload_n 0, 1) := by decide +kernel
theorem dL_980 : decode code 980 = .ok (.iload_n 3, 1) := by decide +kernel
theorem dL_981 : decode code 981 = .ok (.iconst 1, 1) := by decide +kernel
theorem dL_982 : decode code 982 = .ok (.iadd, 1) := by decide +kernel
theorem dL_983 : decode code 983 = .ok (.iaload, 1) := by decide +kernel
theorem dL_984 : decode code 984 = .ok (.invokevirtual 123, 3) := by decide +kernel
theorem dL_987 : decode code 987 = .ok (.if_icmp .eq 419, 3) := by decide +kernel
theorem dL_990 : decode code 990 = .ok (.iconst 0, 1) := by decide +kernel
theorem dL_991 : decode code 991 = .ok (.ireturn, 1) := by decide +kernel
theorem dL_992 : decode code 992 = .ok (.aload_n 1, 1) := by decide +kernel
theorem dL_993 : decode code 993 = .ok (.aload_n 0, 1) := by decide +kernel
theorem dL_994 : decode code 994 = .ok (.iload_n 3, 1) := by decide +kernel
theorem dL_995 : decode code 995 = .ok (.iconst 1, 1) := by decide +kernel
theorem dL_996 : decode code 996 = .ok (.iadd, 1) := by decide +kernel
theorem dL_997 : decode code 997 = .ok (.iaload, 1) := by decide +kernel
theorem dL_998 : decode code 998 = .ok (.invokevirtual 124, 3) := by decide +kernel
theorem dL_1001 : decode code 1001 = .ok (.aload_n 2, 1) := by decide +kernel
theorem dL_1002 : decode code 1002 = .ok (.aload_n 0, 1) := by decide +kernel
theorem dL_1003 : decode code 1003 = .ok (.iload_n 3, 1) := by decide +kernel
theorem dL_1004 : decode code 1004 = .ok (.iconst 1, 1) := by decide +kernel
theorem dL_1005 : decode code 1005 = .ok (.iadd, 1) := by decide +kernel
theorem dL_1006 : decode code 1006 = .ok (.iaload, 1) := by decide +kernel
theorem dL_1007 : decode code 1007 = .ok (.invokevirtual 127, 3) := by decide +kernel
theorem dL_1010 : decode code 1010 = .ok (.if_icmp .eq 396, 3) := by decide +kernel
theorem dL_1013 : decode code 1013 = .ok (.iconst 0, 1) := by decide +kernel
theorem dL_1014 : decode code 1014 = .ok (.ireturn, 1) := by decide +kernel
theorem dL_1015 : decode code 1015 = .ok (.aload_n 1, 1) := by decide +kernel
theorem dL_1016 : decode code 1016 = .ok (.aload_n 0, 1) := by decide +kernel
theorem dL_1017 : decode code 1017 = .ok (.iload_n 3, 1) := by decide +kernel
theorem dL_1018 : decode code 1018 = .ok (.iconst 1, 1) := by decide +kernel
theorem dL_1019 : decode code 1019 = .ok (.iadd, 1) := by decide +kernel
theorem dL_1020 : decode code 1020 = .ok (.iaload, 1) := by decide +kernel
theorem dL_1021 : decode code 1021 = .ok (.invokevirtual 128, 3) := by decide +kernel
theorem dL_1024 : decode code 1024 = .ok (.aload_n 2, 1) := by decide +kernel
theorem dL_1025 : decode code 1025 = .ok (.aload_n 0, 1) := by decide +kernel
theorem dL_1026 : decode code 1026 = .ok (.iload_n 3, 1) := by decide +kernel
theorem dL_1027 : decode code 1027 = .ok (.iconst 1, 1) := by decide +kernel
theorem dL_1028 : decode code 1028 = .ok (.iadd, 1) := by decide +kernel
theorem dL_1029 : decode code 1029 = .ok (.iaload, 1) := by decide +kernel
theorem dL_1030 : decode code 1030 = .ok (.invokevirtual 131, 3) := by decide +kernel
theorem dL_1033 : decode code 1033 = .ok (.if_icmp .eq 373, 3) := by decide +kernel
theorem dL_1036 : decode code 1036 = .ok (.iconst 0, 1) := by decide +kernel
theorem dL_1037 : decode code 1037 = .ok (.ireturn, 1) := by decide +kernel
theorem dL_1038 : decode code 1038 = .ok (.aload_n 1, 1) := by decide +kernel
theorem dL_1039 : decode code 1039 = .ok (.aload_n 0, 1) := by decide +kernel
theorem dL_1040 : decode code 1040 = .ok (.iload_n 3, 1) := by decide +kernel
theorem dL_1041 : decode code 1041 = .ok (.iconst 1, 1) := by decide +kernel
theorem dL_1042 : decode code 1042 = .ok (.iadd, 1) := by decide +kernel
theorem dL_1043 : decode code 1043 = .ok (.iaload, 1) := by decide +kernel
theorem dL_1044 : decode code 1044 = .ok (.invokevirtual 132, 3) := by decide +kernel
theorem dL_1047 : decode code 1047 = .ok (.aload_n 2, 1) := by decide +kernel
theorem dL_1048 : decode code 1048 = .ok (.aload_n 0, 1) := by decide +kernel
theorem dL_1049 : decode code 1049 = .ok (.iload_n 3, 1) := by decide +kernel
theorem dL_1050 : decode code 1050 = .ok (.iconst 1, 1) := by decide +kernel
theorem dL_1051 : decode code 1051 = .ok (.iadd, 1) := by decide +kernel
theorem dL_1052 : decode code 1052 = .ok (.iaload, 1) := by decide +kernel
theorem dL_1053 : decode code 1053 = .ok (.invokevirtual 135, 3) := by decide +kernel
theorem dL_1056 : decode code 1056 = .ok (.if_icmp .eq 350, 3) := by decide +kernel
theorem dL_1059 : decode code 1059 = .ok (.iconst 0, 1) := by decide +kernel
theorem dL_1060 : decode code 1060 = .ok (.ireturn, 1) := by decide +kernel
theorem dL_1061 : decode code 1061 = .ok (.aload_n 1, 1) := by decide +kernel
theorem dL_1062 : decode code 1062 = .ok (.aload_n 0, 1) := by decide +kernel
theorem dL_1063 : decode code 1063 = .ok (.iload_n 3, 1) := by decide +kernel
theorem dL_1064 : decode code 1064 = .ok (.iconst 1, 1) := by decide +kernel
theorem dL_1065 : decode code 1065 = .ok (.iadd, 1) := by decide +kernel
theorem dL_1066 : decode code 1066 = .ok (.iaload, 1) := by decide +kernel
theorem dL_1067 : decode code 1067 = .ok (.invokevirtual 136, 3) := by decide +kernel
theorem dL_1070 : decode code 1070 = .ok (.aload_n 2, 1) := by decide +kernel
theorem dL_1071 : decode code 1071 = .ok (.aload_n 0, 1) := by decide +kernel
theorem dL_1072 : decode code 1072 = .ok (.iload_n 3, 1) := by decide +kernel
theorem dL_1073 : decode code 1073 = .ok (.iconst 1, 1) := by decide +kernel
theorem dL_1074 : decode code 1074 = .ok (.iadd, 1) := by decide +kernel
theorem dL_1075 : decode code 1075 = .ok (.iaload, 1) := by decide +kernel
theorem dL_1076 : decode code 1076 = .ok (.invokevirtual 139, 3) := by decide +kernel
theorem dL_1079 : decode code 1079 = .ok (.if_icmp .eq 327, 3) := by decide +kernel
theorem dL_1082 : decode code 1082 = .ok (.iconst 0, 1) := by decide +kernel
theorem dL_1083 : decode code 1083 = .ok (.ireturn, 1) := by decide +kernel
theorem dL_1084 : decode code 1084 = .ok (.aload_n 1, 1) := by decide +kernel
theorem dL_1085 : decode code 1085 = .ok (.aload_n 0, 1) := by decide +kernel
theorem dL_1086 : decode code 1086 = .ok (.iload_n 3, 1) := by decide +kernel
theorem dL_1087 : decode code 1087 = .ok (.iconst 1, 1) := by decide +kernel
theorem dL_1088 : decode code 1088 = .ok (.iadd, 1) := by decide +kernel
theorem dL_1089 : decode code 1089 = .ok (.iaload, 1) := by decide +kernel
theorem dL_1090 : decode code 1090 = .ok (.invokevirtual 140, 3) := by decide +kernel
theorem dL_1093 : decode code 1093 = .ok (.aload_n 2, 1) := by decide +kernel
theorem dL_1094 : decode code 1094 = .ok (.aload_n 0, 1) := by decide +kernel
theorem dL_1095 : decode code 1095 = .ok (.iload_n 3, 1) := by decide +kernel
theorem dL_1096 : decode code 1096 = .ok (.iconst 1, 1) := by decide +kernel
theorem dL_1097 : decode code 1097 = .ok (.iadd, 1) := by decide +kernel
theorem dL_1098 : decode code 1098 = .ok (.iaload, 1) := by decide +kernel
theorem dL_1099 : decode code 1099 = .ok (.invokevirtual 143, 3) := by decide +kernel
theorem dL_1102 : decode code 1102 = .ok (.if_icmp .eq 304, 3) := by decide +kernel
theorem dL_1105 : decode code 1105 = .ok (.iconst 0, 1) := by decide +kernel
theorem dL_1106 : decode code 1106 = .ok (.ireturn, 1) := by decide +kernel
theorem dL_1107 : decode code 1107 = .ok (.aload_n 1, 1) := by decide +kernel
theorem dL_1108 : decode code 1108 = .ok (.aload_n 0, 1) := by decide +kernel
theorem dL_1109 : decode code 1109 = .ok (.iload_n 3, 1) := by decide +kernel
theorem dL_1110 : decode code 1110 = .ok (.iconst 1, 1) := by decide +kernel
theorem dL_1111 : decode code 1111 = .ok (.iadd, 1) := by decide +kernel
theorem dL_1112 : decode code 1112 = .ok (.iaload, 1) := by decide +kernel
theorem dL_1113 : decode code 1113 = .ok (.invokevirtual 144, 3) := by decide +kernel
theorem dL_1116 : decode code 1116 = .ok (.aload_n 2, 1) := by decide +kernel
theorem dL_1117 : decode code 1117 = .ok (.aload_n 0, 1) := by decide +kernel
theorem dL_1118 : decode code 1118 = .ok (.iload_n 3, 1) := by decide +kernel
theorem dL_1119 : decode code 1119 = .ok (.iconst 1, 1) := by decide +kernel
theorem dL_1120 : decode code 1120 = .ok (.iadd, 1) := by decide +kernel
theorem dL_1121 : decode code 1121 = .ok (.iaload, 1) := by decide +kernel
theorem dL_1122 : decode code 1122 = .ok (.invokevirtual 147, 3) := by decide +kernel
theorem dL_1125 : decode code 1125 = .ok (.if_icmp .eq 281, 3) := by decide +kernel
theorem dL_1128 : decode code 1128 = .ok (.iconst 0, 1) := by decide +kernel
theorem dL_1129 : decode code 1129 = .ok (.ireturn, 1) := by decide +kernel
theorem dL_1130 : decode code 1130 = .ok (.aload_n 1, 1) := by decide +kernel
theorem dL_1131 : decode code 1131 = .ok (.aload_n 0, 1) := by decide +kernel
theorem dL_1132 : decode code 1132 = .ok (.iload_n 3, 1) := by decide +kernel
theorem dL_1133 : decode code 1133 = .ok (.iconst 1, 1) := by decide +kernel
theorem dL_1134 : decode code 1134 = .ok (.iadd, 1) := by decide +kernel
theorem dL_1135 : decode code 1135 = .ok (.iaload, 1) := by decide +kernel
theorem dL_1136 : decode code 1136 = .ok (.aload_n 0, 1) := by decide +kernel
theorem dL_1137 : decode code 1137 = .ok (.iload_n 3, 1) := by decide +kernel
theorem dL_1138 : decode code 1138 = .ok (.iconst 2, 1) := by decide +kernel
theorem dL_1139 : decode code 1139 = .ok (.iadd, 1) := by decide +kernel
theorem dL_1140 : decode code 1140 = .ok (.iaload, 1) := by decide +kernel
theorem dL_1141 : decode code 1141 = .ok (.invokevirtual 148, 3) := by decide +kernel
theorem dL_1144 : decode code 1144 = .ok (.aload_n 2, 1) := by decide +kernel
theorem dL_1145 : decode code 1145 = .ok (.aload_n 0, 1) := by decide +kernel
theorem dL_1146 : decode code 1146 = .ok (.iload_n 3, 1) := by decide +kernel
theorem dL_1147 : decode code 1147 = .ok (.iconst 1, 1) := by decide +kernel
theorem dL_1148 : decode code 1148 = .ok (.iadd, 1) := by decide +kernel
theorem dL_1149 : decode code 1149 = .ok (.iaload, 1) := by decide +kernel
theorem dL_1150 : decode code 1150 = .ok (.aload_n 0, 1) := by decide +kernel
theorem dL_1151 : decode code 1151 = .ok (.iload_n 3, 1) := by decide +kernel
theorem dL_1152 : decode code 1152 = .ok (.iconst 2, 1) := by decide +kernel
theorem dL_1153 : decode code 1153 = .ok (.iadd, 1) := by decide +kernel
theorem dL_1154 : decode code 1154 = .ok (.iaload, 1) := by decide +kernel
theorem dL_1155 : decode code 1155 = .ok (.invokevirtual 152, 3) := by decide +kernel
theorem dL_1158 : decode code 1158 = .ok (.if_icmp .eq 248, 3) := by decide +kernel
theorem dL_1161 : decode code 1161 = .ok (.iconst 0, 1) := by decide +kernel
theorem dL_1162 : decode code 1162 = .ok (.ireturn, 1) := by decide +kernel
theorem dL_1163 : decode code 1163 = .ok (.aload_n 1, 1) := by decide +kernel
theorem dL_1164 : decode code 1164 = .ok (.aload_n 0, 1) := by decide +kernel
theorem dL_1165 : decode code 1165 = .ok (.iload_n 3, 1) := by decide +kernel
theorem dL_1166 : decode code 1166 = .ok (.iconst 1, 1) := by decide +kernel
theorem dL_1167 : decode code 1167 = .ok (.iadd, 1) := by decide +kernel
theorem dL_1168 : decode code 1168 = .ok (.iaload, 1) := by decide +kernel
theorem dL_1169 : decode code 1169 = .ok (.invokevirtual 153, 3) := by decide +kernel
theorem dL_1172 : decode code 1172 = .ok (.aload_n 2, 1) := by decide +kernel
theorem dL_1173 : decode code 1173 = .ok (.aload_n 0, 1) := by decide +kernel
theorem dL_1174 : decode code 1174 = .ok (.iload_n 3, 1) := by decide +kernel
theorem dL_1175 : decode code 1175 = .ok (.iconst 1, 1) := by decide +kernel
theorem dL_1176 : decode code 1176 = .ok (.iadd, 1) := by decide +kernel
theorem dL_1177 : decode code 1177 = .ok (.iaload, 1) := by decide +kernel
theorem dL_1178 : decode code 1178 = .ok (.invokevirtual 156, 3) := by decide +kernel
theorem dL_1181 : decode code 1181 = .ok (.if_icmp .eq 225, 3) := by decide +kernel
theorem dL_1184 : decode code 1184 = .ok (.iconst 0, 1) := by decide +kernel
theorem dL_1185 : decode code 1185 = .ok (.ireturn, 1) := by decide +kernel
theorem dL_1186 : decode code 1186 = .ok (.aload_n 1, 1) := by decide +kernel
theorem dL_1187 : decode code 1187 = .ok (.aload_n 0, 1) := by decide +kernel
theorem dL_1188 : decode code 1188 = .ok (.iload_n 3, 1) := by decide +kernel
theorem dL_1189 : decode code 1189 = .ok (.iconst 1, 1) := by decide +kernel
theorem dL_1190 : decode code 1190 = .ok (.iadd, 1) := by decide +kernel
theorem dL_1191 : decode code 1191 = .ok (.iaload, 1) := by decide +kernel
theorem dL_1192 : decode code 1192 = .ok (.aload_n 0, 1) := by decide +kernel
theorem dL_1193 : decode code 1193 = .ok (.iload_n 3, 1) := by decide +kernel
theorem dL_1194 : decode code 1194 = .ok (.iconst 2, 1) := by decide +kernel
theorem dL_1195 : decode code 1195 = .ok (.iadd, 1) := by decide +kernel
theorem dL_1196 : decode code 1196 = .ok (.iaload, 1) := by decide +kernel
theorem dL_1197 : decode code 1197 = .ok (.invokevirtual 157, 3) := by decide +kernel
theorem dL_1200 : decode code 1200 = .ok (.aload_n 2, 1) := by decide +kernel
theorem dL_1201 : decode code 1201 = .ok (.aload_n 0, 1) := by decide +kernel
theorem dL_1202 : decode code 1202 = .ok (.iload_n 3, 1) := by decide +kernel
theorem dL_1203 : decode code 1203 = .ok (.iconst 1, 1) := by decide +kernel
theorem dL_1204 : decode code 1204 = .ok (.iadd, 1) := by decide +kernel
theorem dL_1205 : decode code 1205 = .ok (.iaload, 1) := by decide +kernel
theorem dL_1206 : decode code 1206 = .ok (.aload_n 0, 1) := by decide +kernel
theorem dL_1207 : decode code 1207 = .ok (.iload_n 3, 1) := by decide +kernel
theorem dL_1208 : decode code 1208 = .ok (.iconst 2, 1) := by decide +kernel
theorem dL_1209 : decode code 1209 = .ok (.iadd, 1) := by decide +kernel
theorem dL_1210 : decode code 1210 = .ok (.iaload, 1) := by decide +kernel
theorem dL_1211 : decode code 1211 = .ok (.invokevirtual 160, 3) := by decide +kernel
theorem dL_1214 : decode code 1214 = .ok (.if_icmp .eq 192, 3) := by decide +kernel
theorem dL_1217 : decode code 1217 = .ok (.iconst 0, 1) := by decide +kernel
theorem dL_1218 : decode code 1218 = .ok (.ireturn, 1) := by decide +kernel
theorem dL_1219 : decode code 1219 = .ok (.aload_n 1, 1) := by decide +kernel
theorem dL_1220 : decode code 1220 = .ok (.aload_n 0, 1) := by decide +kernel
theorem dL_1221 : decode code 1221 = .ok (.iload_n 3, 1) := by decide +kernel
theorem dL_1222 : decode code 1222 = .ok (.iconst 1, 1) := by decide +kernel
theorem dL_1223 : decode code 1223 = .ok (.iadd, 1) := by decide +kernel
theorem dL_1224 : decode code 1224 = .ok (.iaload, 1) := by decide +kernel
theorem dL_1225 : decode code 1225 = .ok (.aload_n 0, 1) := by decide +kernel
theorem dL_1226 : decode code 1226 = .ok (.iload_n 3, 1) := by decide +kernel
theorem dL_1227 : decode code 1227 = .ok (.iconst 2, 1) := by decide +kernel
theorem dL_1228 : decode code 1228 = .ok (.iadd, 1) := by decide +kernel
theorem dL_1229 : decode code 1229 = .ok (.iaload, 1) := by decide +kernel
theorem dL_1230 : decode code 1230 = .ok (.invokevirtual 161, 3) := by decide +kernel
theorem dL_1233 : decode code 1233 = .ok (.aload_n 2, 1) := by decide +kernel
theorem dL_1234 : decode code 1234 = .ok (.aload_n 0, 1) := by decide +kernel
theorem dL_1235 : decode code 1235 = .ok (.iload_n 3, 1) := by decide +kernel
theorem dL_1236 : decode code 1236 = .ok (.iconst 1, 1) := by decide +kernel
theorem dL_1237 : decode code 1237 = .ok (.iadd, 1) := by decide +kernel
theorem dL_1238 : decode code 1238 = .ok (.iaload, 1) := by decide +kernel
theorem dL_1239 : decode code 1239 = .ok (.aload_n 0, 1) := by decide +kernel
theorem dL_1240 : decode code 1240 = .ok (.iload_n 3, 1) := by decide +kernel
theorem dL_1241 : decode code 1241 = .ok (.iconst 2, 1) := by decide +kernel
theorem dL_1242 : decode code 1242 = .ok (.iadd, 1) := by decide +kernel
theorem dL_1243 : decode code 1243 = .ok (.iaload, 1) := by decide +kernel
theorem dL_1244 : decode code 1244 = .ok (.invokevirtual 164, 3) := by decide +kernel
theorem dL_1247 : decode code 1247 = .ok (.if_icmp .eq 159, 3) := by decide +kernel
theorem dL_1250 : decode code 1250 = .ok (.iconst 0, 1) := by decide +kernel
theorem dL_1251 : decode code 1251 = .ok (.ireturn, 1) := by decide +kernel
theorem dL_1252 : decode code 1252 = .ok (.aload_n 1, 1) := by decide +kernel
theorem dL_1253 : decode code 1253 = .ok (.aload_n 0, 1) := by decide +kernel
theorem dL_1254 : decode code 1254 = .ok (.iload_n 3, 1) := by decide +kernel
theorem dL_1255 : decode code 1255 = .ok (.iconst 1, 1) := by decide +kernel
theorem dL_1256 : decode code 1256 = .ok (.iadd, 1) := by decide +kernel
theorem dL_1257 : decode code 1257 = .ok (.iaload, 1) := by decide +kernel
theorem dL_1258 : decode code 1258 = .ok (.invokevirtual 165, 3) := by decide +kernel
theorem dL_1261 : decode code 1261 = .ok (.aload_n 2, 1) := by decide +kernel
theorem dL_1262 : decode code 1262 = .ok (.aload_n 0, 1) := by decide +kernel
theorem dL_1263 : decode code 1263 = .ok (.iload_n 3, 1) := by decide +kernel
theorem dL_1264 : decode code 1264 = .ok (.iconst 1, 1) := by decide +kernel
theorem dL_1265 : decode code 1265 = .ok (.iadd, 1) := by decide +kernel
theorem dL_1266 : decode code 1266 = .ok (.iaload, 1) := by decide +kernel
theorem dL_1267 : decode code 1267 = .ok (.invokevirtual 168, 3) := by decide +kernel
theorem dL_1270 : decode code 1270 = .ok (.if_icmp .eq 136, 3) := by decide +kernel
theorem dL_1273 : decode code 1273 = .ok (.iconst 0, 1) := by decide +kernel
theorem dL_1274 : decode code 1274 = .ok (.ireturn, 1) := by decide +kernel
theorem dL_1275 : decode code 1275 = .ok (.aload_n 1, 1) := by decide +kernel
theorem dL_1276 : decode code 1276 = .ok (.aload_n 0, 1) := by decide +kernel
theorem dL_1277 : decode code 1277 = .ok (.iload_n 3, 1) := by decide +kernel
theorem dL_1278 : decode code 1278 = .ok (.iconst 1, 1) := by decide +kernel
theorem dL_1279 : decode code 1279 = .ok (.iadd, 1) := by decide +kernel
theorem dL_1280 : decode code 1280 = .ok (.iaload, 1) := by decide +kernel
theorem dL_1281 : decode code 1281 = .ok (.invokevirtual 169, 3) := by decide +kernel
theorem dL_1284 : decode code 1284 = .ok (.aload_n 2, 1) := by decide +kernel
theorem dL_1285 : decode code 1285 = .ok (.aload_n 0, 1) := by decide +kernel
theorem dL_1286 : decode code 1286 = .ok (.iload_n 3, 1) := by decide +kernel
theorem dL_1287 : decode code 1287 = .ok (.iconst 1, 1) := by decide +kernel
theorem dL_1288 : decode code 1288 = .ok (.iadd, 1) := by decide +kernel
theorem dL_1289 : decode code 1289 = .ok (.iaload, 1) := by decide +kernel
theorem dL_1290 : decode code 1290 = .ok (.invokevirtual 172, 3) := by decide +kernel
theorem dL_1293 : decode code 1293 = .ok (.if_icmp .eq 113, 3) := by decide +kernel
theorem dL_1296 : decode code 1296 = .ok (.iconst 0, 1) := by decide +kernel
theorem dL_1297 : decode code 1297 = .ok (.ireturn, 1) := by decide +kernel
theorem dL_1298 : decode code 1298 = .ok (.aload_n 1, 1) := by decide +kernel
theorem dL_1299 : decode code 1299 = .ok (.invokevirtual 173, 3) := by decide +kernel
theorem dL_1302 : decode code 1302 = .ok (.aload_n 2, 1) := by decide +kernel
theorem dL_1303 : decode code 1303 = .ok (.invokevirtual 176, 3) := by decide +kernel
theorem dL_1306 : decode code 1306 = .ok (.if_icmp .eq 100, 3) := by decide +kernel
theorem dL_1309 : decode code 1309 = .ok (.iconst 0, 1) := by decide +kernel
theorem dL_1310 : decode code 1310 = .ok (.ireturn, 1) := by decide +kernel
theorem dL_1311 : decode code 1311 = .ok (.aload_n 1, 1) := by decide +kernel
theorem dL_1312 : decode code 1312 = .ok (.aload_n 0, 1) := by decide +kernel
theorem dL_1313 : decode code 1313 = .ok (.iload_n 3, 1) := by decide +kernel
theorem dL_1314 : decode code 1314 = .ok (.iconst 1, 1) := by decide +kernel
theorem dL_1315 : decode code 1315 = .ok (.iadd, 1) := by decide +kernel
theorem dL_1316 : decode code 1316 = .ok (.iaload, 1) := by decide +kernel
theorem dL_1317 : decode code 1317 = .ok (.invokevirtual 177, 3) := by decide +kernel
theorem dL_1320 : decode code 1320 = .ok (.aload_n 2, 1) := by decide +kernel
theorem dL_1321 : decode code 1321 = .ok (.aload_n 0, 1) := by decide +kernel
theorem dL_1322 : decode code 1322 = .ok (.iload_n 3, 1) := by decide +kernel
theorem dL_1323 : decode code 1323 = .ok (.iconst 1, 1) := by decide +kernel
theorem dL_1324 : decode code 1324 = .ok (.iadd, 1) := by decide +kernel
theorem dL_1325 : decode code 1325 = .ok (.iaload, 1) := by decide +kernel
theorem dL_1326 : decode code 1326 = .ok (.invokevirtual 180, 3) := by decide +kernel
theorem dL_1329 : decode code 1329 = .ok (.if_icmp .eq 77, 3) := by decide +kernel
theorem dL_1332 : decode code 1332 = .ok (.iconst 0, 1) := by decide +kernel
theorem dL_1333 : decode code 1333 = .ok (.ireturn, 1) := by decide +kernel
theorem dL_1334 : decode code 1334 = .ok (.aload_n 1, 1) := by decide +kernel
theorem dL_1335 : decode code 1335 = .ok (.invokevirtual 181, 3) := by decide +kernel
theorem dL_1338 : decode code 1338 = .ok (.aload_n 2, 1) := by decide +kernel
theorem dL_1339 : decode code 1339 = .ok (.invokevirtual 184, 3) := by decide +kernel
theorem dL_1342 : decode code 1342 = .ok (.if_icmp .eq 64, 3) := by decide +kernel
theorem dL_1345 : decode code 1345 = .ok (.iconst 0, 1) := by decide +kernel
theorem dL_1346 : decode code 1346 = .ok (.ireturn, 1) := by decide +kernel
theorem dL_1347 : decode code 1347 = .ok (.aload_n 1, 1) := by decide +kernel
theorem dL_1348 : decode code 1348 = .ok (.aload_n 0, 1) := by decide +kernel
theorem dL_1349 : decode code 1349 = .ok (.iload_n 3, 1) := by decide +kernel
theorem dL_1350 : decode code 1350 = .ok (.iconst 1, 1) := by decide +kernel
theorem dL_1351 : decode code 1351 = .ok (.iadd, 1) := by decide +kernel
theorem dL_1352 : decode code 1352 = .ok (.iaload, 1) := by decide +kernel
theorem dL_1353 : decode code 1353 = .ok (.invokevirtual 185, 3) := by decide +kernel
theorem dL_1356 : decode code 1356 = .ok (.aload_n 2, 1) := by decide +kernel
theorem dL_1357 : decode code 1357 = .ok (.aload_n 0, 1) := by decide +kernel
theorem dL_1358 : decode code 1358 = .ok (.iload_n 3, 1) := by decide +kernel
theorem dL_1359 : decode code 1359 = .ok (.iconst 1, 1) := by decide +kernel
theorem dL_1360 : decode code 1360 = .ok (.iadd, 1) := by decide +kernel
theorem dL_1361 : decode code 1361 = .ok (.iaload, 1) := by decide +kernel
theorem dL_1362 : decode code 1362 = .ok (.invokevirtual 188, 3) := by decide +kernel
theorem dL_1365 : decode code 1365 = .ok (.if_icmp .eq 41, 3) := by decide +kernel
theorem dL_1368 : decode code 1368 = .ok (.iconst 0, 1) := by decide +kernel
theorem dL_1369 : decode code 1369 = .ok (.ireturn, 1) := by decide +kernel
theorem dL_1370 : decode code 1370 = .ok (.aload_n 1, 1) := by decide +kernel
theorem dL_1371 : decode code 1371 = .ok (.invokevirtual 189, 3) := by decide +kernel
theorem dL_1374 : decode code 1374 = .ok (.aload_n 2, 1) := by decide +kernel
theorem dL_1375 : decode code 1375 = .ok (.invokevirtual 192, 3) := by decide +kernel
theorem dL_1378 : decode code 1378 = .ok (.if_icmp .eq 28, 3) := by decide +kernel
theorem dL_1381 : decode code 1381 = .ok (.iconst 0, 1) := by decide +kernel
theorem dL_1382 : decode code 1382 = .ok (.ireturn, 1) := by decide +kernel
theorem dL_1383 : decode code 1383 = .ok (.aload_n 1, 1) := by decide +kernel
theorem dL_1384 : decode code 1384 = .ok (.aload_n 0, 1) := by decide +kernel
theorem dL_1385 : decode code 1385 = .ok (.iload_n 3, 1) := by decide +kernel
theorem dL_1386 : decode code 1386 = .ok (.iconst 1, 1) := by decide +kernel
theorem dL_1387 : decode code 1387 = .ok (.iadd, 1) := by decide +kernel
theorem dL_1388 : decode code 1388 = .ok (.iaload, 1) := by decide +kernel
theorem dL_1389 : decode code 1389 = .ok (.invokevirtual 193, 3) := by decide +kernel
theorem dL_1392 : decode code 1392 = .ok (.aload_n 2, 1) := by decide +kernel
theorem dL_1393 : decode code 1393 = .ok (.aload_n 0, 1) := by decide +kernel
theorem dL_1394 : decode code 1394 = .ok (.iload_n 3, 1) := by decide +kernel
theorem dL_1395 : decode code 1395 = .ok (.iconst 1, 1) := by decide +kernel
theorem dL_1396 : decode code 1396 = .ok (.iadd, 1) := by decide +kernel
theorem dL_1397 : decode code 1397 = .ok (.iaload, 1) := by decide +kernel
theorem dL_1398 : decode code 1398 = .ok (.invokevirtual 196, 3) := by decide +kernel
theorem dL_1401 : decode code 1401 = .ok (.if_icmp .eq 5, 3) := by decide +kernel
theorem dL_1404 : decode code 1404 = .ok (.iconst 0, 1) := by decide +kernel
theorem dL_1405 : decode code 1405 = .ok (.ireturn, 1) := by decide +kernel
theorem dL_1406 : decode code 1406 = .ok (.iinc 3 6, 3) := by decide +kernel
theorem dL_1409 : decode code 1409 = .ok (.goto (-1391), 3) := by decide +kernel
theorem dL_1412 : decode code 1412 = .ok (.iconst 1, 1) := by decide +kernel
theorem dL_1413 : decode code 1413 = .ok (.ireturn, 1) := by decide +kernel
theorem lL_13 : Cond.methodLink RL 13 yX11_feed ∈ zTb := zTb3 184 rfl rfl
theorem vL11_feed : zMv yX11_feed cX11_feed 6 (some .int) 5 11 := ⟨⟨zTb3 187 rfl rfl, zTb1 1 rfl rfl, by decide, by decide, by decide +kernel⟩, zTb3 185 rfl rfl, zTb3 186 rfl rfl, by decide +kernel⟩
theorem lL_17 : Cond.methodLink RL 17 yX12_feed ∈ zTb := zTb7 237 rfl rfl
theorem vL12_feed : zMv yX12_feed cX12_feed 6 (some .int) 5 12 := ⟨⟨zTb8 0 rfl rfl, zTb1 13 rfl rfl, by decide, by decide, by decide +kernel⟩, zTb7 238 rfl rfl, zTb7 239 rfl rfl, by decide +kernel⟩
theorem lL_18 : Cond.methodLink RL 18 yX11_end ∈ zTb := zTb3 196 rfl rfl
theorem vL11_end : zMv yX11_end cX11_end 2 (some .boolean) 1 11 := ⟨⟨zTb3 199 rfl rfl, zTb1 1 rfl rfl, by decide, by decide, by decide +kernel⟩, zTb3 197 rfl rfl, zTb3 198 rfl rfl, by decide +kernel⟩
theorem lL_22 : Cond.methodLink RL 22 yX12_end ∈ zTb := zTb8 9 rfl rfl
theorem vL12_end : zMv yX12_end cX12_end 2 (some .boolean) 1 12 := ⟨⟨zTb8 12 rfl rfl, zTb1 13 rfl rfl, by decide, by decide, by decide +kernel⟩, zTb8 10 rfl rfl, zTb8 11 rfl rfl, by decide +kernel⟩
theorem lL_23 : Cond.methodLink RL 23 yX11_net ∈ zTb := zTb3 204 rfl rfl
theorem vL11_net : zMv yX11_net cX11_net 3 (some .int) 0 11 := ⟨⟨zTb3 207 rfl rfl, zTb1 1 rfl rfl, by decide, by decide, by decide +kernel⟩, zTb3 205 rfl rfl, zTb3 206 rfl rfl, by decide +kernel⟩
theorem lL_27 : Cond.methodLink RL 27 yX12_net ∈ zTb := zTb8 13 rfl rfl
theorem vL12_net : zMv yX12_net cX12_net 3 (some .int) 0 12 := ⟨⟨zTb8 16 rfl rfl, zTb1 13 rfl rfl, by decide, by decide, by decide +kernel⟩, zTb8 14 rfl rfl, zTb8 15 rfl rfl, by decide +kernel⟩
theorem lL_28 : Cond.methodLink RL 28 yX11_fault ∈ zTb := zTb5 5 rfl rfl
theorem vL11_fault : zMv yX11_fault cX11_fault 2 (some .int) 1 11 := ⟨⟨zTb5 8 rfl rfl, zTb1 1 rfl rfl, by decide, by decide, by decide +kernel⟩, zTb5 6 rfl rfl, zTb5 7 rfl rfl, by decide +kernel⟩
theorem lL_32 : Cond.methodLink RL 32 yX12_fault ∈ zTb := zTb8 239 rfl rfl
theorem vL12_fault : zMv yX12_fault cX12_fault 2 (some .int) 1 12 := ⟨⟨zTb9 2 rfl rfl, zTb1 13 rfl rfl, by decide, by decide, by decide +kernel⟩, zTb9 0 rfl rfl, zTb9 1 rfl rfl, by decide +kernel⟩
theorem lL_33 : Cond.methodLink RL 33 yX11_has ∈ zTb := zTb5 9 rfl rfl
theorem vL11_has : zMv yX11_has cX11_has 2 (some .int) 1 11 := ⟨⟨zTb5 12 rfl rfl, zTb1 1 rfl rfl, by decide, by decide, by decide +kernel⟩, zTb5 10 rfl rfl, zTb5 11 rfl rfl, by decide +kernel⟩
theorem lL_36 : Cond.methodLink RL 36 yX12_has ∈ zTb := zTb9 3 rfl rfl
theorem vL12_has : zMv yX12_has cX12_has 2 (some .int) 1 12 := ⟨⟨zTb9 6 rfl rfl, zTb1 13 rfl rfl, by decide, by decide, by decide +kernel⟩, zTb9 4 rfl rfl, zTb9 5 rfl rfl, by decide +kernel⟩
theorem lL_37 : Cond.methodLink RL 37 yX11_letter ∈ zTb := zTb5 33 rfl rfl
theorem vL11_letter : zMv yX11_letter cX11_letter 4 (some .int) 3 11 := ⟨⟨zTb5 36 rfl rfl, zTb1 1 rfl rfl, by decide, by decide, by decide +kernel⟩, zTb5 34 rfl rfl, zTb5 35 rfl rfl, by decide +kernel⟩
theorem lL_41 : Cond.methodLink RL 41 yX12_letter ∈ zTb := zTb9 19 rfl rfl
theorem vL12_letter : zMv yX12_letter cX12_letter 4 (some .int) 3 12 := ⟨⟨zTb9 22 rfl rfl, zTb1 13 rfl rfl, by decide, by decide, by decide +kernel⟩, zTb9 20 rfl rfl, zTb9 21 rfl rfl, by decide +kernel⟩
theorem lL_42 : Cond.methodLink RL 42 yX11_link ∈ zTb := zTb5 45 rfl rfl
theorem vL11_link : zMv yX11_link cX11_link 3 (some .int) 2 11 := ⟨⟨zTb5 48 rfl rfl, zTb1 1 rfl rfl, by decide, by decide, by decide +kernel⟩, zTb5 46 rfl rfl, zTb5 47 rfl rfl, by decide +kernel⟩
theorem lL_46 : Cond.methodLink RL 46 yX12_link ∈ zTb := zTb9 23 rfl rfl
theorem vL12_link : zMv yX12_link cX12_link 3 (some .int) 2 12 := ⟨⟨zTb9 26 rfl rfl, zTb1 13 rfl rfl, by decide, by decide, by decide +kernel⟩, zTb9 24 rfl rfl, zTb9 25 rfl rfl, by decide +kernel⟩
theorem lL_47 : Cond.methodLink RL 47 yX11_bridge ∈ zTb := zTb5 54 rfl rfl
theorem vL11_bridge : zMv yX11_bridge cX11_bridge 4 (some .int) 2 11 := ⟨⟨zTb5 57 rfl rfl, zTb1 1 rfl rfl, by decide, by decide, by decide +kernel⟩, zTb5 55 rfl rfl, zTb5 56 rfl rfl, by decide +kernel⟩
theorem lL_50 : Cond.methodLink RL 50 yX12_bridge ∈ zTb := zTb9 31 rfl rfl
theorem vL12_bridge : zMv yX12_bridge cX12_bridge 3 (some .int) 2 12 := ⟨⟨zTb9 34 rfl rfl, zTb1 13 rfl rfl, by decide, by decide, by decide +kernel⟩, zTb9 32 rfl rfl, zTb9 33 rfl rfl, by decide +kernel⟩
theorem lL_51 : Cond.methodLink RL 51 yX11_port ∈ zTb := zTb5 63 rfl rfl
theorem vL11_port : zMv yX11_port cX11_port 4 (some .int) 3 11 := ⟨⟨zTb5 66 rfl rfl, zTb1 1 rfl rfl, by decide, by decide, by decide +kernel⟩, zTb5 64 rfl rfl, zTb5 65 rfl rfl, by decide +kernel⟩
theorem lL_54 : Cond.methodLink RL 54 yX12_port ∈ zTb := zTb9 39 rfl rfl
theorem vL12_port : zMv yX12_port cX12_port 4 (some .int) 3 12 := ⟨⟨zTb9 42 rfl rfl, zTb1 13 rfl rfl, by decide, by decide, by decide +kernel⟩, zTb9 40 rfl rfl, zTb9 41 rfl rfl, by decide +kernel⟩
theorem lL_55 : Cond.methodLink RL 55 yX11_held ∈ zTb := zTb5 77 rfl rfl
theorem vL11_held : zMv yX11_held cX11_held 4 (some .int) 3 11 := ⟨⟨zTb5 80 rfl rfl, zTb1 1 rfl rfl, by decide, by decide, by decide +kernel⟩, zTb5 78 rfl rfl, zTb5 79 rfl rfl, by decide +kernel⟩
theorem lL_58 : Cond.methodLink RL 58 yX12_held ∈ zTb := zTb9 50 rfl rfl
theorem vL12_held : zMv yX12_held cX12_held 4 (some .int) 3 12 := ⟨⟨zTb9 53 rfl rfl, zTb1 13 rfl rfl, by decide, by decide, by decide +kernel⟩, zTb9 51 rfl rfl, zTb9 52 rfl rfl, by decide +kernel⟩
theorem lL_59 : Cond.methodLink RL 59 yX11_address ∈ zTb := zTb5 85 rfl rfl
theorem vL11_address : zMv yX11_address cX11_address 5 (some .int) 3 11 := ⟨⟨zTb5 88 rfl rfl, zTb1 1 rfl rfl, by decide, by decide, by decide +kernel⟩, zTb5 86 rfl rfl, zTb5 87 rfl rfl, by decide +kernel⟩
theorem lL_62 : Cond.methodLink RL 62 yX12_address ∈ zTb := zTb9 54 rfl rfl
theorem vL12_address : zMv yX12_address cX12_address 4 (some .int) 3 12 := ⟨⟨zTb9 57 rfl rfl, zTb1 13 rfl rfl, by decide, by decide, by decide +kernel⟩, zTb9 55 rfl rfl, zTb9 56 rfl rfl, by decide +kernel⟩
theorem lL_63 : Cond.methodLink RL 63 yX11_message ∈ zTb := zTb5 89 rfl rfl
theorem vL11_message : zMv yX11_message cX11_message 6 (some .int) 2 11 := ⟨⟨zTb5 92 rfl rfl, zTb1 1 rfl rfl, by decide, by decide, by decide +kernel⟩, zTb5 90 rfl rfl, zTb5 91 rfl rfl, by decide +kernel⟩
theorem lL_66 : Cond.methodLink RL 66 yX12_message ∈ zTb := zTb9 62 rfl rfl
theorem vL12_message : zMv yX12_message cX12_message 6 (some .int) 2 12 := ⟨⟨zTb9 65 rfl rfl, zTb1 13 rfl rfl, by decide, by decide, by decide +kernel⟩, zTb9 63 rfl rfl, zTb9 64 rfl rfl, by decide +kernel⟩
theorem lL_67 : Cond.methodLink RL 67 yX11_kept ∈ zTb := zTb5 100 rfl rfl
theorem vL11_kept : zMv yX11_kept cX11_kept 4 (some .int) 2 11 := ⟨⟨zTb5 103 rfl rfl, zTb1 1 rfl rfl, by decide, by decide, by decide +kernel⟩, zTb5 101 rfl rfl, zTb5 102 rfl rfl, by decide +kernel⟩
theorem lL_70 : Cond.methodLink RL 70 yX12_kept ∈ zTb := zTb9 74 rfl rfl
theorem vL12_kept : zMv yX12_kept cX12_kept 3 (some .int) 2 12 := ⟨⟨zTb9 77 rfl rfl, zTb1 13 rfl rfl, by decide, by decide, by decide +kernel⟩, zTb9 75 rfl rfl, zTb9 76 rfl rfl, by decide +kernel⟩
theorem lL_71 : Cond.methodLink RL 71 yX11_due ∈ zTb := zTb5 104 rfl rfl
theorem vL11_due : zMv yX11_due cX11_due 3 (some .int) 2 11 := ⟨⟨zTb5 107 rfl rfl, zTb1 1 rfl rfl, by decide, by decide, by decide +kernel⟩, zTb5 105 rfl rfl, zTb5 106 rfl rfl, by decide +kernel⟩
theorem lL_74 : Cond.methodLink RL 74 yX12_due ∈ zTb := zTb9 78 rfl rfl
theorem vL12_due : zMv yX12_due cX12_due 5 (some .int) 2 12 := ⟨⟨zTb9 81 rfl rfl, zTb1 13 rfl rfl, by decide, by decide, by decide +kernel⟩, zTb9 79 rfl rfl, zTb9 80 rfl rfl, by decide +kernel⟩
theorem lL_75 : Cond.methodLink RL 75 yX11_role ∈ zTb := zTb5 141 rfl rfl
theorem vL11_role : zMv yX11_role cX11_role 3 (some .int) 2 11 := ⟨⟨zTb5 144 rfl rfl, zTb1 1 rfl rfl, by decide, by decide, by decide +kernel⟩, zTb5 142 rfl rfl, zTb5 143 rfl rfl, by decide +kernel⟩
theorem lL_78 : Cond.methodLink RL 78 yX12_role ∈ zTb := zTb9 103 rfl rfl
theorem vL12_role : zMv yX12_role cX12_role 3 (some .int) 2 12 := ⟨⟨zTb9 106 rfl rfl, zTb1 13 rfl rfl, by decide, by decide, by decide +kernel⟩, zTb9 104 rfl rfl, zTb9 105 rfl rfl, by decide +kernel⟩
theorem lL_79 : Cond.methodLink RL 79 yX11_rests ∈ zTb := zTb5 145 rfl rfl
theorem vL11_rests : zMv yX11_rests cX11_rests 1 (some .boolean) 0 11 := ⟨⟨zTb5 148 rfl rfl, zTb1 1 rfl rfl, by decide, by decide, by decide +kernel⟩, zTb5 146 rfl rfl, zTb5 147 rfl rfl, by decide +kernel⟩
theorem lL_83 : Cond.methodLink RL 83 yX12_rests ∈ zTb := zTb9 111 rfl rfl
theorem vL12_rests : zMv yX12_rests cX12_rests 1 (some .boolean) 0 12 := ⟨⟨zTb9 114 rfl rfl, zTb1 13 rfl rfl, by decide, by decide, by decide +kernel⟩, zTb9 112 rfl rfl, zTb9 113 rfl rfl, by decide +kernel⟩
theorem lL_84 : Cond.methodLink RL 84 yX11_when ∈ zTb := zTb5 154 rfl rfl
theorem vL11_when : zMv yX11_when cX11_when 2 (some .int) 0 11 := ⟨⟨zTb5 157 rfl rfl, zTb1 1 rfl rfl, by decide, by decide, by decide +kernel⟩, zTb5 155 rfl rfl, zTb5 156 rfl rfl, by decide +kernel⟩
theorem lL_87 : Cond.methodLink RL 87 yX12_when ∈ zTb := zTb9 123 rfl rfl
theorem vL12_when : zMv yX12_when cX12_when 2 (some .int) 0 12 := ⟨⟨zTb9 126 rfl rfl, zTb1 13 rfl rfl, by decide, by decide, by decide +kernel⟩, zTb9 124 rfl rfl, zTb9 125 rfl rfl, by decide +kernel⟩
theorem lL_88 : Cond.methodLink RL 88 yX11_ring ∈ zTb := zTb5 231 rfl rfl
theorem vL11_ring : zMv yX11_ring cX11_ring 2 (some .int) 1 11 := ⟨⟨zTb5 234 rfl rfl, zTb1 1 rfl rfl, by decide, by decide, by decide +kernel⟩, zTb5 232 rfl rfl, zTb5 233 rfl rfl, by decide +kernel⟩
theorem lL_91 : Cond.methodLink RL 91 yX12_ring ∈ zTb := zTb9 182 rfl rfl
theorem vL12_ring : zMv yX12_ring cX12_ring 2 (some .int) 1 12 := ⟨⟨zTb9 185 rfl rfl, zTb1 13 rfl rfl, by decide, by decide, by decide +kernel⟩, zTb9 183 rfl rfl, zTb9 184 rfl rfl, by decide +kernel⟩
theorem lL_92 : Cond.methodLink RL 92 yX11_rings ∈ zTb := zTb6 14 rfl rfl
theorem vL11_rings : zMv yX11_rings cX11_rings 4 (some .int) 1 11 := ⟨⟨zTb6 17 rfl rfl, zTb1 1 rfl rfl, by decide, by decide, by decide +kernel⟩, zTb6 15 rfl rfl, zTb6 16 rfl rfl, by decide +kernel⟩
theorem lL_95 : Cond.methodLink RL 95 yX12_rings ∈ zTb := zTb9 194 rfl rfl
theorem vL12_rings : zMv yX12_rings cX12_rings 4 (some .int) 1 12 := ⟨⟨zTb9 197 rfl rfl, zTb1 13 rfl rfl, by decide, by decide, by decide +kernel⟩, zTb9 195 rfl rfl, zTb9 196 rfl rfl, by decide +kernel⟩
theorem lL_96 : Cond.methodLink RL 96 yX11_joined ∈ zTb := zTb6 18 rfl rfl
theorem vL11_joined : zMv yX11_joined cX11_joined 3 (some .int) 2 11 := ⟨⟨zTb6 21 rfl rfl, zTb1 1 rfl rfl, by decide, by decide, by decide +kernel⟩, zTb6 19 rfl rfl, zTb6 20 rfl rfl, by decide +kernel⟩
theorem lL_99 : Cond.methodLink RL 99 yX12_joined ∈ zTb := zTb9 198 rfl rfl
theorem vL12_joined : zMv yX12_joined cX12_joined 7 (some .int) 2 12 := ⟨⟨zTb9 201 rfl rfl, zTb1 13 rfl rfl, by decide, by decide, by decide +kernel⟩, zTb9 199 rfl rfl, zTb9 200 rfl rfl, by decide +kernel⟩
theorem lL_100 : Cond.methodLink RL 100 yX11_leads ∈ zTb := zTb6 32 rfl rfl
theorem vL11_leads : zMv yX11_leads cX11_leads 3 (some .int) 2 11 := ⟨⟨zTb6 35 rfl rfl, zTb1 1 rfl rfl, by decide, by decide, by decide +kernel⟩, zTb6 33 rfl rfl, zTb6 34 rfl rfl, by decide +kernel⟩
theorem lL_103 : Cond.methodLink RL 103 yX12_leads ∈ zTb := zTb9 202 rfl rfl
theorem vL12_leads : zMv yX12_leads cX12_leads 6 (some .int) 2 12 := ⟨⟨zTb9 205 rfl rfl, zTb1 13 rfl rfl, by decide, by decide, by decide +kernel⟩, zTb9 203 rfl rfl, zTb9 204 rfl rfl, by decide +kernel⟩
theorem lL_104 : Cond.methodLink RL 104 yX11_heal ∈ zTb := zTb6 40 rfl rfl
theorem vL11_heal : zMv yX11_heal cX11_heal 2 (some .int) 1 11 := ⟨⟨zTb6 43 rfl rfl, zTb1 1 rfl rfl, by decide, by decide, by decide +kernel⟩, zTb6 41 rfl rfl, zTb6 42 rfl rfl, by decide +kernel⟩
theorem lL_107 : Cond.methodLink RL 107 yX12_heal ∈ zTb := zTb9 206 rfl rfl
theorem vL12_heal : zMv yX12_heal cX12_heal 3 (some .int) 1 12 := ⟨⟨zTb9 209 rfl rfl, zTb1 13 rfl rfl, by decide, by decide, by decide +kernel⟩, zTb9 207 rfl rfl, zTb9 208 rfl rfl, by decide +kernel⟩
theorem lL_108 : Cond.methodLink RL 108 yX11_worst ∈ zTb := zTb6 69 rfl rfl
theorem vL11_worst : zMv yX11_worst cX11_worst 6 (some .int) 1 11 := ⟨⟨zTb6 72 rfl rfl, zTb1 1 rfl rfl, by decide, by decide, by decide +kernel⟩, zTb6 70 rfl rfl, zTb6 71 rfl rfl, by decide +kernel⟩
theorem lL_111 : Cond.methodLink RL 111 yX12_worst ∈ zTb := zTb10 1 rfl rfl
theorem vL12_worst : zMv yX12_worst cX12_worst 6 (some .int) 1 12 := ⟨⟨zTb10 4 rfl rfl, zTb1 13 rfl rfl, by decide, by decide, by decide +kernel⟩, zTb10 2 rfl rfl, zTb10 3 rfl rfl, by decide +kernel⟩
theorem lL_112 : Cond.methodLink RL 112 yX11_see ∈ zTb := zTb6 73 rfl rfl
theorem vL11_see : zMv yX11_see cX11_see 3 (some .int) 1 11 := ⟨⟨zTb6 76 rfl rfl, zTb1 1 rfl rfl, by decide, by decide, by decide +kernel⟩, zTb6 74 rfl rfl, zTb6 75 rfl rfl, by decide +kernel⟩
theorem lL_115 : Cond.methodLink RL 115 yX12_see ∈ zTb := zTb10 5 rfl rfl
theorem vL12_see : zMv yX12_see cX12_see 5 (some .int) 1 12 := ⟨⟨zTb10 8 rfl rfl, zTb1 13 rfl rfl, by decide, by decide, by decide +kernel⟩, zTb10 6 rfl rfl, zTb10 7 rfl rfl, by decide +kernel⟩
theorem lL_116 : Cond.methodLink RL 116 yX11_suspect ∈ zTb := zTb6 82 rfl rfl
theorem vL11_suspect : zMv yX11_suspect cX11_suspect 2 (some .int) 1 11 := ⟨⟨zTb6 85 rfl rfl, zTb1 1 rfl rfl, by decide, by decide, by decide +kernel⟩, zTb6 83 rfl rfl, zTb6 84 rfl rfl, by decide +kernel⟩
theorem lL_119 : Cond.methodLink RL 119 yX12_suspect ∈ zTb := zTb10 9 rfl rfl
theorem vL12_suspect : zMv yX12_suspect cX12_suspect 5 (some .int) 1 12 := ⟨⟨zTb10 12 rfl rfl, zTb1 13 rfl rfl, by decide, by decide, by decide +kernel⟩, zTb10 10 rfl rfl, zTb10 11 rfl rfl, by decide +kernel⟩
theorem lL_120 : Cond.methodLink RL 120 yX11_tells ∈ zTb := zTb6 98 rfl rfl
theorem vL11_tells : zMv yX11_tells cX11_tells 2 (some .int) 1 11 := ⟨⟨zTb6 101 rfl rfl, zTb1 1 rfl rfl, by decide, by decide, by decide +kernel⟩, zTb6 99 rfl rfl, zTb6 100 rfl rfl, by decide +kernel⟩
theorem lL_123 : Cond.methodLink RL 123 yX12_tells ∈ zTb := zTb10 21 rfl rfl
theorem vL12_tells : zMv yX12_tells cX12_tells 7 (some .int) 1 12 := ⟨⟨zTb10 24 rfl rfl, zTb1 13 rfl rfl, by decide, by decide, by decide +kernel⟩, zTb10 22 rfl rfl, zTb10 23 rfl rfl, by decide +kernel⟩
theorem lL_124 : Cond.methodLink RL 124 yX11_centre ∈ zTb := zTb6 113 rfl rfl
theorem vL11_centre : zMv yX11_centre cX11_centre 2 (some .int) 1 11 := ⟨⟨zTb6 116 rfl rfl, zTb1 1 rfl rfl, by decide, by decide, by decide +kernel⟩, zTb6 114 rfl rfl, zTb6 115 rfl rfl, by decide +kernel⟩
theorem lL_127 : Cond.methodLink RL 127 yX12_centre ∈ zTb := zTb10 29 rfl rfl
theorem vL12_centre : zMv yX12_centre cX12_centre 9 (some .int) 1 12 := ⟨⟨zTb10 32 rfl rfl, zTb1 13 rfl rfl, by decide, by decide, by decide +kernel⟩, zTb10 30 rfl rfl, zTb10 31 rfl rfl, by decide +kernel⟩
theorem lL_128 : Cond.methodLink RL 128 yX11_run ∈ zTb := zTb6 121 rfl rfl
theorem vL11_run : zMv yX11_run cX11_run 2 (some .int) 1 11 := ⟨⟨zTb6 124 rfl rfl, zTb1 1 rfl rfl, by decide, by decide, by decide +kernel⟩, zTb6 122 rfl rfl, zTb6 123 rfl rfl, by decide +kernel⟩
theorem lL_131 : Cond.methodLink RL 131 yX12_run ∈ zTb := zTb10 33 rfl rfl
theorem vL12_run : zMv yX12_run cX12_run 3 (some .int) 1 12 := ⟨⟨zTb10 36 rfl rfl, zTb1 13 rfl rfl, by decide, by decide, by decide +kernel⟩, zTb10 34 rfl rfl, zTb10 35 rfl rfl, by decide +kernel⟩
theorem lL_132 : Cond.methodLink RL 132 yX11_cut ∈ zTb := zTb6 134 rfl rfl
theorem vL11_cut : zMv yX11_cut cX11_cut 2 (some .boolean) 1 11 := ⟨⟨zTb6 137 rfl rfl, zTb1 1 rfl rfl, by decide, by decide, by decide +kernel⟩, zTb6 135 rfl rfl, zTb6 136 rfl rfl, by decide +kernel⟩
theorem lL_135 : Cond.methodLink RL 135 yX12_cut ∈ zTb := zTb10 42 rfl rfl
theorem vL12_cut : zMv yX12_cut cX12_cut 2 (some .boolean) 1 12 := ⟨⟨zTb10 45 rfl rfl, zTb1 13 rfl rfl, by decide, by decide, by decide +kernel⟩, zTb10 43 rfl rfl, zTb10 44 rfl rfl, by decide +kernel⟩
theorem lL_136 : Cond.methodLink RL 136 yX11_mend ∈ zTb := zTb6 138 rfl rfl
theorem vL11_mend : zMv yX11_mend cX11_mend 2 (some .boolean) 1 11 := ⟨⟨zTb6 141 rfl rfl, zTb1 1 rfl rfl, by decide, by decide, by decide +kernel⟩, zTb6 139 rfl rfl, zTb6 140 rfl rfl, by decide +kernel⟩
theorem lL_139 : Cond.methodLink RL 139 yX12_mend ∈ zTb := zTb10 50 rfl rfl
theorem vL12_mend : zMv yX12_mend cX12_mend 2 (some .boolean) 1 12 := ⟨⟨zTb10 53 rfl rfl, zTb1 13 rfl rfl, by decide, by decide, by decide +kernel⟩, zTb10 51 rfl rfl, zTb10 52 rfl rfl, by decide +kernel⟩
theorem lL_140 : Cond.methodLink RL 140 yX11_stop ∈ zTb := zTb6 150 rfl rfl
theorem vL11_stop : zMv yX11_stop cX11_stop 2 (some .boolean) 1 11 := ⟨⟨zTb6 153 rfl rfl, zTb1 1 rfl rfl, by decide, by decide, by decide +kernel⟩, zTb6 151 rfl rfl, zTb6 152 rfl rfl, by decide +kernel⟩
theorem lL_143 : Cond.methodLink RL 143 yX12_stop ∈ zTb := zTb10 58 rfl rfl
theorem vL12_stop : zMv yX12_stop cX12_stop 2 (some .boolean) 1 12 := ⟨⟨zTb10 61 rfl rfl, zTb1 13 rfl rfl, by decide, by decide, by decide +kernel⟩, zTb10 59 rfl rfl, zTb10 60 rfl rfl, by decide +kernel⟩
theorem lL_144 : Cond.methodLink RL 144 yX11_start ∈ zTb := zTb6 158 rfl rfl
theorem vL11_start : zMv yX11_start cX11_start 2 (some .boolean) 1 11 := ⟨⟨zTb6 161 rfl rfl, zTb1 1 rfl rfl, by decide, by decide, by decide +kernel⟩, zTb6 159 rfl rfl, zTb6 160 rfl rfl, by decide +kernel⟩
theorem lL_147 : Cond.methodLink RL 147 yX12_start ∈ zTb := zTb10 66 rfl rfl
theorem vL12_start : zMv yX12_start cX12_start 2 (some .boolean) 1 12 := ⟨⟨zTb10 69 rfl rfl, zTb1 13 rfl rfl, by decide, by decide, by decide +kernel⟩, zTb10 67 rfl rfl, zTb10 68 rfl rfl, by decide +kernel⟩
theorem lL_148 : Cond.methodLink RL 148 yX11_prio ∈ zTb := zTb6 166 rfl rfl
theorem vL11_prio : zMv yX11_prio cX11_prio 3 (some .boolean) 2 11 := ⟨⟨zTb6 169 rfl rfl, zTb1 1 rfl rfl, by decide, by decide, by decide +kernel⟩, zTb6 167 rfl rfl, zTb6 168 rfl rfl, by decide +kernel⟩
theorem lL_152 : Cond.methodLink RL 152 yX12_prio ∈ zTb := zTb10 74 rfl rfl
theorem vL12_prio : zMv yX12_prio cX12_prio 3 (some .boolean) 2 12 := ⟨⟨zTb10 77 rfl rfl, zTb1 13 rfl rfl, by decide, by decide, by decide +kernel⟩, zTb10 75 rfl rfl, zTb10 76 rfl rfl, by decide +kernel⟩
theorem lL_153 : Cond.methodLink RL 153 yX11_turn ∈ zTb := zTb6 174 rfl rfl
theorem vL11_turn : zMv yX11_turn cX11_turn 2 (some .int) 1 11 := ⟨⟨zTb6 177 rfl rfl, zTb1 1 rfl rfl, by decide, by decide, by decide +kernel⟩, zTb6 175 rfl rfl, zTb6 176 rfl rfl, by decide +kernel⟩
theorem lL_156 : Cond.methodLink RL 156 yX12_turn ∈ zTb := zTb10 78 rfl rfl
theorem vL12_turn : zMv yX12_turn cX12_turn 2 (some .int) 1 12 := ⟨⟨zTb10 81 rfl rfl, zTb1 13 rfl rfl, by decide, by decide, by decide +kernel⟩, zTb10 79 rfl rfl, zTb10 80 rfl rfl, by decide +kernel⟩
theorem lL_157 : Cond.methodLink RL 157 yX11_move ∈ zTb := zTb6 184 rfl rfl
theorem vL11_move : zMv yX11_move cX11_move 3 (some .boolean) 2 11 := ⟨⟨zTb6 187 rfl rfl, zTb1 1 rfl rfl, by decide, by decide, by decide +kernel⟩, zTb6 185 rfl rfl, zTb6 186 rfl rfl, by decide +kernel⟩
theorem lL_160 : Cond.methodLink RL 160 yX12_move ∈ zTb := zTb10 82 rfl rfl
theorem vL12_move : zMv yX12_move cX12_move 3 (some .boolean) 2 12 := ⟨⟨zTb10 85 rfl rfl, zTb1 13 rfl rfl, by decide, by decide, by decide +kernel⟩, zTb10 83 rfl rfl, zTb10 84 rfl rfl, by decide +kernel⟩
theorem lL_161 : Cond.methodLink RL 161 yX11_send ∈ zTb := zTb6 188 rfl rfl
theorem vL11_send : zMv yX11_send cX11_send 3 (some .int) 2 11 := ⟨⟨zTb6 191 rfl rfl, zTb1 1 rfl rfl, by decide, by decide, by decide +kernel⟩, zTb6 189 rfl rfl, zTb6 190 rfl rfl, by decide +kernel⟩
theorem lL_164 : Cond.methodLink RL 164 yX12_send ∈ zTb := zTb10 86 rfl rfl
theorem vL12_send : zMv yX12_send cX12_send 5 (some .int) 2 12 := ⟨⟨zTb10 89 rfl rfl, zTb1 13 rfl rfl, by decide, by decide, by decide +kernel⟩, zTb10 87 rfl rfl, zTb10 88 rfl rfl, by decide +kernel⟩
theorem lL_165 : Cond.methodLink RL 165 yX11_frame ∈ zTb := zTb6 217 rfl rfl
theorem vL11_frame : zMv yX11_frame cX11_frame 2 (some .int) 1 11 := ⟨⟨zTb6 220 rfl rfl, zTb1 1 rfl rfl, by decide, by decide, by decide +kernel⟩, zTb6 218 rfl rfl, zTb6 219 rfl rfl, by decide +kernel⟩
theorem lL_168 : Cond.methodLink RL 168 yX12_frame ∈ zTb := zTb10 102 rfl rfl
theorem vL12_frame : zMv yX12_frame cX12_frame 2 (some .int) 1 12 := ⟨⟨zTb10 105 rfl rfl, zTb1 13 rfl rfl, by decide, by decide, by decide +kernel⟩, zTb10 103 rfl rfl, zTb10 104 rfl rfl, by decide +kernel⟩
theorem lL_169 : Cond.methodLink RL 169 yX11_chance ∈ zTb := zTb6 221 rfl rfl
theorem vL11_chance : zMv yX11_chance cX11_chance 4 (some .int) 1 11 := ⟨⟨zTb6 224 rfl rfl, zTb1 1 rfl rfl, by decide, by decide, by decide +kernel⟩, zTb6 222 rfl rfl, zTb6 223 rfl rfl, by decide +kernel⟩
theorem lL_172 : Cond.methodLink RL 172 yX12_chance ∈ zTb := zTb10 106 rfl rfl
theorem vL12_chance : zMv yX12_chance cX12_chance 6 (some .int) 1 12 := ⟨⟨zTb10 109 rfl rfl, zTb1 13 rfl rfl, by decide, by decide, by decide +kernel⟩, zTb10 107 rfl rfl, zTb10 108 rfl rfl, by decide +kernel⟩
theorem lL_173 : Cond.methodLink RL 173 yX11_undo ∈ zTb := zTb6 232 rfl rfl
theorem vL11_undo : zMv yX11_undo cX11_undo 2 (some .boolean) 0 11 := ⟨⟨zTb6 235 rfl rfl, zTb1 1 rfl rfl, by decide, by decide, by decide +kernel⟩, zTb6 233 rfl rfl, zTb6 234 rfl rfl, by decide +kernel⟩
theorem lL_176 : Cond.methodLink RL 176 yX12_undo ∈ zTb := zTb10 117 rfl rfl
theorem vL12_undo : zMv yX12_undo cX12_undo 2 (some .boolean) 0 12 := ⟨⟨zTb10 120 rfl rfl, zTb1 13 rfl rfl, by decide, by decide, by decide +kernel⟩, zTb10 118 rfl rfl, zTb10 119 rfl rfl, by decide +kernel⟩
theorem lL_177 : Cond.methodLink RL 177 yX11_seed ∈ zTb := zTb6 236 rfl rfl
theorem vL11_seed : zMv yX11_seed cX11_seed 2 (some .boolean) 1 11 := ⟨⟨zTb6 239 rfl rfl, zTb1 1 rfl rfl, by decide, by decide, by decide +kernel⟩, zTb6 237 rfl rfl, zTb6 238 rfl rfl, by decide +kernel⟩
theorem lL_180 : Cond.methodLink RL 180 yX12_seed ∈ zTb := zTb10 121 rfl rfl
theorem vL12_seed : zMv yX12_seed cX12_seed 2 (some .boolean) 1 12 := ⟨⟨zTb10 124 rfl rfl, zTb1 13 rfl rfl, by decide, by decide, by decide +kernel⟩, zTb10 122 rfl rfl, zTb10 123 rfl rfl, by decide +kernel⟩
theorem lL_181 : Cond.methodLink RL 181 yX11_image ∈ zTb := zTb7 0 rfl rfl
theorem vL11_image : zMv yX11_image cX11_image 3 (some .int) 0 11 := ⟨⟨zTb7 3 rfl rfl, zTb1 1 rfl rfl, by decide, by decide, by decide +kernel⟩, zTb7 1 rfl rfl, zTb7 2 rfl rfl, by decide +kernel⟩
theorem lL_184 : Cond.methodLink RL 184 yX12_image ∈ zTb := zTb10 125 rfl rfl
theorem vL12_image : zMv yX12_image cX12_image 3 (some .int) 0 12 := ⟨⟨zTb10 128 rfl rfl, zTb1 13 rfl rfl, by decide, by decide, by decide +kernel⟩, zTb10 126 rfl rfl, zTb10 127 rfl rfl, by decide +kernel⟩
theorem lL_185 : Cond.methodLink RL 185 yX11_octet ∈ zTb := zTb7 11 rfl rfl
theorem vL11_octet : zMv yX11_octet cX11_octet 2 (some .int) 1 11 := ⟨⟨zTb7 14 rfl rfl, zTb1 1 rfl rfl, by decide, by decide, by decide +kernel⟩, zTb7 12 rfl rfl, zTb7 13 rfl rfl, by decide +kernel⟩
theorem lL_188 : Cond.methodLink RL 188 yX12_octet ∈ zTb := zTb10 133 rfl rfl
theorem vL12_octet : zMv yX12_octet cX12_octet 2 (some .int) 1 12 := ⟨⟨zTb10 136 rfl rfl, zTb1 13 rfl rfl, by decide, by decide, by decide +kernel⟩, zTb10 134 rfl rfl, zTb10 135 rfl rfl, by decide +kernel⟩
theorem lL_189 : Cond.methodLink RL 189 yX11_on ∈ zTb := zTb7 15 rfl rfl
theorem vL11_on : zMv yX11_on cX11_on 4 (some .boolean) 0 11 := ⟨⟨zTb7 18 rfl rfl, zTb1 1 rfl rfl, by decide, by decide, by decide +kernel⟩, zTb7 16 rfl rfl, zTb7 17 rfl rfl, by decide +kernel⟩
theorem lL_192 : Cond.methodLink RL 192 yX12_on ∈ zTb := zTb10 137 rfl rfl
theorem vL12_on : zMv yX12_on cX12_on 3 (some .boolean) 0 12 := ⟨⟨zTb10 140 rfl rfl, zTb1 13 rfl rfl, by decide, by decide, by decide +kernel⟩, zTb10 138 rfl rfl, zTb10 139 rfl rfl, by decide +kernel⟩
theorem lL_193 : Cond.methodLink RL 193 yX11_status ∈ zTb := zTb7 24 rfl rfl
theorem vL11_status : zMv yX11_status cX11_status 2 (some .int) 1 11 := ⟨⟨zTb7 27 rfl rfl, zTb1 1 rfl rfl, by decide, by decide, by decide +kernel⟩, zTb7 25 rfl rfl, zTb7 26 rfl rfl, by decide +kernel⟩
theorem lL_196 : Cond.methodLink RL 196 yX12_status ∈ zTb := zTb10 145 rfl rfl
theorem vL12_status : zMv yX12_status cX12_status 2 (some .int) 1 12 := ⟨⟨zTb10 148 rfl rfl, zTb1 13 rfl rfl, by decide, by decide, by decide +kernel⟩, zTb10 146 rfl rfl, zTb10 147 rfl rfl, by decide +kernel⟩
