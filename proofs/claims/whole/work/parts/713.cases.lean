/-! THE LAW: its 44 cases (by wip/whole/gen4/mk713.py) -/
section zLy
variable {X : zCx} {b L x i cs ss top : Nat} {xs : Nat → Int32} {Shx Shm : zSh} {μ ν : zM}
theorem k_feed (C : LC X b L xs x) (hi : i + 6 ≤ L) (I : LJ X x Shx Shm top μ ν cs ss) (kk : ∀ (B : Bool) (μ' ν' : zM), JR x (x + 573) (topN B top) μ' ν' → lZ X (lP (zDo X) x (shN B Shx top) Shm (topN B top) μ' ν') (cs + 261) (ss + 1976) 1406 (lvL b x i) []) : lZ X (lP (zDo X) x Shx Shm top μ ν) cs ss 224 (lvL b x i) [] := by
  obtain ⟨j, hk, hO, hm, hc, hs⟩ := I
  obtain ⟨r, μ', ν', e1, e2, jr⟩ := q_feed j (xs (i + 1)) (xs (i + 2)) (xs (i + 3)) (xs (i + 4)) (xs (i + 5))
  refine l_aload_n C.1 (k := 1) (i := 1) rfl rfl ⟨dL_224, rfl⟩ ?_
  refine l_a C hi (j := 1) (n := 1) (pc := 225) (by decide) (by omega) dL_225 dL_226 dL_227 dL_228 dL_229 ?_
  refine l_a C hi (j := 2) (n := 2) (pc := 230) (by decide) (by omega) dL_230 dL_231 dL_232 dL_233 dL_234 ?_
  refine l_a C hi (j := 3) (n := 3) (pc := 235) (by decide) (by omega) dL_235 dL_236 dL_237 dL_238 dL_239 ?_
  refine l_a C hi (j := 4) (n := 4) (pc := 240) (by decide) (by omega) dL_240 dL_241 dL_242 dL_243 dL_244 ?_
  refine l_a C hi (j := 5) (n := 5) (pc := 245) (by decide) (by omega) dL_245 dL_246 dL_247 dL_248 dL_249 ?_
  refine l_cx C (pc := 250) (As := [.int (xs (i + 1)), .int (xs (i + 2)), .int (xs (i + 3)), .int (xs (i + 4)), .int (xs (i + 5))]) (c11_feed (zLo X) (zDa (zDo X) (Ax x)) Shx top hk.1 x (xs (i + 1)) (xs (i + 2)) (xs (i + 3)) (xs (i + 4)) (xs (i + 5)) μ r μ' hk.2.2.2.2 e1) hk vL11_feed lL_13 rfl ⟨rfl, rfl, rfl, rfl⟩ ⟨by omega, by omega⟩ rfl dL_250 ?_
  refine l_aload_n C.1 (k := 2) (i := 2) (pc := 253) rfl rfl ⟨dL_253, rfl⟩ ?_
  refine l_a C hi (j := 1) (n := 1) (pc := 254) (by decide) (by omega) dL_254 dL_255 dL_256 dL_257 dL_258 ?_
  refine l_a C hi (j := 2) (n := 2) (pc := 259) (by decide) (by omega) dL_259 dL_260 dL_261 dL_262 dL_263 ?_
  refine l_a C hi (j := 3) (n := 3) (pc := 264) (by decide) (by omega) dL_264 dL_265 dL_266 dL_267 dL_268 ?_
  refine l_a C hi (j := 4) (n := 4) (pc := 269) (by decide) (by omega) dL_269 dL_270 dL_271 dL_272 dL_273 ?_
  refine l_a C hi (j := 5) (n := 5) (pc := 274) (by decide) (by omega) dL_274 dL_275 dL_276 dL_277 dL_278 ?_
  refine l_cm C (pc := 279) (As := [.int (xs (i + 1)), .int (xs (i + 2)), .int (xs (i + 3)), .int (xs (i + 4)), .int (xs (i + 5))]) (c12_feed (zLo X) (zDa (zDo X) (Am x)) Shm top hO (x + 573) (xs (i + 1)) (xs (i + 2)) (xs (i + 3)) (xs (i + 4)) (xs (i + 5)) ν r ν' hm e2) hm vL12_feed lL_17 rfl ⟨rfl, rfl, rfl, rfl⟩ ⟨by omega, by omega⟩ rfl dL_279 ?_
  exact l_eq C (pc := 282) ⟨by omega, by omega⟩ ⟨dL_282, rfl, rfl⟩ (kk false μ' ν' jr)
theorem k_end (C : LC X b L xs x) (hi : i + 6 ≤ L) (I : LJ X x Shx Shm top μ ν cs ss) (kk : ∀ (B : Bool) (μ' ν' : zM), JR x (x + 573) (topN B top) μ' ν' → lZ X (lP (zDo X) x (shN B Shx top) Shm (topN B top) μ' ν') (cs + 261) (ss + 1976) 1406 (lvL b x i) []) : lZ X (lP (zDo X) x Shx Shm top μ ν) cs ss 287 (lvL b x i) [] := by
  obtain ⟨j, hk, hO, hm, hc, hs⟩ := I
  obtain ⟨r, μ', ν', e1, e2, jr⟩ := q_end j (xs (i + 1))
  refine l_aload_n C.1 (k := 1) (i := 1) rfl rfl ⟨dL_287, rfl⟩ ?_
  refine l_a C hi (j := 1) (n := 1) (pc := 288) (by decide) (by omega) dL_288 dL_289 dL_290 dL_291 dL_292 ?_
  refine l_cx C (pc := 293) (As := [.int (xs (i + 1))]) (c11_end (zLo X) (zDa (zDo X) (Ax x)) Shx top hk.1 x (xs (i + 1)) μ r μ' hk.2.2.2.2 e1) hk vL11_end lL_18 rfl ⟨rfl, rfl, rfl, rfl⟩ ⟨by omega, by omega⟩ rfl dL_293 ?_
  refine l_aload_n C.1 (k := 2) (i := 2) (pc := 296) rfl rfl ⟨dL_296, rfl⟩ ?_
  refine l_a C hi (j := 1) (n := 1) (pc := 297) (by decide) (by omega) dL_297 dL_298 dL_299 dL_300 dL_301 ?_
  refine l_cm C (pc := 302) (As := [.int (xs (i + 1))]) (c12_end (zLo X) (zDa (zDo X) (Am x)) Shm top hO (x + 573) (xs (i + 1)) ν r ν' hm e2) hm vL12_end lL_22 rfl ⟨rfl, rfl, rfl, rfl⟩ ⟨by omega, by omega⟩ rfl dL_302 ?_
  exact l_eq C (pc := 305) ⟨by omega, by omega⟩ ⟨dL_305, rfl, rfl⟩ (kk false μ' ν' jr)
theorem k_net (C : LC X b L xs x) (hi : i + 6 ≤ L) (I : LJ X x Shx Shm top μ ν cs ss) (kk : ∀ (B : Bool) (μ' ν' : zM), JR x (x + 573) (topN B top) μ' ν' → lZ X (lP (zDo X) x (shN B Shx top) Shm (topN B top) μ' ν') (cs + 261) (ss + 1976) 1406 (lvL b x i) []) : lZ X (lP (zDo X) x Shx Shm top μ ν) cs ss 310 (lvL b x i) [] := by
  obtain ⟨j, hk, hO, hm, hc, hs⟩ := I
  obtain ⟨r, μ', ν', e1, e2, jr⟩ := q_net j
  refine l_aload_n C.1 (k := 1) (i := 1) rfl rfl ⟨dL_310, rfl⟩ ?_
  refine l_cx C (pc := 311) (As := []) (c11_net (zLo X) (zDa (zDo X) (Ax x)) Shx top hk.1 x  μ r μ' hk.2.2.2.2 e1) hk vL11_net lL_23 rfl ⟨rfl, rfl, rfl, rfl⟩ ⟨by omega, by omega⟩ rfl dL_311 ?_
  refine l_aload_n C.1 (k := 2) (i := 2) (pc := 314) rfl rfl ⟨dL_314, rfl⟩ ?_
  refine l_cm C (pc := 315) (As := []) (c12_net (zLo X) (zDa (zDo X) (Am x)) Shm top hO (x + 573)  ν r ν' hm e2) hm vL12_net lL_27 rfl ⟨rfl, rfl, rfl, rfl⟩ ⟨by omega, by omega⟩ rfl dL_315 ?_
  exact l_eq C (pc := 318) ⟨by omega, by omega⟩ ⟨dL_318, rfl, rfl⟩ (kk false μ' ν' jr)
theorem k_fault (C : LC X b L xs x) (hi : i + 6 ≤ L) (I : LJ X x Shx Shm top μ ν cs ss) (kk : ∀ (B : Bool) (μ' ν' : zM), JR x (x + 573) (topN B top) μ' ν' → lZ X (lP (zDo X) x (shN B Shx top) Shm (topN B top) μ' ν') (cs + 261) (ss + 1976) 1406 (lvL b x i) []) : lZ X (lP (zDo X) x Shx Shm top μ ν) cs ss 323 (lvL b x i) [] := by
  obtain ⟨j, hk, hO, hm, hc, hs⟩ := I
  obtain ⟨r, e1, e2⟩ := q_fault1 j (xs (i + 1))
  refine l_aload_n C.1 (k := 1) (i := 1) rfl rfl ⟨dL_323, rfl⟩ ?_
  refine l_a C hi (j := 1) (n := 1) (pc := 324) (by decide) (by omega) dL_324 dL_325 dL_326 dL_327 dL_328 ?_
  refine l_cx C (pc := 329) (As := [.int (xs (i + 1))]) (c11_fault (zLo X) (zDa (zDo X) (Ax x)) Shx top hk.1 x (xs (i + 1)) μ r hk.2.2.2.2 e1) hk vL11_fault lL_28 rfl ⟨rfl, rfl, rfl, rfl⟩ ⟨by omega, by omega⟩ rfl dL_329 ?_
  refine l_aload_n C.1 (k := 2) (i := 2) (pc := 332) rfl rfl ⟨dL_332, rfl⟩ ?_
  refine l_a C hi (j := 1) (n := 1) (pc := 333) (by decide) (by omega) dL_333 dL_334 dL_335 dL_336 dL_337 ?_
  refine l_cm C (pc := 338) (As := [.int (xs (i + 1))]) (c12_fault (zLo X) (zDa (zDo X) (Am x)) Shm top hO (x + 573) (xs (i + 1)) ν r hm e2) hm vL12_fault lL_32 rfl ⟨rfl, rfl, rfl, rfl⟩ ⟨by omega, by omega⟩ rfl dL_338 ?_
  exact l_eq C (pc := 341) ⟨by omega, by omega⟩ ⟨dL_341, rfl, rfl⟩ (kk false μ ν j)
theorem k_has (C : LC X b L xs x) (hi : i + 6 ≤ L) (I : LJ X x Shx Shm top μ ν cs ss) (kk : ∀ (B : Bool) (μ' ν' : zM), JR x (x + 573) (topN B top) μ' ν' → lZ X (lP (zDo X) x (shN B Shx top) Shm (topN B top) μ' ν') (cs + 261) (ss + 1976) 1406 (lvL b x i) []) : lZ X (lP (zDo X) x Shx Shm top μ ν) cs ss 346 (lvL b x i) [] := by
  obtain ⟨j, hk, hO, hm, hc, hs⟩ := I
  obtain ⟨r, ν', e1, e2, jr⟩ := q_has j (xs (i + 1))
  refine l_aload_n C.1 (k := 1) (i := 1) rfl rfl ⟨dL_346, rfl⟩ ?_
  refine l_a C hi (j := 1) (n := 1) (pc := 347) (by decide) (by omega) dL_347 dL_348 dL_349 dL_350 dL_351 ?_
  refine l_cx C (pc := 352) (As := [.int (xs (i + 1))]) (c11_has (zLo X) (zDa (zDo X) (Ax x)) Shx top hk.1 x (xs (i + 1)) μ r hk.2.2.2.2 e1) hk vL11_has lL_33 rfl ⟨rfl, rfl, rfl, rfl⟩ ⟨by omega, by omega⟩ rfl dL_352 ?_
  refine l_aload_n C.1 (k := 2) (i := 2) (pc := 355) rfl rfl ⟨dL_355, rfl⟩ ?_
  refine l_a C hi (j := 1) (n := 1) (pc := 356) (by decide) (by omega) dL_356 dL_357 dL_358 dL_359 dL_360 ?_
  refine l_cm C (pc := 361) (As := [.int (xs (i + 1))]) (c12_has (zLo X) (zDa (zDo X) (Am x)) Shm top hO (x + 573) (xs (i + 1)) ν r ν' hm e2) hm vL12_has lL_36 rfl ⟨rfl, rfl, rfl, rfl⟩ ⟨by omega, by omega⟩ rfl dL_361 ?_
  exact l_eq C (pc := 364) ⟨by omega, by omega⟩ ⟨dL_364, rfl, rfl⟩ (kk false μ ν' jr)
theorem k_letter (C : LC X b L xs x) (hi : i + 6 ≤ L) (I : LJ X x Shx Shm top μ ν cs ss) (kk : ∀ (B : Bool) (μ' ν' : zM), JR x (x + 573) (topN B top) μ' ν' → lZ X (lP (zDo X) x (shN B Shx top) Shm (topN B top) μ' ν') (cs + 261) (ss + 1976) 1406 (lvL b x i) []) : lZ X (lP (zDo X) x Shx Shm top μ ν) cs ss 369 (lvL b x i) [] := by
  obtain ⟨j, hk, hO, hm, hc, hs⟩ := I
  obtain ⟨r, e1, e2⟩ := q_letter j (xs (i + 1)) (xs (i + 2)) (xs (i + 3))
  refine l_aload_n C.1 (k := 1) (i := 1) rfl rfl ⟨dL_369, rfl⟩ ?_
  refine l_a C hi (j := 1) (n := 1) (pc := 370) (by decide) (by omega) dL_370 dL_371 dL_372 dL_373 dL_374 ?_
  refine l_a C hi (j := 2) (n := 2) (pc := 375) (by decide) (by omega) dL_375 dL_376 dL_377 dL_378 dL_379 ?_
  refine l_a C hi (j := 3) (n := 3) (pc := 380) (by decide) (by omega) dL_380 dL_381 dL_382 dL_383 dL_384 ?_
  refine l_cx C (pc := 385) (As := [.int (xs (i + 1)), .int (xs (i + 2)), .int (xs (i + 3))]) (c11_letter (zLo X) (zDa (zDo X) (Ax x)) Shx top hk.1 x (xs (i + 1)) (xs (i + 2)) (xs (i + 3)) μ r hk.2.2.2.2 e1) hk vL11_letter lL_37 rfl ⟨rfl, rfl, rfl, rfl⟩ ⟨by omega, by omega⟩ rfl dL_385 ?_
  refine l_aload_n C.1 (k := 2) (i := 2) (pc := 388) rfl rfl ⟨dL_388, rfl⟩ ?_
  refine l_a C hi (j := 1) (n := 1) (pc := 389) (by decide) (by omega) dL_389 dL_390 dL_391 dL_392 dL_393 ?_
  refine l_a C hi (j := 2) (n := 2) (pc := 394) (by decide) (by omega) dL_394 dL_395 dL_396 dL_397 dL_398 ?_
  refine l_a C hi (j := 3) (n := 3) (pc := 399) (by decide) (by omega) dL_399 dL_400 dL_401 dL_402 dL_403 ?_
  refine l_cm C (pc := 404) (As := [.int (xs (i + 1)), .int (xs (i + 2)), .int (xs (i + 3))]) (c12_letter (zLo X) (zDa (zDo X) (Am x)) Shm top hO (x + 573) (xs (i + 1)) (xs (i + 2)) (xs (i + 3)) ν r hm e2) hm vL12_letter lL_41 rfl ⟨rfl, rfl, rfl, rfl⟩ ⟨by omega, by omega⟩ rfl dL_404 ?_
  exact l_eq C (pc := 407) ⟨by omega, by omega⟩ ⟨dL_407, rfl, rfl⟩ (kk false μ ν j)
theorem k_link (C : LC X b L xs x) (hi : i + 6 ≤ L) (I : LJ X x Shx Shm top μ ν cs ss) (kk : ∀ (B : Bool) (μ' ν' : zM), JR x (x + 573) (topN B top) μ' ν' → lZ X (lP (zDo X) x (shN B Shx top) Shm (topN B top) μ' ν') (cs + 261) (ss + 1976) 1406 (lvL b x i) []) : lZ X (lP (zDo X) x Shx Shm top μ ν) cs ss 412 (lvL b x i) [] := by
  obtain ⟨j, hk, hO, hm, hc, hs⟩ := I
  obtain ⟨r, ν', e1, e2, jr⟩ := q_link j (xs (i + 1)) (xs (i + 2))
  refine l_aload_n C.1 (k := 1) (i := 1) rfl rfl ⟨dL_412, rfl⟩ ?_
  refine l_a C hi (j := 1) (n := 1) (pc := 413) (by decide) (by omega) dL_413 dL_414 dL_415 dL_416 dL_417 ?_
  refine l_a C hi (j := 2) (n := 2) (pc := 418) (by decide) (by omega) dL_418 dL_419 dL_420 dL_421 dL_422 ?_
  refine l_cx C (pc := 423) (As := [.int (xs (i + 1)), .int (xs (i + 2))]) (c11_link (zLo X) (zDa (zDo X) (Ax x)) Shx top hk.1 x (xs (i + 1)) (xs (i + 2)) μ r hk.2.2.2.2 e1) hk vL11_link lL_42 rfl ⟨rfl, rfl, rfl, rfl⟩ ⟨by omega, by omega⟩ rfl dL_423 ?_
  refine l_aload_n C.1 (k := 2) (i := 2) (pc := 426) rfl rfl ⟨dL_426, rfl⟩ ?_
  refine l_a C hi (j := 1) (n := 1) (pc := 427) (by decide) (by omega) dL_427 dL_428 dL_429 dL_430 dL_431 ?_
  refine l_a C hi (j := 2) (n := 2) (pc := 432) (by decide) (by omega) dL_432 dL_433 dL_434 dL_435 dL_436 ?_
  refine l_cm C (pc := 437) (As := [.int (xs (i + 1)), .int (xs (i + 2))]) (c12_link (zLo X) (zDa (zDo X) (Am x)) Shm top hO (x + 573) (xs (i + 1)) (xs (i + 2)) ν r ν' hm e2) hm vL12_link lL_46 rfl ⟨rfl, rfl, rfl, rfl⟩ ⟨by omega, by omega⟩ rfl dL_437 ?_
  exact l_eq C (pc := 440) ⟨by omega, by omega⟩ ⟨dL_440, rfl, rfl⟩ (kk false μ ν' jr)
theorem k_bridge (C : LC X b L xs x) (hi : i + 6 ≤ L) (I : LJ X x Shx Shm top μ ν cs ss) (kk : ∀ (B : Bool) (μ' ν' : zM), JR x (x + 573) (topN B top) μ' ν' → lZ X (lP (zDo X) x (shN B Shx top) Shm (topN B top) μ' ν') (cs + 261) (ss + 1976) 1406 (lvL b x i) []) : lZ X (lP (zDo X) x Shx Shm top μ ν) cs ss 445 (lvL b x i) [] := by
  obtain ⟨j, hk, hO, hm, hc, hs⟩ := I
  obtain ⟨r, ν', e1, e2, jr⟩ := q_bridge j (xs (i + 1)) (xs (i + 2))
  refine l_aload_n C.1 (k := 1) (i := 1) rfl rfl ⟨dL_445, rfl⟩ ?_
  refine l_a C hi (j := 1) (n := 1) (pc := 446) (by decide) (by omega) dL_446 dL_447 dL_448 dL_449 dL_450 ?_
  refine l_a C hi (j := 2) (n := 2) (pc := 451) (by decide) (by omega) dL_451 dL_452 dL_453 dL_454 dL_455 ?_
  refine l_cx C (pc := 456) (As := [.int (xs (i + 1)), .int (xs (i + 2))]) (c11_bridge (zLo X) (zDa (zDo X) (Ax x)) Shx top hk.1 x (xs (i + 1)) (xs (i + 2)) μ r hk.2.2.2.2 e1) hk vL11_bridge lL_47 rfl ⟨rfl, rfl, rfl, rfl⟩ ⟨by omega, by omega⟩ rfl dL_456 ?_
  refine l_aload_n C.1 (k := 2) (i := 2) (pc := 459) rfl rfl ⟨dL_459, rfl⟩ ?_
  refine l_a C hi (j := 1) (n := 1) (pc := 460) (by decide) (by omega) dL_460 dL_461 dL_462 dL_463 dL_464 ?_
  refine l_a C hi (j := 2) (n := 2) (pc := 465) (by decide) (by omega) dL_465 dL_466 dL_467 dL_468 dL_469 ?_
  refine l_cm C (pc := 470) (As := [.int (xs (i + 1)), .int (xs (i + 2))]) (c12_bridge (zLo X) (zDa (zDo X) (Am x)) Shm top hO (x + 573) (xs (i + 1)) (xs (i + 2)) ν r ν' hm e2) hm vL12_bridge lL_50 rfl ⟨rfl, rfl, rfl, rfl⟩ ⟨by omega, by omega⟩ rfl dL_470 ?_
  exact l_eq C (pc := 473) ⟨by omega, by omega⟩ ⟨dL_473, rfl, rfl⟩ (kk false μ ν' jr)
theorem k_port (C : LC X b L xs x) (hi : i + 6 ≤ L) (I : LJ X x Shx Shm top μ ν cs ss) (kk : ∀ (B : Bool) (μ' ν' : zM), JR x (x + 573) (topN B top) μ' ν' → lZ X (lP (zDo X) x (shN B Shx top) Shm (topN B top) μ' ν') (cs + 261) (ss + 1976) 1406 (lvL b x i) []) : lZ X (lP (zDo X) x Shx Shm top μ ν) cs ss 478 (lvL b x i) [] := by
  obtain ⟨j, hk, hO, hm, hc, hs⟩ := I
  obtain ⟨r, ν', e1, e2, jr⟩ := q_port j (xs (i + 1)) (xs (i + 2)) (xs (i + 3))
  refine l_aload_n C.1 (k := 1) (i := 1) rfl rfl ⟨dL_478, rfl⟩ ?_
  refine l_a C hi (j := 1) (n := 1) (pc := 479) (by decide) (by omega) dL_479 dL_480 dL_481 dL_482 dL_483 ?_
  refine l_a C hi (j := 2) (n := 2) (pc := 484) (by decide) (by omega) dL_484 dL_485 dL_486 dL_487 dL_488 ?_
  refine l_a C hi (j := 3) (n := 3) (pc := 489) (by decide) (by omega) dL_489 dL_490 dL_491 dL_492 dL_493 ?_
  refine l_cx C (pc := 494) (As := [.int (xs (i + 1)), .int (xs (i + 2)), .int (xs (i + 3))]) (c11_port (zLo X) (zDa (zDo X) (Ax x)) Shx top hk.1 x (xs (i + 1)) (xs (i + 2)) (xs (i + 3)) μ r hk.2.2.2.2 e1) hk vL11_port lL_51 rfl ⟨rfl, rfl, rfl, rfl⟩ ⟨by omega, by omega⟩ rfl dL_494 ?_
  refine l_aload_n C.1 (k := 2) (i := 2) (pc := 497) rfl rfl ⟨dL_497, rfl⟩ ?_
  refine l_a C hi (j := 1) (n := 1) (pc := 498) (by decide) (by omega) dL_498 dL_499 dL_500 dL_501 dL_502 ?_
  refine l_a C hi (j := 2) (n := 2) (pc := 503) (by decide) (by omega) dL_503 dL_504 dL_505 dL_506 dL_507 ?_
  refine l_a C hi (j := 3) (n := 3) (pc := 508) (by decide) (by omega) dL_508 dL_509 dL_510 dL_511 dL_512 ?_
  refine l_cm C (pc := 513) (As := [.int (xs (i + 1)), .int (xs (i + 2)), .int (xs (i + 3))]) (c12_port (zLo X) (zDa (zDo X) (Am x)) Shm top hO (x + 573) (xs (i + 1)) (xs (i + 2)) (xs (i + 3)) ν r ν' hm e2) hm vL12_port lL_54 rfl ⟨rfl, rfl, rfl, rfl⟩ ⟨by omega, by omega⟩ rfl dL_513 ?_
  exact l_eq C (pc := 516) ⟨by omega, by omega⟩ ⟨dL_516, rfl, rfl⟩ (kk false μ ν' jr)
theorem k_held (C : LC X b L xs x) (hi : i + 6 ≤ L) (I : LJ X x Shx Shm top μ ν cs ss) (kk : ∀ (B : Bool) (μ' ν' : zM), JR x (x + 573) (topN B top) μ' ν' → lZ X (lP (zDo X) x (shN B Shx top) Shm (topN B top) μ' ν') (cs + 261) (ss + 1976) 1406 (lvL b x i) []) : lZ X (lP (zDo X) x Shx Shm top μ ν) cs ss 521 (lvL b x i) [] := by
  obtain ⟨j, hk, hO, hm, hc, hs⟩ := I
  obtain ⟨r, ν', e1, e2, jr⟩ := q_held j (xs (i + 1)) (xs (i + 2)) (xs (i + 3))
  refine l_aload_n C.1 (k := 1) (i := 1) rfl rfl ⟨dL_521, rfl⟩ ?_
  refine l_a C hi (j := 1) (n := 1) (pc := 522) (by decide) (by omega) dL_522 dL_523 dL_524 dL_525 dL_526 ?_
  refine l_a C hi (j := 2) (n := 2) (pc := 527) (by decide) (by omega) dL_527 dL_528 dL_529 dL_530 dL_531 ?_
  refine l_a C hi (j := 3) (n := 3) (pc := 532) (by decide) (by omega) dL_532 dL_533 dL_534 dL_535 dL_536 ?_
  refine l_cx C (pc := 537) (As := [.int (xs (i + 1)), .int (xs (i + 2)), .int (xs (i + 3))]) (c11_held (zLo X) (zDa (zDo X) (Ax x)) Shx top hk.1 x (xs (i + 1)) (xs (i + 2)) (xs (i + 3)) μ r hk.2.2.2.2 e1) hk vL11_held lL_55 rfl ⟨rfl, rfl, rfl, rfl⟩ ⟨by omega, by omega⟩ rfl dL_537 ?_
  refine l_aload_n C.1 (k := 2) (i := 2) (pc := 540) rfl rfl ⟨dL_540, rfl⟩ ?_
  refine l_a C hi (j := 1) (n := 1) (pc := 541) (by decide) (by omega) dL_541 dL_542 dL_543 dL_544 dL_545 ?_
  refine l_a C hi (j := 2) (n := 2) (pc := 546) (by decide) (by omega) dL_546 dL_547 dL_548 dL_549 dL_550 ?_
  refine l_a C hi (j := 3) (n := 3) (pc := 551) (by decide) (by omega) dL_551 dL_552 dL_553 dL_554 dL_555 ?_
  refine l_cm C (pc := 556) (As := [.int (xs (i + 1)), .int (xs (i + 2)), .int (xs (i + 3))]) (c12_held (zLo X) (zDa (zDo X) (Am x)) Shm top hO (x + 573) (xs (i + 1)) (xs (i + 2)) (xs (i + 3)) ν r ν' hm e2) hm vL12_held lL_58 rfl ⟨rfl, rfl, rfl, rfl⟩ ⟨by omega, by omega⟩ rfl dL_556 ?_
  exact l_eq C (pc := 559) ⟨by omega, by omega⟩ ⟨dL_559, rfl, rfl⟩ (kk false μ ν' jr)
theorem k_address (C : LC X b L xs x) (hi : i + 6 ≤ L) (I : LJ X x Shx Shm top μ ν cs ss) (kk : ∀ (B : Bool) (μ' ν' : zM), JR x (x + 573) (topN B top) μ' ν' → lZ X (lP (zDo X) x (shN B Shx top) Shm (topN B top) μ' ν') (cs + 261) (ss + 1976) 1406 (lvL b x i) []) : lZ X (lP (zDo X) x Shx Shm top μ ν) cs ss 564 (lvL b x i) [] := by
  obtain ⟨j, hk, hO, hm, hc, hs⟩ := I
  obtain ⟨r, ν', e1, e2, jr⟩ := q_address j (xs (i + 1)) (xs (i + 2)) (xs (i + 3))
  refine l_aload_n C.1 (k := 1) (i := 1) rfl rfl ⟨dL_564, rfl⟩ ?_
  refine l_a C hi (j := 1) (n := 1) (pc := 565) (by decide) (by omega) dL_565 dL_566 dL_567 dL_568 dL_569 ?_
  refine l_a C hi (j := 2) (n := 2) (pc := 570) (by decide) (by omega) dL_570 dL_571 dL_572 dL_573 dL_574 ?_
  refine l_a C hi (j := 3) (n := 3) (pc := 575) (by decide) (by omega) dL_575 dL_576 dL_577 dL_578 dL_579 ?_
  refine l_cx C (pc := 580) (As := [.int (xs (i + 1)), .int (xs (i + 2)), .int (xs (i + 3))]) (c11_address (zLo X) (zDa (zDo X) (Ax x)) Shx top hk.1 x (xs (i + 1)) (xs (i + 2)) (xs (i + 3)) μ r hk.2.2.2.2 e1) hk vL11_address lL_59 rfl ⟨rfl, rfl, rfl, rfl⟩ ⟨by omega, by omega⟩ rfl dL_580 ?_
  refine l_aload_n C.1 (k := 2) (i := 2) (pc := 583) rfl rfl ⟨dL_583, rfl⟩ ?_
  refine l_a C hi (j := 1) (n := 1) (pc := 584) (by decide) (by omega) dL_584 dL_585 dL_586 dL_587 dL_588 ?_
  refine l_a C hi (j := 2) (n := 2) (pc := 589) (by decide) (by omega) dL_589 dL_590 dL_591 dL_592 dL_593 ?_
  refine l_a C hi (j := 3) (n := 3) (pc := 594) (by decide) (by omega) dL_594 dL_595 dL_596 dL_597 dL_598 ?_
  refine l_cm C (pc := 599) (As := [.int (xs (i + 1)), .int (xs (i + 2)), .int (xs (i + 3))]) (c12_address (zLo X) (zDa (zDo X) (Am x)) Shm top hO (x + 573) (xs (i + 1)) (xs (i + 2)) (xs (i + 3)) ν r ν' hm e2) hm vL12_address lL_62 rfl ⟨rfl, rfl, rfl, rfl⟩ ⟨by omega, by omega⟩ rfl dL_599 ?_
  exact l_eq C (pc := 602) ⟨by omega, by omega⟩ ⟨dL_602, rfl, rfl⟩ (kk false μ ν' jr)
theorem k_message (C : LC X b L xs x) (hi : i + 6 ≤ L) (I : LJ X x Shx Shm top μ ν cs ss) (kk : ∀ (B : Bool) (μ' ν' : zM), JR x (x + 573) (topN B top) μ' ν' → lZ X (lP (zDo X) x (shN B Shx top) Shm (topN B top) μ' ν') (cs + 261) (ss + 1976) 1406 (lvL b x i) []) : lZ X (lP (zDo X) x Shx Shm top μ ν) cs ss 607 (lvL b x i) [] := by
  obtain ⟨j, hk, hO, hm, hc, hs⟩ := I
  obtain ⟨r, ν', e1, e2, jr⟩ := q_message j (xs (i + 1)) (xs (i + 2))
  refine l_aload_n C.1 (k := 1) (i := 1) rfl rfl ⟨dL_607, rfl⟩ ?_
  refine l_a C hi (j := 1) (n := 1) (pc := 608) (by decide) (by omega) dL_608 dL_609 dL_610 dL_611 dL_612 ?_
  refine l_a C hi (j := 2) (n := 2) (pc := 613) (by decide) (by omega) dL_613 dL_614 dL_615 dL_616 dL_617 ?_
  refine l_cx C (pc := 618) (As := [.int (xs (i + 1)), .int (xs (i + 2))]) (c11_message (zLo X) (zDa (zDo X) (Ax x)) Shx top hk.1 x (xs (i + 1)) (xs (i + 2)) μ r hk.2.2.2.2 e1) hk vL11_message lL_63 rfl ⟨rfl, rfl, rfl, rfl⟩ ⟨by omega, by omega⟩ rfl dL_618 ?_
  refine l_aload_n C.1 (k := 2) (i := 2) (pc := 621) rfl rfl ⟨dL_621, rfl⟩ ?_
  refine l_a C hi (j := 1) (n := 1) (pc := 622) (by decide) (by omega) dL_622 dL_623 dL_624 dL_625 dL_626 ?_
  refine l_a C hi (j := 2) (n := 2) (pc := 627) (by decide) (by omega) dL_627 dL_628 dL_629 dL_630 dL_631 ?_
  refine l_cm C (pc := 632) (As := [.int (xs (i + 1)), .int (xs (i + 2))]) (c12_message (zLo X) (zDa (zDo X) (Am x)) Shm top hO (x + 573) (xs (i + 1)) (xs (i + 2)) ν r ν' hm e2) hm vL12_message lL_66 rfl ⟨rfl, rfl, rfl, rfl⟩ ⟨by omega, by omega⟩ rfl dL_632 ?_
  exact l_eq C (pc := 635) ⟨by omega, by omega⟩ ⟨dL_635, rfl, rfl⟩ (kk false μ ν' jr)
theorem k_kept (C : LC X b L xs x) (hi : i + 6 ≤ L) (I : LJ X x Shx Shm top μ ν cs ss) (kk : ∀ (B : Bool) (μ' ν' : zM), JR x (x + 573) (topN B top) μ' ν' → lZ X (lP (zDo X) x (shN B Shx top) Shm (topN B top) μ' ν') (cs + 261) (ss + 1976) 1406 (lvL b x i) []) : lZ X (lP (zDo X) x Shx Shm top μ ν) cs ss 640 (lvL b x i) [] := by
  obtain ⟨j, hk, hO, hm, hc, hs⟩ := I
  obtain ⟨r, ν', e1, e2, jr⟩ := q_kept j (xs (i + 1)) (xs (i + 2))
  refine l_aload_n C.1 (k := 1) (i := 1) rfl rfl ⟨dL_640, rfl⟩ ?_
  refine l_a C hi (j := 1) (n := 1) (pc := 641) (by decide) (by omega) dL_641 dL_642 dL_643 dL_644 dL_645 ?_
  refine l_a C hi (j := 2) (n := 2) (pc := 646) (by decide) (by omega) dL_646 dL_647 dL_648 dL_649 dL_650 ?_
  refine l_cx C (pc := 651) (As := [.int (xs (i + 1)), .int (xs (i + 2))]) (c11_kept (zLo X) (zDa (zDo X) (Ax x)) Shx top hk.1 x (xs (i + 1)) (xs (i + 2)) μ r hk.2.2.2.2 e1) hk vL11_kept lL_67 rfl ⟨rfl, rfl, rfl, rfl⟩ ⟨by omega, by omega⟩ rfl dL_651 ?_
  refine l_aload_n C.1 (k := 2) (i := 2) (pc := 654) rfl rfl ⟨dL_654, rfl⟩ ?_
  refine l_a C hi (j := 1) (n := 1) (pc := 655) (by decide) (by omega) dL_655 dL_656 dL_657 dL_658 dL_659 ?_
  refine l_a C hi (j := 2) (n := 2) (pc := 660) (by decide) (by omega) dL_660 dL_661 dL_662 dL_663 dL_664 ?_
  refine l_cm C (pc := 665) (As := [.int (xs (i + 1)), .int (xs (i + 2))]) (c12_kept (zLo X) (zDa (zDo X) (Am x)) Shm top hO (x + 573) (xs (i + 1)) (xs (i + 2)) ν r ν' hm e2) hm vL12_kept lL_70 rfl ⟨rfl, rfl, rfl, rfl⟩ ⟨by omega, by omega⟩ rfl dL_665 ?_
  exact l_eq C (pc := 668) ⟨by omega, by omega⟩ ⟨dL_668, rfl, rfl⟩ (kk false μ ν' jr)
theorem k_due (C : LC X b L xs x) (hi : i + 6 ≤ L) (I : LJ X x Shx Shm top μ ν cs ss) (kk : ∀ (B : Bool) (μ' ν' : zM), JR x (x + 573) (topN B top) μ' ν' → lZ X (lP (zDo X) x (shN B Shx top) Shm (topN B top) μ' ν') (cs + 261) (ss + 1976) 1406 (lvL b x i) []) : lZ X (lP (zDo X) x Shx Shm top μ ν) cs ss 673 (lvL b x i) [] := by
  obtain ⟨j, hk, hO, hm, hc, hs⟩ := I
  obtain ⟨r, μ', ν', e1, e2, jr⟩ := q_due j (xs (i + 1)) (xs (i + 2))
  refine l_aload_n C.1 (k := 1) (i := 1) rfl rfl ⟨dL_673, rfl⟩ ?_
  refine l_a C hi (j := 1) (n := 1) (pc := 674) (by decide) (by omega) dL_674 dL_675 dL_676 dL_677 dL_678 ?_
  refine l_a C hi (j := 2) (n := 2) (pc := 679) (by decide) (by omega) dL_679 dL_680 dL_681 dL_682 dL_683 ?_
  refine l_cx C (pc := 684) (As := [.int (xs (i + 1)), .int (xs (i + 2))]) (c11_due (zLo X) (zDa (zDo X) (Ax x)) Shx top hk.1 x (xs (i + 1)) (xs (i + 2)) μ r μ' hk.2.2.2.2 e1) hk vL11_due lL_71 rfl ⟨rfl, rfl, rfl, rfl⟩ ⟨by omega, by omega⟩ rfl dL_684 ?_
  refine l_aload_n C.1 (k := 2) (i := 2) (pc := 687) rfl rfl ⟨dL_687, rfl⟩ ?_
  refine l_a C hi (j := 1) (n := 1) (pc := 688) (by decide) (by omega) dL_688 dL_689 dL_690 dL_691 dL_692 ?_
  refine l_a C hi (j := 2) (n := 2) (pc := 693) (by decide) (by omega) dL_693 dL_694 dL_695 dL_696 dL_697 ?_
  refine l_cm C (pc := 698) (As := [.int (xs (i + 1)), .int (xs (i + 2))]) (c12_due (zLo X) (zDa (zDo X) (Am x)) Shm top hO (x + 573) (xs (i + 1)) (xs (i + 2)) ν r ν' hm e2) hm vL12_due lL_74 rfl ⟨rfl, rfl, rfl, rfl⟩ ⟨by omega, by omega⟩ rfl dL_698 ?_
  exact l_eq C (pc := 701) ⟨by omega, by omega⟩ ⟨dL_701, rfl, rfl⟩ (kk false μ' ν' jr)
theorem k_role (C : LC X b L xs x) (hi : i + 6 ≤ L) (I : LJ X x Shx Shm top μ ν cs ss) (kk : ∀ (B : Bool) (μ' ν' : zM), JR x (x + 573) (topN B top) μ' ν' → lZ X (lP (zDo X) x (shN B Shx top) Shm (topN B top) μ' ν') (cs + 261) (ss + 1976) 1406 (lvL b x i) []) : lZ X (lP (zDo X) x Shx Shm top μ ν) cs ss 706 (lvL b x i) [] := by
  obtain ⟨j, hk, hO, hm, hc, hs⟩ := I
  obtain ⟨r, μ', ν', e1, e2, jr⟩ := q_role j (xs (i + 1)) (xs (i + 2))
  refine l_aload_n C.1 (k := 1) (i := 1) rfl rfl ⟨dL_706, rfl⟩ ?_
  refine l_a C hi (j := 1) (n := 1) (pc := 707) (by decide) (by omega) dL_707 dL_708 dL_709 dL_710 dL_711 ?_
  refine l_a C hi (j := 2) (n := 2) (pc := 712) (by decide) (by omega) dL_712 dL_713 dL_714 dL_715 dL_716 ?_
  refine l_cx C (pc := 717) (As := [.int (xs (i + 1)), .int (xs (i + 2))]) (c11_role (zLo X) (zDa (zDo X) (Ax x)) Shx top hk.1 x (xs (i + 1)) (xs (i + 2)) μ r μ' hk.2.2.2.2 e1) hk vL11_role lL_75 rfl ⟨rfl, rfl, rfl, rfl⟩ ⟨by omega, by omega⟩ rfl dL_717 ?_
  refine l_aload_n C.1 (k := 2) (i := 2) (pc := 720) rfl rfl ⟨dL_720, rfl⟩ ?_
  refine l_a C hi (j := 1) (n := 1) (pc := 721) (by decide) (by omega) dL_721 dL_722 dL_723 dL_724 dL_725 ?_
  refine l_a C hi (j := 2) (n := 2) (pc := 726) (by decide) (by omega) dL_726 dL_727 dL_728 dL_729 dL_730 ?_
  refine l_cm C (pc := 731) (As := [.int (xs (i + 1)), .int (xs (i + 2))]) (c12_role (zLo X) (zDa (zDo X) (Am x)) Shm top hO (x + 573) (xs (i + 1)) (xs (i + 2)) ν r ν' hm e2) hm vL12_role lL_78 rfl ⟨rfl, rfl, rfl, rfl⟩ ⟨by omega, by omega⟩ rfl dL_731 ?_
  exact l_eq C (pc := 734) ⟨by omega, by omega⟩ ⟨dL_734, rfl, rfl⟩ (kk false μ' ν' jr)
theorem k_rests (C : LC X b L xs x) (hi : i + 6 ≤ L) (I : LJ X x Shx Shm top μ ν cs ss) (kk : ∀ (B : Bool) (μ' ν' : zM), JR x (x + 573) (topN B top) μ' ν' → lZ X (lP (zDo X) x (shN B Shx top) Shm (topN B top) μ' ν') (cs + 261) (ss + 1976) 1406 (lvL b x i) []) : lZ X (lP (zDo X) x Shx Shm top μ ν) cs ss 739 (lvL b x i) [] := by
  obtain ⟨j, hk, hO, hm, hc, hs⟩ := I
  obtain ⟨r, μ', ν', e1, e2, jr⟩ := q_rests j
  refine l_aload_n C.1 (k := 1) (i := 1) rfl rfl ⟨dL_739, rfl⟩ ?_
  refine l_cx C (pc := 740) (As := []) (c11_rests (zLo X) (zDa (zDo X) (Ax x)) Shx top hk.1 x  μ r μ' hk.2.2.2.2 e1) hk vL11_rests lL_79 rfl ⟨rfl, rfl, rfl, rfl⟩ ⟨by omega, by omega⟩ rfl dL_740 ?_
  refine l_aload_n C.1 (k := 2) (i := 2) (pc := 743) rfl rfl ⟨dL_743, rfl⟩ ?_
  refine l_cm C (pc := 744) (As := []) (c12_rests (zLo X) (zDa (zDo X) (Am x)) Shm top hO (x + 573)  ν r ν' hm e2) hm vL12_rests lL_83 rfl ⟨rfl, rfl, rfl, rfl⟩ ⟨by omega, by omega⟩ rfl dL_744 ?_
  exact l_eq C (pc := 747) ⟨by omega, by omega⟩ ⟨dL_747, rfl, rfl⟩ (kk false μ' ν' jr)
theorem k_when (C : LC X b L xs x) (hi : i + 6 ≤ L) (I : LJ X x Shx Shm top μ ν cs ss) (kk : ∀ (B : Bool) (μ' ν' : zM), JR x (x + 573) (topN B top) μ' ν' → lZ X (lP (zDo X) x (shN B Shx top) Shm (topN B top) μ' ν') (cs + 261) (ss + 1976) 1406 (lvL b x i) []) : lZ X (lP (zDo X) x Shx Shm top μ ν) cs ss 752 (lvL b x i) [] := by
  obtain ⟨j, hk, hO, hm, hc, hs⟩ := I
  obtain ⟨r, μ', ν', e1, e2, jr⟩ := q_when j
  refine l_aload_n C.1 (k := 1) (i := 1) rfl rfl ⟨dL_752, rfl⟩ ?_
  refine l_cx C (pc := 753) (As := []) (c11_when (zLo X) (zDa (zDo X) (Ax x)) Shx top hk.1 x  μ r μ' hk.2.2.2.2 e1) hk vL11_when lL_84 rfl ⟨rfl, rfl, rfl, rfl⟩ ⟨by omega, by omega⟩ rfl dL_753 ?_
  refine l_aload_n C.1 (k := 2) (i := 2) (pc := 756) rfl rfl ⟨dL_756, rfl⟩ ?_
  refine l_cm C (pc := 757) (As := []) (c12_when (zLo X) (zDa (zDo X) (Am x)) Shm top hO (x + 573)  ν r ν' hm e2) hm vL12_when lL_87 rfl ⟨rfl, rfl, rfl, rfl⟩ ⟨by omega, by omega⟩ rfl dL_757 ?_
  exact l_eq C (pc := 760) ⟨by omega, by omega⟩ ⟨dL_760, rfl, rfl⟩ (kk false μ' ν' jr)
theorem k_ring (C : LC X b L xs x) (hi : i + 6 ≤ L) (I : LJ X x Shx Shm top μ ν cs ss) (kk : ∀ (B : Bool) (μ' ν' : zM), JR x (x + 573) (topN B top) μ' ν' → lZ X (lP (zDo X) x (shN B Shx top) Shm (topN B top) μ' ν') (cs + 261) (ss + 1976) 1406 (lvL b x i) []) : lZ X (lP (zDo X) x Shx Shm top μ ν) cs ss 765 (lvL b x i) [] := by
  obtain ⟨j, hk, hO, hm, hc, hs⟩ := I
  obtain ⟨r, μ', ν', e1, e2, jr⟩ := q_ring j (xs (i + 1))
  refine l_aload_n C.1 (k := 1) (i := 1) rfl rfl ⟨dL_765, rfl⟩ ?_
  refine l_a C hi (j := 1) (n := 1) (pc := 766) (by decide) (by omega) dL_766 dL_767 dL_768 dL_769 dL_770 ?_
  refine l_cx C (pc := 771) (As := [.int (xs (i + 1))]) (c11_ring (zLo X) (zDa (zDo X) (Ax x)) Shx top hk.1 x (xs (i + 1)) μ r μ' hk.2.2.2.2 e1) hk vL11_ring lL_88 rfl ⟨rfl, rfl, rfl, rfl⟩ ⟨by omega, by omega⟩ rfl dL_771 ?_
  refine l_aload_n C.1 (k := 2) (i := 2) (pc := 774) rfl rfl ⟨dL_774, rfl⟩ ?_
  refine l_a C hi (j := 1) (n := 1) (pc := 775) (by decide) (by omega) dL_775 dL_776 dL_777 dL_778 dL_779 ?_
  refine l_cm C (pc := 780) (As := [.int (xs (i + 1))]) (c12_ring (zLo X) (zDa (zDo X) (Am x)) Shm top hO (x + 573) (xs (i + 1)) ν r ν' hm e2) hm vL12_ring lL_91 rfl ⟨rfl, rfl, rfl, rfl⟩ ⟨by omega, by omega⟩ rfl dL_780 ?_
  exact l_eq C (pc := 783) ⟨by omega, by omega⟩ ⟨dL_783, rfl, rfl⟩ (kk false μ' ν' jr)
theorem k_rings (C : LC X b L xs x) (hi : i + 6 ≤ L) (I : LJ X x Shx Shm top μ ν cs ss) (kk : ∀ (B : Bool) (μ' ν' : zM), JR x (x + 573) (topN B top) μ' ν' → lZ X (lP (zDo X) x (shN B Shx top) Shm (topN B top) μ' ν') (cs + 261) (ss + 1976) 1406 (lvL b x i) []) : lZ X (lP (zDo X) x Shx Shm top μ ν) cs ss 788 (lvL b x i) [] := by
  obtain ⟨j, hk, hO, hm, hc, hs⟩ := I
  obtain ⟨r, μ', ν', e1, e2, jr⟩ := q_rings j (xs (i + 1))
  refine l_aload_n C.1 (k := 1) (i := 1) rfl rfl ⟨dL_788, rfl⟩ ?_
  refine l_a C hi (j := 1) (n := 1) (pc := 789) (by decide) (by omega) dL_789 dL_790 dL_791 dL_792 dL_793 ?_
  refine l_cx C (pc := 794) (As := [.int (xs (i + 1))]) (c11_rings (zLo X) (zDa (zDo X) (Ax x)) Shx top hk.1 x (xs (i + 1)) μ r μ' hk.2.2.2.2 e1) hk vL11_rings lL_92 rfl ⟨rfl, rfl, rfl, rfl⟩ ⟨by omega, by omega⟩ rfl dL_794 ?_
  refine l_aload_n C.1 (k := 2) (i := 2) (pc := 797) rfl rfl ⟨dL_797, rfl⟩ ?_
  refine l_a C hi (j := 1) (n := 1) (pc := 798) (by decide) (by omega) dL_798 dL_799 dL_800 dL_801 dL_802 ?_
  refine l_cm C (pc := 803) (As := [.int (xs (i + 1))]) (c12_rings (zLo X) (zDa (zDo X) (Am x)) Shm top hO (x + 573) (xs (i + 1)) ν r ν' hm e2) hm vL12_rings lL_95 rfl ⟨rfl, rfl, rfl, rfl⟩ ⟨by omega, by omega⟩ rfl dL_803 ?_
  exact l_eq C (pc := 806) ⟨by omega, by omega⟩ ⟨dL_806, rfl, rfl⟩ (kk false μ' ν' jr)
theorem k_joined (C : LC X b L xs x) (hi : i + 6 ≤ L) (I : LJ X x Shx Shm top μ ν cs ss) (kk : ∀ (B : Bool) (μ' ν' : zM), JR x (x + 573) (topN B top) μ' ν' → lZ X (lP (zDo X) x (shN B Shx top) Shm (topN B top) μ' ν') (cs + 261) (ss + 1976) 1406 (lvL b x i) []) : lZ X (lP (zDo X) x Shx Shm top μ ν) cs ss 811 (lvL b x i) [] := by
  obtain ⟨j, hk, hO, hm, hc, hs⟩ := I
  obtain ⟨r, μ', ν', e1, e2, jr⟩ := q_joined j (xs (i + 1)) (xs (i + 2))
  refine l_aload_n C.1 (k := 1) (i := 1) rfl rfl ⟨dL_811, rfl⟩ ?_
  refine l_a C hi (j := 1) (n := 1) (pc := 812) (by decide) (by omega) dL_812 dL_813 dL_814 dL_815 dL_816 ?_
  refine l_a C hi (j := 2) (n := 2) (pc := 817) (by decide) (by omega) dL_817 dL_818 dL_819 dL_820 dL_821 ?_
  refine l_cx C (pc := 822) (As := [.int (xs (i + 1)), .int (xs (i + 2))]) (c11_joined (zLo X) (zDa (zDo X) (Ax x)) Shx top hk.1 x (xs (i + 1)) (xs (i + 2)) μ r μ' hk.2.2.2.2 e1) hk vL11_joined lL_96 rfl ⟨rfl, rfl, rfl, rfl⟩ ⟨by omega, by omega⟩ rfl dL_822 ?_
  refine l_aload_n C.1 (k := 2) (i := 2) (pc := 825) rfl rfl ⟨dL_825, rfl⟩ ?_
  refine l_a C hi (j := 1) (n := 1) (pc := 826) (by decide) (by omega) dL_826 dL_827 dL_828 dL_829 dL_830 ?_
  refine l_a C hi (j := 2) (n := 2) (pc := 831) (by decide) (by omega) dL_831 dL_832 dL_833 dL_834 dL_835 ?_
  refine l_cm C (pc := 836) (As := [.int (xs (i + 1)), .int (xs (i + 2))]) (c12_joined (zLo X) (zDa (zDo X) (Am x)) Shm top hO (x + 573) (xs (i + 1)) (xs (i + 2)) ν r ν' hm e2) hm vL12_joined lL_99 rfl ⟨rfl, rfl, rfl, rfl⟩ ⟨by omega, by omega⟩ rfl dL_836 ?_
  exact l_eq C (pc := 839) ⟨by omega, by omega⟩ ⟨dL_839, rfl, rfl⟩ (kk false μ' ν' jr)
theorem k_leads (C : LC X b L xs x) (hi : i + 6 ≤ L) (I : LJ X x Shx Shm top μ ν cs ss) (kk : ∀ (B : Bool) (μ' ν' : zM), JR x (x + 573) (topN B top) μ' ν' → lZ X (lP (zDo X) x (shN B Shx top) Shm (topN B top) μ' ν') (cs + 261) (ss + 1976) 1406 (lvL b x i) []) : lZ X (lP (zDo X) x Shx Shm top μ ν) cs ss 844 (lvL b x i) [] := by
  obtain ⟨j, hk, hO, hm, hc, hs⟩ := I
  obtain ⟨r, ν', e1, e2, jr⟩ := q_leads j (xs (i + 1)) (xs (i + 2))
  refine l_aload_n C.1 (k := 1) (i := 1) rfl rfl ⟨dL_844, rfl⟩ ?_
  refine l_a C hi (j := 1) (n := 1) (pc := 845) (by decide) (by omega) dL_845 dL_846 dL_847 dL_848 dL_849 ?_
  refine l_a C hi (j := 2) (n := 2) (pc := 850) (by decide) (by omega) dL_850 dL_851 dL_852 dL_853 dL_854 ?_
  refine l_cx C (pc := 855) (As := [.int (xs (i + 1)), .int (xs (i + 2))]) (c11_leads (zLo X) (zDa (zDo X) (Ax x)) Shx top hk.1 x (xs (i + 1)) (xs (i + 2)) μ r hk.2.2.2.2 e1) hk vL11_leads lL_100 rfl ⟨rfl, rfl, rfl, rfl⟩ ⟨by omega, by omega⟩ rfl dL_855 ?_
  refine l_aload_n C.1 (k := 2) (i := 2) (pc := 858) rfl rfl ⟨dL_858, rfl⟩ ?_
  refine l_a C hi (j := 1) (n := 1) (pc := 859) (by decide) (by omega) dL_859 dL_860 dL_861 dL_862 dL_863 ?_
  refine l_a C hi (j := 2) (n := 2) (pc := 864) (by decide) (by omega) dL_864 dL_865 dL_866 dL_867 dL_868 ?_
  refine l_cm C (pc := 869) (As := [.int (xs (i + 1)), .int (xs (i + 2))]) (c12_leads (zLo X) (zDa (zDo X) (Am x)) Shm top hO (x + 573) (xs (i + 1)) (xs (i + 2)) ν r ν' hm e2) hm vL12_leads lL_103 rfl ⟨rfl, rfl, rfl, rfl⟩ ⟨by omega, by omega⟩ rfl dL_869 ?_
  exact l_eq C (pc := 872) ⟨by omega, by omega⟩ ⟨dL_872, rfl, rfl⟩ (kk false μ ν' jr)
theorem k_heal (C : LC X b L xs x) (hi : i + 6 ≤ L) (I : LJ X x Shx Shm top μ ν cs ss) (kk : ∀ (B : Bool) (μ' ν' : zM), JR x (x + 573) (topN B top) μ' ν' → lZ X (lP (zDo X) x (shN B Shx top) Shm (topN B top) μ' ν') (cs + 261) (ss + 1976) 1406 (lvL b x i) []) : lZ X (lP (zDo X) x Shx Shm top μ ν) cs ss 877 (lvL b x i) [] := by
  obtain ⟨j, hk, hO, hm, hc, hs⟩ := I
  obtain ⟨r, μ', ν', e1, e2, jr⟩ := q_heal j (xs (i + 1))
  refine l_aload_n C.1 (k := 1) (i := 1) rfl rfl ⟨dL_877, rfl⟩ ?_
  refine l_a C hi (j := 1) (n := 1) (pc := 878) (by decide) (by omega) dL_878 dL_879 dL_880 dL_881 dL_882 ?_
  refine l_cx C (pc := 883) (As := [.int (xs (i + 1))]) (c11_heal (zLo X) (zDa (zDo X) (Ax x)) Shx top hk.1 x (xs (i + 1)) μ r μ' hk.2.2.2.2 e1) hk vL11_heal lL_104 rfl ⟨rfl, rfl, rfl, rfl⟩ ⟨by omega, by omega⟩ rfl dL_883 ?_
  refine l_aload_n C.1 (k := 2) (i := 2) (pc := 886) rfl rfl ⟨dL_886, rfl⟩ ?_
  refine l_a C hi (j := 1) (n := 1) (pc := 887) (by decide) (by omega) dL_887 dL_888 dL_889 dL_890 dL_891 ?_
  refine l_cm C (pc := 892) (As := [.int (xs (i + 1))]) (c12_heal (zLo X) (zDa (zDo X) (Am x)) Shm top hO (x + 573) (xs (i + 1)) ν r ν' hm e2) hm vL12_heal lL_107 rfl ⟨rfl, rfl, rfl, rfl⟩ ⟨by omega, by omega⟩ rfl dL_892 ?_
  exact l_eq C (pc := 895) ⟨by omega, by omega⟩ ⟨dL_895, rfl, rfl⟩ (kk false μ' ν' jr)
theorem k_worst (C : LC X b L xs x) (hi : i + 6 ≤ L) (I : LJ X x Shx Shm top μ ν cs ss) (kk : ∀ (B : Bool) (μ' ν' : zM), JR x (x + 573) (topN B top) μ' ν' → lZ X (lP (zDo X) x (shN B Shx top) Shm (topN B top) μ' ν') (cs + 261) (ss + 1976) 1406 (lvL b x i) []) : lZ X (lP (zDo X) x Shx Shm top μ ν) cs ss 900 (lvL b x i) [] := by
  obtain ⟨j, hk, hO, hm, hc, hs⟩ := I
  obtain ⟨r, μ', ν', e1, e2, jr⟩ := q_worst j (xs (i + 1))
  refine l_aload_n C.1 (k := 1) (i := 1) rfl rfl ⟨dL_900, rfl⟩ ?_
  refine l_a C hi (j := 1) (n := 1) (pc := 901) (by decide) (by omega) dL_901 dL_902 dL_903 dL_904 dL_905 ?_
  refine l_cx C (pc := 906) (As := [.int (xs (i + 1))]) (c11_worst (zLo X) (zDa (zDo X) (Ax x)) Shx top hk.1 x (xs (i + 1)) μ r μ' hk.2.2.2.2 e1) hk vL11_worst lL_108 rfl ⟨rfl, rfl, rfl, rfl⟩ ⟨by omega, by omega⟩ rfl dL_906 ?_
  refine l_aload_n C.1 (k := 2) (i := 2) (pc := 909) rfl rfl ⟨dL_909, rfl⟩ ?_
  refine l_a C hi (j := 1) (n := 1) (pc := 910) (by decide) (by omega) dL_910 dL_911 dL_912 dL_913 dL_914 ?_
  refine l_cm C (pc := 915) (As := [.int (xs (i + 1))]) (c12_worst (zLo X) (zDa (zDo X) (Am x)) Shm top hO (x + 573) (xs (i + 1)) ν r ν' hm e2) hm vL12_worst lL_111 rfl ⟨rfl, rfl, rfl, rfl⟩ ⟨by omega, by omega⟩ rfl dL_915 ?_
  exact l_eq C (pc := 918) ⟨by omega, by omega⟩ ⟨dL_918, rfl, rfl⟩ (kk false μ' ν' jr)
theorem k_see (C : LC X b L xs x) (hi : i + 6 ≤ L) (I : LJ X x Shx Shm top μ ν cs ss) (kk : ∀ (B : Bool) (μ' ν' : zM), JR x (x + 573) (topN B top) μ' ν' → lZ X (lP (zDo X) x (shN B Shx top) Shm (topN B top) μ' ν') (cs + 261) (ss + 1976) 1406 (lvL b x i) []) : lZ X (lP (zDo X) x Shx Shm top μ ν) cs ss 923 (lvL b x i) [] := by
  obtain ⟨j, hk, hO, hm, hc, hs⟩ := I
  obtain ⟨r, μ', ν', e1, e2, jr⟩ := q_see j (xs (i + 1))
  refine l_aload_n C.1 (k := 1) (i := 1) rfl rfl ⟨dL_923, rfl⟩ ?_
  refine l_a C hi (j := 1) (n := 1) (pc := 924) (by decide) (by omega) dL_924 dL_925 dL_926 dL_927 dL_928 ?_
  refine l_cx C (pc := 929) (As := [.int (xs (i + 1))]) (c11_see (zLo X) (zDa (zDo X) (Ax x)) Shx top hk.1 x (xs (i + 1)) μ r μ' hk.2.2.2.2 e1) hk vL11_see lL_112 rfl ⟨rfl, rfl, rfl, rfl⟩ ⟨by omega, by omega⟩ rfl dL_929 ?_
  refine l_aload_n C.1 (k := 2) (i := 2) (pc := 932) rfl rfl ⟨dL_932, rfl⟩ ?_
  refine l_a C hi (j := 1) (n := 1) (pc := 933) (by decide) (by omega) dL_933 dL_934 dL_935 dL_936 dL_937 ?_
  refine l_cm C (pc := 938) (As := [.int (xs (i + 1))]) (c12_see (zLo X) (zDa (zDo X) (Am x)) Shm top hO (x + 573) (xs (i + 1)) ν r ν' hm e2) hm vL12_see lL_115 rfl ⟨rfl, rfl, rfl, rfl⟩ ⟨by omega, by omega⟩ rfl dL_938 ?_
  exact l_eq C (pc := 941) ⟨by omega, by omega⟩ ⟨dL_941, rfl, rfl⟩ (kk false μ' ν' jr)
theorem k_suspect (C : LC X b L xs x) (hi : i + 6 ≤ L) (I : LJ X x Shx Shm top μ ν cs ss) (kk : ∀ (B : Bool) (μ' ν' : zM), JR x (x + 573) (topN B top) μ' ν' → lZ X (lP (zDo X) x (shN B Shx top) Shm (topN B top) μ' ν') (cs + 261) (ss + 1976) 1406 (lvL b x i) []) : lZ X (lP (zDo X) x Shx Shm top μ ν) cs ss 946 (lvL b x i) [] := by
  obtain ⟨j, hk, hO, hm, hc, hs⟩ := I
  obtain ⟨r, μ', ν', e1, e2, jr⟩ := q_suspect j (xs (i + 1))
  refine l_aload_n C.1 (k := 1) (i := 1) rfl rfl ⟨dL_946, rfl⟩ ?_
  refine l_a C hi (j := 1) (n := 1) (pc := 947) (by decide) (by omega) dL_947 dL_948 dL_949 dL_950 dL_951 ?_
  refine l_cx C (pc := 952) (As := [.int (xs (i + 1))]) (c11_suspect (zLo X) (zDa (zDo X) (Ax x)) Shx top hk.1 x (xs (i + 1)) μ r μ' hk.2.2.2.2 e1) hk vL11_suspect lL_116 rfl ⟨rfl, rfl, rfl, rfl⟩ ⟨by omega, by omega⟩ rfl dL_952 ?_
  refine l_aload_n C.1 (k := 2) (i := 2) (pc := 955) rfl rfl ⟨dL_955, rfl⟩ ?_
  refine l_a C hi (j := 1) (n := 1) (pc := 956) (by decide) (by omega) dL_956 dL_957 dL_958 dL_959 dL_960 ?_
  refine l_cm C (pc := 961) (As := [.int (xs (i + 1))]) (c12_suspect (zLo X) (zDa (zDo X) (Am x)) Shm top hO (x + 573) (xs (i + 1)) ν r ν' hm e2) hm vL12_suspect lL_119 rfl ⟨rfl, rfl, rfl, rfl⟩ ⟨by omega, by omega⟩ rfl dL_961 ?_
  exact l_eq C (pc := 964) ⟨by omega, by omega⟩ ⟨dL_964, rfl, rfl⟩ (kk false μ' ν' jr)
theorem k_tells (C : LC X b L xs x) (hi : i + 6 ≤ L) (I : LJ X x Shx Shm top μ ν cs ss) (kk : ∀ (B : Bool) (μ' ν' : zM), JR x (x + 573) (topN B top) μ' ν' → lZ X (lP (zDo X) x (shN B Shx top) Shm (topN B top) μ' ν') (cs + 261) (ss + 1976) 1406 (lvL b x i) []) : lZ X (lP (zDo X) x Shx Shm top μ ν) cs ss 969 (lvL b x i) [] := by
  obtain ⟨j, hk, hO, hm, hc, hs⟩ := I
  obtain ⟨r, μ', ν', e1, e2, jr⟩ := q_tells j (xs (i + 1))
  refine l_aload_n C.1 (k := 1) (i := 1) rfl rfl ⟨dL_969, rfl⟩ ?_
  refine l_a C hi (j := 1) (n := 1) (pc := 970) (by decide) (by omega) dL_970 dL_971 dL_972 dL_973 dL_974 ?_
  refine l_cx C (pc := 975) (As := [.int (xs (i + 1))]) (c11_tells (zLo X) (zDa (zDo X) (Ax x)) Shx top hk.1 x (xs (i + 1)) μ r μ' hk.2.2.2.2 e1) hk vL11_tells lL_120 rfl ⟨rfl, rfl, rfl, rfl⟩ ⟨by omega, by omega⟩ rfl dL_975 ?_
  refine l_aload_n C.1 (k := 2) (i := 2) (pc := 978) rfl rfl ⟨dL_978, rfl⟩ ?_
  refine l_a C hi (j := 1) (n := 1) (pc := 979) (by decide) (by omega) dL_979 dL_980 dL_981 dL_982 dL_983 ?_
  refine l_cm C (pc := 984) (As := [.int (xs (i + 1))]) (c12_tells (zLo X) (zDa (zDo X) (Am x)) Shm top hO (x + 573) (xs (i + 1)) ν r ν' hm e2) hm vL12_tells lL_123 rfl ⟨rfl, rfl, rfl, rfl⟩ ⟨by omega, by omega⟩ rfl dL_984 ?_
  exact l_eq C (pc := 987) ⟨by omega, by omega⟩ ⟨dL_987, rfl, rfl⟩ (kk false μ' ν' jr)
theorem k_centre (C : LC X b L xs x) (hi : i + 6 ≤ L) (I : LJ X x Shx Shm top μ ν cs ss) (kk : ∀ (B : Bool) (μ' ν' : zM), JR x (x + 573) (topN B top) μ' ν' → lZ X (lP (zDo X) x (shN B Shx top) Shm (topN B top) μ' ν') (cs + 261) (ss + 1976) 1406 (lvL b x i) []) : lZ X (lP (zDo X) x Shx Shm top μ ν) cs ss 992 (lvL b x i) [] := by
  obtain ⟨j, hk, hO, hm, hc, hs⟩ := I
  obtain ⟨r, μ', ν', e1, e2, jr⟩ := q_centre j (xs (i + 1))
  refine l_aload_n C.1 (k := 1) (i := 1) rfl rfl ⟨dL_992, rfl⟩ ?_
  refine l_a C hi (j := 1) (n := 1) (pc := 993) (by decide) (by omega) dL_993 dL_994 dL_995 dL_996 dL_997 ?_
  refine l_cx C (pc := 998) (As := [.int (xs (i + 1))]) (c11_centre (zLo X) (zDa (zDo X) (Ax x)) Shx top hk.1 x (xs (i + 1)) μ r μ' hk.2.2.2.2 e1) hk vL11_centre lL_124 rfl ⟨rfl, rfl, rfl, rfl⟩ ⟨by omega, by omega⟩ rfl dL_998 ?_
  refine l_aload_n C.1 (k := 2) (i := 2) (pc := 1001) rfl rfl ⟨dL_1001, rfl⟩ ?_
  refine l_a C hi (j := 1) (n := 1) (pc := 1002) (by decide) (by omega) dL_1002 dL_1003 dL_1004 dL_1005 dL_1006 ?_
  refine l_cm C (pc := 1007) (As := [.int (xs (i + 1))]) (c12_centre (zLo X) (zDa (zDo X) (Am x)) Shm top hO (x + 573) (xs (i + 1)) ν r ν' hm e2) hm vL12_centre lL_127 rfl ⟨rfl, rfl, rfl, rfl⟩ ⟨by omega, by omega⟩ rfl dL_1007 ?_
  exact l_eq C (pc := 1010) ⟨by omega, by omega⟩ ⟨dL_1010, rfl, rfl⟩ (kk false μ' ν' jr)
theorem k_run (C : LC X b L xs x) (hi : i + 6 ≤ L) (I : LJ X x Shx Shm top μ ν cs ss) (kk : ∀ (B : Bool) (μ' ν' : zM), JR x (x + 573) (topN B top) μ' ν' → lZ X (lP (zDo X) x (shN B Shx top) Shm (topN B top) μ' ν') (cs + 261) (ss + 1976) 1406 (lvL b x i) []) : lZ X (lP (zDo X) x Shx Shm top μ ν) cs ss 1015 (lvL b x i) [] := by
  obtain ⟨j, hk, hO, hm, hc, hs⟩ := I
  obtain ⟨r, B, μ', ν', e1, e2, jr⟩ := q_run j (xs (i + 1))
  refine l_aload_n C.1 (k := 1) (i := 1) rfl rfl ⟨dL_1015, rfl⟩ ?_
  refine l_a C hi (j := 1) (n := 1) (pc := 1016) (by decide) (by omega) dL_1016 dL_1017 dL_1018 dL_1019 dL_1020 ?_
  refine l_cx C (pc := 1021) (As := [.int (xs (i + 1))]) (c11_run (zLo X) (zDa (zDo X) (Ax x)) Shx top x (xs (i + 1)) μ r B μ' hk e1) hk vL11_run lL_128 rfl ⟨rfl, rfl, rfl, rfl⟩ ⟨by omega, by omega⟩ rfl dL_1021 ?_
  refine l_aload_n C.1 (k := 2) (i := 2) (pc := 1024) rfl rfl ⟨dL_1024, rfl⟩ ?_
  refine l_a C hi (j := 1) (n := 1) (pc := 1025) (by decide) (by omega) dL_1025 dL_1026 dL_1027 dL_1028 dL_1029 ?_
  refine l_cm C (pc := 1030) (As := [.int (xs (i + 1))]) (c12_run (zLo X) (zDa (zDo X) (Am x)) Shm (topN B top) hO (x + 573) (xs (i + 1)) ν r ν' hm e2) hm vL12_run lL_131 rfl ⟨rfl, rfl, rfl, rfl⟩ ⟨by omega, by omega⟩ rfl dL_1030 ?_
  exact l_eq C (pc := 1033) ⟨by omega, by omega⟩ ⟨dL_1033, rfl, rfl⟩ (kk B μ' ν' jr)
theorem k_cut (C : LC X b L xs x) (hi : i + 6 ≤ L) (I : LJ X x Shx Shm top μ ν cs ss) (kk : ∀ (B : Bool) (μ' ν' : zM), JR x (x + 573) (topN B top) μ' ν' → lZ X (lP (zDo X) x (shN B Shx top) Shm (topN B top) μ' ν') (cs + 261) (ss + 1976) 1406 (lvL b x i) []) : lZ X (lP (zDo X) x Shx Shm top μ ν) cs ss 1038 (lvL b x i) [] := by
  obtain ⟨j, hk, hO, hm, hc, hs⟩ := I
  obtain ⟨r, B, μ', ν', e1, e2, jr⟩ := q_cut j (xs (i + 1))
  refine l_aload_n C.1 (k := 1) (i := 1) rfl rfl ⟨dL_1038, rfl⟩ ?_
  refine l_a C hi (j := 1) (n := 1) (pc := 1039) (by decide) (by omega) dL_1039 dL_1040 dL_1041 dL_1042 dL_1043 ?_
  refine l_cx C (pc := 1044) (As := [.int (xs (i + 1))]) (c11_cut (zLo X) (zDa (zDo X) (Ax x)) Shx top x (xs (i + 1)) μ r B μ' hk e1) hk vL11_cut lL_132 rfl ⟨rfl, rfl, rfl, rfl⟩ ⟨by omega, by omega⟩ rfl dL_1044 ?_
  refine l_aload_n C.1 (k := 2) (i := 2) (pc := 1047) rfl rfl ⟨dL_1047, rfl⟩ ?_
  refine l_a C hi (j := 1) (n := 1) (pc := 1048) (by decide) (by omega) dL_1048 dL_1049 dL_1050 dL_1051 dL_1052 ?_
  refine l_cm C (pc := 1053) (As := [.int (xs (i + 1))]) (c12_cut (zLo X) (zDa (zDo X) (Am x)) Shm (topN B top) hO (x + 573) (xs (i + 1)) ν r ν' hm e2) hm vL12_cut lL_135 rfl ⟨rfl, rfl, rfl, rfl⟩ ⟨by omega, by omega⟩ rfl dL_1053 ?_
  exact l_eq C (pc := 1056) ⟨by omega, by omega⟩ ⟨dL_1056, rfl, rfl⟩ (kk B μ' ν' jr)
theorem k_mend (C : LC X b L xs x) (hi : i + 6 ≤ L) (I : LJ X x Shx Shm top μ ν cs ss) (kk : ∀ (B : Bool) (μ' ν' : zM), JR x (x + 573) (topN B top) μ' ν' → lZ X (lP (zDo X) x (shN B Shx top) Shm (topN B top) μ' ν') (cs + 261) (ss + 1976) 1406 (lvL b x i) []) : lZ X (lP (zDo X) x Shx Shm top μ ν) cs ss 1061 (lvL b x i) [] := by
  obtain ⟨j, hk, hO, hm, hc, hs⟩ := I
  obtain ⟨r, B, μ', ν', e1, e2, jr⟩ := q_mend j (xs (i + 1))
  refine l_aload_n C.1 (k := 1) (i := 1) rfl rfl ⟨dL_1061, rfl⟩ ?_
  refine l_a C hi (j := 1) (n := 1) (pc := 1062) (by decide) (by omega) dL_1062 dL_1063 dL_1064 dL_1065 dL_1066 ?_
  refine l_cx C (pc := 1067) (As := [.int (xs (i + 1))]) (c11_mend (zLo X) (zDa (zDo X) (Ax x)) Shx top x (xs (i + 1)) μ r B μ' hk e1) hk vL11_mend lL_136 rfl ⟨rfl, rfl, rfl, rfl⟩ ⟨by omega, by omega⟩ rfl dL_1067 ?_
  refine l_aload_n C.1 (k := 2) (i := 2) (pc := 1070) rfl rfl ⟨dL_1070, rfl⟩ ?_
  refine l_a C hi (j := 1) (n := 1) (pc := 1071) (by decide) (by omega) dL_1071 dL_1072 dL_1073 dL_1074 dL_1075 ?_
  refine l_cm C (pc := 1076) (As := [.int (xs (i + 1))]) (c12_mend (zLo X) (zDa (zDo X) (Am x)) Shm (topN B top) hO (x + 573) (xs (i + 1)) ν r ν' hm e2) hm vL12_mend lL_139 rfl ⟨rfl, rfl, rfl, rfl⟩ ⟨by omega, by omega⟩ rfl dL_1076 ?_
  exact l_eq C (pc := 1079) ⟨by omega, by omega⟩ ⟨dL_1079, rfl, rfl⟩ (kk B μ' ν' jr)
theorem k_stop (C : LC X b L xs x) (hi : i + 6 ≤ L) (I : LJ X x Shx Shm top μ ν cs ss) (kk : ∀ (B : Bool) (μ' ν' : zM), JR x (x + 573) (topN B top) μ' ν' → lZ X (lP (zDo X) x (shN B Shx top) Shm (topN B top) μ' ν') (cs + 261) (ss + 1976) 1406 (lvL b x i) []) : lZ X (lP (zDo X) x Shx Shm top μ ν) cs ss 1084 (lvL b x i) [] := by
  obtain ⟨j, hk, hO, hm, hc, hs⟩ := I
  obtain ⟨r, B, μ', ν', e1, e2, jr⟩ := q_stop j (xs (i + 1))
  refine l_aload_n C.1 (k := 1) (i := 1) rfl rfl ⟨dL_1084, rfl⟩ ?_
  refine l_a C hi (j := 1) (n := 1) (pc := 1085) (by decide) (by omega) dL_1085 dL_1086 dL_1087 dL_1088 dL_1089 ?_
  refine l_cx C (pc := 1090) (As := [.int (xs (i + 1))]) (c11_stop (zLo X) (zDa (zDo X) (Ax x)) Shx top x (xs (i + 1)) μ r B μ' hk e1) hk vL11_stop lL_140 rfl ⟨rfl, rfl, rfl, rfl⟩ ⟨by omega, by omega⟩ rfl dL_1090 ?_
  refine l_aload_n C.1 (k := 2) (i := 2) (pc := 1093) rfl rfl ⟨dL_1093, rfl⟩ ?_
  refine l_a C hi (j := 1) (n := 1) (pc := 1094) (by decide) (by omega) dL_1094 dL_1095 dL_1096 dL_1097 dL_1098 ?_
  refine l_cm C (pc := 1099) (As := [.int (xs (i + 1))]) (c12_stop (zLo X) (zDa (zDo X) (Am x)) Shm (topN B top) hO (x + 573) (xs (i + 1)) ν r ν' hm e2) hm vL12_stop lL_143 rfl ⟨rfl, rfl, rfl, rfl⟩ ⟨by omega, by omega⟩ rfl dL_1099 ?_
  exact l_eq C (pc := 1102) ⟨by omega, by omega⟩ ⟨dL_1102, rfl, rfl⟩ (kk B μ' ν' jr)
theorem k_start (C : LC X b L xs x) (hi : i + 6 ≤ L) (I : LJ X x Shx Shm top μ ν cs ss) (kk : ∀ (B : Bool) (μ' ν' : zM), JR x (x + 573) (topN B top) μ' ν' → lZ X (lP (zDo X) x (shN B Shx top) Shm (topN B top) μ' ν') (cs + 261) (ss + 1976) 1406 (lvL b x i) []) : lZ X (lP (zDo X) x Shx Shm top μ ν) cs ss 1107 (lvL b x i) [] := by
  obtain ⟨j, hk, hO, hm, hc, hs⟩ := I
  obtain ⟨r, B, μ', ν', e1, e2, jr⟩ := q_start j (xs (i + 1))
  refine l_aload_n C.1 (k := 1) (i := 1) rfl rfl ⟨dL_1107, rfl⟩ ?_
  refine l_a C hi (j := 1) (n := 1) (pc := 1108) (by decide) (by omega) dL_1108 dL_1109 dL_1110 dL_1111 dL_1112 ?_
  refine l_cx C (pc := 1113) (As := [.int (xs (i + 1))]) (c11_start (zLo X) (zDa (zDo X) (Ax x)) Shx top x (xs (i + 1)) μ r B μ' hk e1) hk vL11_start lL_144 rfl ⟨rfl, rfl, rfl, rfl⟩ ⟨by omega, by omega⟩ rfl dL_1113 ?_
  refine l_aload_n C.1 (k := 2) (i := 2) (pc := 1116) rfl rfl ⟨dL_1116, rfl⟩ ?_
  refine l_a C hi (j := 1) (n := 1) (pc := 1117) (by decide) (by omega) dL_1117 dL_1118 dL_1119 dL_1120 dL_1121 ?_
  refine l_cm C (pc := 1122) (As := [.int (xs (i + 1))]) (c12_start (zLo X) (zDa (zDo X) (Am x)) Shm (topN B top) hO (x + 573) (xs (i + 1)) ν r ν' hm e2) hm vL12_start lL_147 rfl ⟨rfl, rfl, rfl, rfl⟩ ⟨by omega, by omega⟩ rfl dL_1122 ?_
  exact l_eq C (pc := 1125) ⟨by omega, by omega⟩ ⟨dL_1125, rfl, rfl⟩ (kk B μ' ν' jr)
theorem k_prio (C : LC X b L xs x) (hi : i + 6 ≤ L) (I : LJ X x Shx Shm top μ ν cs ss) (kk : ∀ (B : Bool) (μ' ν' : zM), JR x (x + 573) (topN B top) μ' ν' → lZ X (lP (zDo X) x (shN B Shx top) Shm (topN B top) μ' ν') (cs + 261) (ss + 1976) 1406 (lvL b x i) []) : lZ X (lP (zDo X) x Shx Shm top μ ν) cs ss 1130 (lvL b x i) [] := by
  obtain ⟨j, hk, hO, hm, hc, hs⟩ := I
  obtain ⟨r, B, μ', ν', e1, e2, jr⟩ := q_prio j (xs (i + 1)) (xs (i + 2))
  refine l_aload_n C.1 (k := 1) (i := 1) rfl rfl ⟨dL_1130, rfl⟩ ?_
  refine l_a C hi (j := 1) (n := 1) (pc := 1131) (by decide) (by omega) dL_1131 dL_1132 dL_1133 dL_1134 dL_1135 ?_
  refine l_a C hi (j := 2) (n := 2) (pc := 1136) (by decide) (by omega) dL_1136 dL_1137 dL_1138 dL_1139 dL_1140 ?_
  refine l_cx C (pc := 1141) (As := [.int (xs (i + 1)), .int (xs (i + 2))]) (c11_prio (zLo X) (zDa (zDo X) (Ax x)) Shx top x (xs (i + 1)) (xs (i + 2)) μ r B μ' hk e1) hk vL11_prio lL_148 rfl ⟨rfl, rfl, rfl, rfl⟩ ⟨by omega, by omega⟩ rfl dL_1141 ?_
  refine l_aload_n C.1 (k := 2) (i := 2) (pc := 1144) rfl rfl ⟨dL_1144, rfl⟩ ?_
  refine l_a C hi (j := 1) (n := 1) (pc := 1145) (by decide) (by omega) dL_1145 dL_1146 dL_1147 dL_1148 dL_1149 ?_
  refine l_a C hi (j := 2) (n := 2) (pc := 1150) (by decide) (by omega) dL_1150 dL_1151 dL_1152 dL_1153 dL_1154 ?_
  refine l_cm C (pc := 1155) (As := [.int (xs (i + 1)), .int (xs (i + 2))]) (c12_prio (zLo X) (zDa (zDo X) (Am x)) Shm (topN B top) hO (x + 573) (xs (i + 1)) (xs (i + 2)) ν r ν' hm e2) hm vL12_prio lL_152 rfl ⟨rfl, rfl, rfl, rfl⟩ ⟨by omega, by omega⟩ rfl dL_1155 ?_
  exact l_eq C (pc := 1158) ⟨by omega, by omega⟩ ⟨dL_1158, rfl, rfl⟩ (kk B μ' ν' jr)
theorem k_turn (C : LC X b L xs x) (hi : i + 6 ≤ L) (I : LJ X x Shx Shm top μ ν cs ss) (kk : ∀ (B : Bool) (μ' ν' : zM), JR x (x + 573) (topN B top) μ' ν' → lZ X (lP (zDo X) x (shN B Shx top) Shm (topN B top) μ' ν') (cs + 261) (ss + 1976) 1406 (lvL b x i) []) : lZ X (lP (zDo X) x Shx Shm top μ ν) cs ss 1163 (lvL b x i) [] := by
  obtain ⟨j, hk, hO, hm, hc, hs⟩ := I
  obtain ⟨r, B, μ', ν', e1, e2, jr⟩ := q_turn j (xs (i + 1))
  refine l_aload_n C.1 (k := 1) (i := 1) rfl rfl ⟨dL_1163, rfl⟩ ?_
  refine l_a C hi (j := 1) (n := 1) (pc := 1164) (by decide) (by omega) dL_1164 dL_1165 dL_1166 dL_1167 dL_1168 ?_
  refine l_cx C (pc := 1169) (As := [.int (xs (i + 1))]) (c11_turn (zLo X) (zDa (zDo X) (Ax x)) Shx top x (xs (i + 1)) μ r B μ' hk e1) hk vL11_turn lL_153 rfl ⟨rfl, rfl, rfl, rfl⟩ ⟨by omega, by omega⟩ rfl dL_1169 ?_
  refine l_aload_n C.1 (k := 2) (i := 2) (pc := 1172) rfl rfl ⟨dL_1172, rfl⟩ ?_
  refine l_a C hi (j := 1) (n := 1) (pc := 1173) (by decide) (by omega) dL_1173 dL_1174 dL_1175 dL_1176 dL_1177 ?_
  refine l_cm C (pc := 1178) (As := [.int (xs (i + 1))]) (c12_turn (zLo X) (zDa (zDo X) (Am x)) Shm (topN B top) hO (x + 573) (xs (i + 1)) ν r ν' hm e2) hm vL12_turn lL_156 rfl ⟨rfl, rfl, rfl, rfl⟩ ⟨by omega, by omega⟩ rfl dL_1178 ?_
  exact l_eq C (pc := 1181) ⟨by omega, by omega⟩ ⟨dL_1181, rfl, rfl⟩ (kk B μ' ν' jr)
theorem k_move (C : LC X b L xs x) (hi : i + 6 ≤ L) (I : LJ X x Shx Shm top μ ν cs ss) (kk : ∀ (B : Bool) (μ' ν' : zM), JR x (x + 573) (topN B top) μ' ν' → lZ X (lP (zDo X) x (shN B Shx top) Shm (topN B top) μ' ν') (cs + 261) (ss + 1976) 1406 (lvL b x i) []) : lZ X (lP (zDo X) x Shx Shm top μ ν) cs ss 1186 (lvL b x i) [] := by
  obtain ⟨j, hk, hO, hm, hc, hs⟩ := I
  obtain ⟨r, B, μ', ν', e1, e2, jr⟩ := q_move j (xs (i + 1)) (xs (i + 2))
  refine l_aload_n C.1 (k := 1) (i := 1) rfl rfl ⟨dL_1186, rfl⟩ ?_
  refine l_a C hi (j := 1) (n := 1) (pc := 1187) (by decide) (by omega) dL_1187 dL_1188 dL_1189 dL_1190 dL_1191 ?_
  refine l_a C hi (j := 2) (n := 2) (pc := 1192) (by decide) (by omega) dL_1192 dL_1193 dL_1194 dL_1195 dL_1196 ?_
  refine l_cx C (pc := 1197) (As := [.int (xs (i + 1)), .int (xs (i + 2))]) (c11_move (zLo X) (zDa (zDo X) (Ax x)) Shx top x (xs (i + 1)) (xs (i + 2)) μ r B μ' hk e1) hk vL11_move lL_157 rfl ⟨rfl, rfl, rfl, rfl⟩ ⟨by omega, by omega⟩ rfl dL_1197 ?_
  refine l_aload_n C.1 (k := 2) (i := 2) (pc := 1200) rfl rfl ⟨dL_1200, rfl⟩ ?_
  refine l_a C hi (j := 1) (n := 1) (pc := 1201) (by decide) (by omega) dL_1201 dL_1202 dL_1203 dL_1204 dL_1205 ?_
  refine l_a C hi (j := 2) (n := 2) (pc := 1206) (by decide) (by omega) dL_1206 dL_1207 dL_1208 dL_1209 dL_1210 ?_
  refine l_cm C (pc := 1211) (As := [.int (xs (i + 1)), .int (xs (i + 2))]) (c12_move (zLo X) (zDa (zDo X) (Am x)) Shm (topN B top) hO (x + 573) (xs (i + 1)) (xs (i + 2)) ν r ν' hm e2) hm vL12_move lL_160 rfl ⟨rfl, rfl, rfl, rfl⟩ ⟨by omega, by omega⟩ rfl dL_1211 ?_
  exact l_eq C (pc := 1214) ⟨by omega, by omega⟩ ⟨dL_1214, rfl, rfl⟩ (kk B μ' ν' jr)
theorem k_send (C : LC X b L xs x) (hi : i + 6 ≤ L) (I : LJ X x Shx Shm top μ ν cs ss) (kk : ∀ (B : Bool) (μ' ν' : zM), JR x (x + 573) (topN B top) μ' ν' → lZ X (lP (zDo X) x (shN B Shx top) Shm (topN B top) μ' ν') (cs + 261) (ss + 1976) 1406 (lvL b x i) []) : lZ X (lP (zDo X) x Shx Shm top μ ν) cs ss 1219 (lvL b x i) [] := by
  obtain ⟨j, hk, hO, hm, hc, hs⟩ := I
  obtain ⟨r, B, μ', ν', e1, e2, jr⟩ := q_send j (xs (i + 1)) (xs (i + 2))
  refine l_aload_n C.1 (k := 1) (i := 1) rfl rfl ⟨dL_1219, rfl⟩ ?_
  refine l_a C hi (j := 1) (n := 1) (pc := 1220) (by decide) (by omega) dL_1220 dL_1221 dL_1222 dL_1223 dL_1224 ?_
  refine l_a C hi (j := 2) (n := 2) (pc := 1225) (by decide) (by omega) dL_1225 dL_1226 dL_1227 dL_1228 dL_1229 ?_
  refine l_cx C (pc := 1230) (As := [.int (xs (i + 1)), .int (xs (i + 2))]) (c11_send (zLo X) (zDa (zDo X) (Ax x)) Shx top x (xs (i + 1)) (xs (i + 2)) μ r B μ' hk e1) hk vL11_send lL_161 rfl ⟨rfl, rfl, rfl, rfl⟩ ⟨by omega, by omega⟩ rfl dL_1230 ?_
  refine l_aload_n C.1 (k := 2) (i := 2) (pc := 1233) rfl rfl ⟨dL_1233, rfl⟩ ?_
  refine l_a C hi (j := 1) (n := 1) (pc := 1234) (by decide) (by omega) dL_1234 dL_1235 dL_1236 dL_1237 dL_1238 ?_
  refine l_a C hi (j := 2) (n := 2) (pc := 1239) (by decide) (by omega) dL_1239 dL_1240 dL_1241 dL_1242 dL_1243 ?_
  refine l_cm C (pc := 1244) (As := [.int (xs (i + 1)), .int (xs (i + 2))]) (c12_send (zLo X) (zDa (zDo X) (Am x)) Shm (topN B top) hO (x + 573) (xs (i + 1)) (xs (i + 2)) ν r ν' hm e2) hm vL12_send lL_164 rfl ⟨rfl, rfl, rfl, rfl⟩ ⟨by omega, by omega⟩ rfl dL_1244 ?_
  exact l_eq C (pc := 1247) ⟨by omega, by omega⟩ ⟨dL_1247, rfl, rfl⟩ (kk B μ' ν' jr)
theorem k_frame (C : LC X b L xs x) (hi : i + 6 ≤ L) (I : LJ X x Shx Shm top μ ν cs ss) (kk : ∀ (B : Bool) (μ' ν' : zM), JR x (x + 573) (topN B top) μ' ν' → lZ X (lP (zDo X) x (shN B Shx top) Shm (topN B top) μ' ν') (cs + 261) (ss + 1976) 1406 (lvL b x i) []) : lZ X (lP (zDo X) x Shx Shm top μ ν) cs ss 1252 (lvL b x i) [] := by
  obtain ⟨j, hk, hO, hm, hc, hs⟩ := I
  obtain ⟨r, e1, e2⟩ := q_frame j (xs (i + 1))
  refine l_aload_n C.1 (k := 1) (i := 1) rfl rfl ⟨dL_1252, rfl⟩ ?_
  refine l_a C hi (j := 1) (n := 1) (pc := 1253) (by decide) (by omega) dL_1253 dL_1254 dL_1255 dL_1256 dL_1257 ?_
  refine l_cx C (pc := 1258) (As := [.int (xs (i + 1))]) (c11_frame (zLo X) (zDa (zDo X) (Ax x)) Shx top hk.1 x (xs (i + 1)) μ r hk.2.2.2.2 e1) hk vL11_frame lL_165 rfl ⟨rfl, rfl, rfl, rfl⟩ ⟨by omega, by omega⟩ rfl dL_1258 ?_
  refine l_aload_n C.1 (k := 2) (i := 2) (pc := 1261) rfl rfl ⟨dL_1261, rfl⟩ ?_
  refine l_a C hi (j := 1) (n := 1) (pc := 1262) (by decide) (by omega) dL_1262 dL_1263 dL_1264 dL_1265 dL_1266 ?_
  refine l_cm C (pc := 1267) (As := [.int (xs (i + 1))]) (c12_frame (zLo X) (zDa (zDo X) (Am x)) Shm top hO (x + 573) (xs (i + 1)) ν r hm e2) hm vL12_frame lL_168 rfl ⟨rfl, rfl, rfl, rfl⟩ ⟨by omega, by omega⟩ rfl dL_1267 ?_
  exact l_eq C (pc := 1270) ⟨by omega, by omega⟩ ⟨dL_1270, rfl, rfl⟩ (kk false μ ν j)
theorem k_chance (C : LC X b L xs x) (hi : i + 6 ≤ L) (I : LJ X x Shx Shm top μ ν cs ss) (kk : ∀ (B : Bool) (μ' ν' : zM), JR x (x + 573) (topN B top) μ' ν' → lZ X (lP (zDo X) x (shN B Shx top) Shm (topN B top) μ' ν') (cs + 261) (ss + 1976) 1406 (lvL b x i) []) : lZ X (lP (zDo X) x Shx Shm top μ ν) cs ss 1275 (lvL b x i) [] := by
  obtain ⟨j, hk, hO, hm, hc, hs⟩ := I
  obtain ⟨r, B, μ', ν', e1, e2, jr⟩ := q_chance j (xs (i + 1))
  refine l_aload_n C.1 (k := 1) (i := 1) rfl rfl ⟨dL_1275, rfl⟩ ?_
  refine l_a C hi (j := 1) (n := 1) (pc := 1276) (by decide) (by omega) dL_1276 dL_1277 dL_1278 dL_1279 dL_1280 ?_
  refine l_cx C (pc := 1281) (As := [.int (xs (i + 1))]) (c11_chance (zLo X) (zDa (zDo X) (Ax x)) Shx top x (xs (i + 1)) μ r B μ' hk e1) hk vL11_chance lL_169 rfl ⟨rfl, rfl, rfl, rfl⟩ ⟨by omega, by omega⟩ rfl dL_1281 ?_
  refine l_aload_n C.1 (k := 2) (i := 2) (pc := 1284) rfl rfl ⟨dL_1284, rfl⟩ ?_
  refine l_a C hi (j := 1) (n := 1) (pc := 1285) (by decide) (by omega) dL_1285 dL_1286 dL_1287 dL_1288 dL_1289 ?_
  refine l_cm C (pc := 1290) (As := [.int (xs (i + 1))]) (c12_chance (zLo X) (zDa (zDo X) (Am x)) Shm (topN B top) hO (x + 573) (xs (i + 1)) ν r ν' hm e2) hm vL12_chance lL_172 rfl ⟨rfl, rfl, rfl, rfl⟩ ⟨by omega, by omega⟩ rfl dL_1290 ?_
  exact l_eq C (pc := 1293) ⟨by omega, by omega⟩ ⟨dL_1293, rfl, rfl⟩ (kk B μ' ν' jr)
theorem k_undo (C : LC X b L xs x) (hi : i + 6 ≤ L) (I : LJ X x Shx Shm top μ ν cs ss) (kk : ∀ (B : Bool) (μ' ν' : zM), JR x (x + 573) (topN B top) μ' ν' → lZ X (lP (zDo X) x (shN B Shx top) Shm (topN B top) μ' ν') (cs + 261) (ss + 1976) 1406 (lvL b x i) []) : lZ X (lP (zDo X) x Shx Shm top μ ν) cs ss 1298 (lvL b x i) [] := by
  obtain ⟨j, hk, hO, hm, hc, hs⟩ := I
  obtain ⟨r, B, μ', ν', e1, e2, jr⟩ := q_undo j
  refine l_aload_n C.1 (k := 1) (i := 1) rfl rfl ⟨dL_1298, rfl⟩ ?_
  refine l_cx C (pc := 1299) (As := []) (c11_undo (zLo X) (zDa (zDo X) (Ax x)) Shx top x  μ r B μ' hk e1) hk vL11_undo lL_173 rfl ⟨rfl, rfl, rfl, rfl⟩ ⟨by omega, by omega⟩ rfl dL_1299 ?_
  refine l_aload_n C.1 (k := 2) (i := 2) (pc := 1302) rfl rfl ⟨dL_1302, rfl⟩ ?_
  refine l_cm C (pc := 1303) (As := []) (c12_undo (zLo X) (zDa (zDo X) (Am x)) Shm (topN B top) hO (x + 573)  ν r ν' hm e2) hm vL12_undo lL_176 rfl ⟨rfl, rfl, rfl, rfl⟩ ⟨by omega, by omega⟩ rfl dL_1303 ?_
  exact l_eq C (pc := 1306) ⟨by omega, by omega⟩ ⟨dL_1306, rfl, rfl⟩ (kk B μ' ν' jr)
theorem k_seed (C : LC X b L xs x) (hi : i + 6 ≤ L) (I : LJ X x Shx Shm top μ ν cs ss) (kk : ∀ (B : Bool) (μ' ν' : zM), JR x (x + 573) (topN B top) μ' ν' → lZ X (lP (zDo X) x (shN B Shx top) Shm (topN B top) μ' ν') (cs + 261) (ss + 1976) 1406 (lvL b x i) []) : lZ X (lP (zDo X) x Shx Shm top μ ν) cs ss 1311 (lvL b x i) [] := by
  obtain ⟨j, hk, hO, hm, hc, hs⟩ := I
  obtain ⟨r, μ', ν', e1, e2, jr⟩ := q_seed j (xs (i + 1))
  refine l_aload_n C.1 (k := 1) (i := 1) rfl rfl ⟨dL_1311, rfl⟩ ?_
  refine l_a C hi (j := 1) (n := 1) (pc := 1312) (by decide) (by omega) dL_1312 dL_1313 dL_1314 dL_1315 dL_1316 ?_
  refine l_cx C (pc := 1317) (As := [.int (xs (i + 1))]) (c11_seed (zLo X) (zDa (zDo X) (Ax x)) Shx top hk.1 x (xs (i + 1)) μ r μ' hk.2.2.2.2 e1) hk vL11_seed lL_177 rfl ⟨rfl, rfl, rfl, rfl⟩ ⟨by omega, by omega⟩ rfl dL_1317 ?_
  refine l_aload_n C.1 (k := 2) (i := 2) (pc := 1320) rfl rfl ⟨dL_1320, rfl⟩ ?_
  refine l_a C hi (j := 1) (n := 1) (pc := 1321) (by decide) (by omega) dL_1321 dL_1322 dL_1323 dL_1324 dL_1325 ?_
  refine l_cm C (pc := 1326) (As := [.int (xs (i + 1))]) (c12_seed (zLo X) (zDa (zDo X) (Am x)) Shm top hO (x + 573) (xs (i + 1)) ν r ν' hm e2) hm vL12_seed lL_180 rfl ⟨rfl, rfl, rfl, rfl⟩ ⟨by omega, by omega⟩ rfl dL_1326 ?_
  exact l_eq C (pc := 1329) ⟨by omega, by omega⟩ ⟨dL_1329, rfl, rfl⟩ (kk false μ' ν' jr)
theorem k_image (C : LC X b L xs x) (hi : i + 6 ≤ L) (I : LJ X x Shx Shm top μ ν cs ss) (kk : ∀ (B : Bool) (μ' ν' : zM), JR x (x + 573) (topN B top) μ' ν' → lZ X (lP (zDo X) x (shN B Shx top) Shm (topN B top) μ' ν') (cs + 261) (ss + 1976) 1406 (lvL b x i) []) : lZ X (lP (zDo X) x Shx Shm top μ ν) cs ss 1334 (lvL b x i) [] := by
  obtain ⟨j, hk, hO, hm, hc, hs⟩ := I
  obtain ⟨r, μ', ν', e1, e2, jr⟩ := q_image j
  refine l_aload_n C.1 (k := 1) (i := 1) rfl rfl ⟨dL_1334, rfl⟩ ?_
  refine l_cx C (pc := 1335) (As := []) (c11_image (zLo X) (zDa (zDo X) (Ax x)) Shx top hk.1 x  μ r μ' hk.2.2.2.2 e1) hk vL11_image lL_181 rfl ⟨rfl, rfl, rfl, rfl⟩ ⟨by omega, by omega⟩ rfl dL_1335 ?_
  refine l_aload_n C.1 (k := 2) (i := 2) (pc := 1338) rfl rfl ⟨dL_1338, rfl⟩ ?_
  refine l_cm C (pc := 1339) (As := []) (c12_image (zLo X) (zDa (zDo X) (Am x)) Shm top hO (x + 573)  ν r ν' hm e2) hm vL12_image lL_184 rfl ⟨rfl, rfl, rfl, rfl⟩ ⟨by omega, by omega⟩ rfl dL_1339 ?_
  exact l_eq C (pc := 1342) ⟨by omega, by omega⟩ ⟨dL_1342, rfl, rfl⟩ (kk false μ' ν' jr)
theorem k_octet (C : LC X b L xs x) (hi : i + 6 ≤ L) (I : LJ X x Shx Shm top μ ν cs ss) (kk : ∀ (B : Bool) (μ' ν' : zM), JR x (x + 573) (topN B top) μ' ν' → lZ X (lP (zDo X) x (shN B Shx top) Shm (topN B top) μ' ν') (cs + 261) (ss + 1976) 1406 (lvL b x i) []) : lZ X (lP (zDo X) x Shx Shm top μ ν) cs ss 1347 (lvL b x i) [] := by
  obtain ⟨j, hk, hO, hm, hc, hs⟩ := I
  obtain ⟨r, e1, e2⟩ := q_octet1 j (xs (i + 1))
  refine l_aload_n C.1 (k := 1) (i := 1) rfl rfl ⟨dL_1347, rfl⟩ ?_
  refine l_a C hi (j := 1) (n := 1) (pc := 1348) (by decide) (by omega) dL_1348 dL_1349 dL_1350 dL_1351 dL_1352 ?_
  refine l_cx C (pc := 1353) (As := [.int (xs (i + 1))]) (c11_octet (zLo X) (zDa (zDo X) (Ax x)) Shx top hk.1 x (xs (i + 1)) μ r hk.2.2.2.2 e1) hk vL11_octet lL_185 rfl ⟨rfl, rfl, rfl, rfl⟩ ⟨by omega, by omega⟩ rfl dL_1353 ?_
  refine l_aload_n C.1 (k := 2) (i := 2) (pc := 1356) rfl rfl ⟨dL_1356, rfl⟩ ?_
  refine l_a C hi (j := 1) (n := 1) (pc := 1357) (by decide) (by omega) dL_1357 dL_1358 dL_1359 dL_1360 dL_1361 ?_
  refine l_cm C (pc := 1362) (As := [.int (xs (i + 1))]) (c12_octet (zLo X) (zDa (zDo X) (Am x)) Shm top hO (x + 573) (xs (i + 1)) ν r hm e2) hm vL12_octet lL_188 rfl ⟨rfl, rfl, rfl, rfl⟩ ⟨by omega, by omega⟩ rfl dL_1362 ?_
  exact l_eq C (pc := 1365) ⟨by omega, by omega⟩ ⟨dL_1365, rfl, rfl⟩ (kk false μ ν j)
theorem k_on (C : LC X b L xs x) (hi : i + 6 ≤ L) (I : LJ X x Shx Shm top μ ν cs ss) (kk : ∀ (B : Bool) (μ' ν' : zM), JR x (x + 573) (topN B top) μ' ν' → lZ X (lP (zDo X) x (shN B Shx top) Shm (topN B top) μ' ν') (cs + 261) (ss + 1976) 1406 (lvL b x i) []) : lZ X (lP (zDo X) x Shx Shm top μ ν) cs ss 1370 (lvL b x i) [] := by
  obtain ⟨j, hk, hO, hm, hc, hs⟩ := I
  obtain ⟨r, μ', ν', e1, e2, jr⟩ := q_on j
  refine l_aload_n C.1 (k := 1) (i := 1) rfl rfl ⟨dL_1370, rfl⟩ ?_
  refine l_cx C (pc := 1371) (As := []) (c11_on (zLo X) (zDa (zDo X) (Ax x)) Shx top hk.1 x  μ r μ' hk.2.2.2.2 e1) hk vL11_on lL_189 rfl ⟨rfl, rfl, rfl, rfl⟩ ⟨by omega, by omega⟩ rfl dL_1371 ?_
  refine l_aload_n C.1 (k := 2) (i := 2) (pc := 1374) rfl rfl ⟨dL_1374, rfl⟩ ?_
  refine l_cm C (pc := 1375) (As := []) (c12_on (zLo X) (zDa (zDo X) (Am x)) Shm top hO (x + 573)  ν r ν' hm e2) hm vL12_on lL_192 rfl ⟨rfl, rfl, rfl, rfl⟩ ⟨by omega, by omega⟩ rfl dL_1375 ?_
  exact l_eq C (pc := 1378) ⟨by omega, by omega⟩ ⟨dL_1378, rfl, rfl⟩ (kk false μ' ν' jr)
theorem k_status (C : LC X b L xs x) (hi : i + 6 ≤ L) (I : LJ X x Shx Shm top μ ν cs ss) (kk : ∀ (B : Bool) (μ' ν' : zM), JR x (x + 573) (topN B top) μ' ν' → lZ X (lP (zDo X) x (shN B Shx top) Shm (topN B top) μ' ν') (cs + 261) (ss + 1976) 1406 (lvL b x i) []) : lZ X (lP (zDo X) x Shx Shm top μ ν) cs ss 1383 (lvL b x i) [] := by
  obtain ⟨j, hk, hO, hm, hc, hs⟩ := I
  obtain ⟨r, e1, e2⟩ := q_status1 j (xs (i + 1))
  refine l_aload_n C.1 (k := 1) (i := 1) rfl rfl ⟨dL_1383, rfl⟩ ?_
  refine l_a C hi (j := 1) (n := 1) (pc := 1384) (by decide) (by omega) dL_1384 dL_1385 dL_1386 dL_1387 dL_1388 ?_
  refine l_cx C (pc := 1389) (As := [.int (xs (i + 1))]) (c11_status (zLo X) (zDa (zDo X) (Ax x)) Shx top hk.1 x (xs (i + 1)) μ r hk.2.2.2.2 e1) hk vL11_status lL_193 rfl ⟨rfl, rfl, rfl, rfl⟩ ⟨by omega, by omega⟩ rfl dL_1389 ?_
  refine l_aload_n C.1 (k := 2) (i := 2) (pc := 1392) rfl rfl ⟨dL_1392, rfl⟩ ?_
  refine l_a C hi (j := 1) (n := 1) (pc := 1393) (by decide) (by omega) dL_1393 dL_1394 dL_1395 dL_1396 dL_1397 ?_
  refine l_cm C (pc := 1398) (As := [.int (xs (i + 1))]) (c12_status (zLo X) (zDa (zDo X) (Am x)) Shm top hO (x + 573) (xs (i + 1)) ν r hm e2) hm vL12_status lL_196 rfl ⟨rfl, rfl, rfl, rfl⟩ ⟨by omega, by omega⟩ rfl dL_1398 ?_
  exact l_eq C (pc := 1401) ⟨by omega, by omega⟩ ⟨dL_1401, rfl, rfl⟩ (kk false μ ν j)
end zLy
