/-! CASES: a call of the law (by program) -/
section LCASES
variable {Z : ZT} {X : XT} {nm : String} {b L i : Nat} {μ : Mu} {xs : Nat → Int32}
theorem lc_0 (E : Ent Z X (mL nm) 600000 7302249) (S : Scr Z X b L xs) (hi : i + 6 ≤ L) (V : Inv μ) (kk : ∀ μ', Inv μ' → LJ Z X 1311 (LV Z b i) [] μ') : LJ Z X 200 (LV Z b i) [] μ := by
  obtain ⟨D, im, tx, s, f, R, RM, O⟩ := V
  refine J_aload_n E dL_law_200 rfl ?_
  refine L_call (As := []) (rest := []) E dL_law_201 (x_place R O) kX11_place ⟨(Nat.le_of_ble_eq_true rfl), (Nat.le_of_ble_eq_true rfl)⟩ rfl (Nat.le_of_ble_eq_true rfl) sh0 rfl rfl w3_17 w3_18 w3_19 (fun r μ1 hp => ?_)
  obtain ⟨v1, rfl, e1, R1, F1⟩ := hp
  have RM := RM.other F1
  refine J_aload_n E dL_law_204 rfl ?_
  refine L_call (As := []) (rest := [.int _]) E dL_law_205 (y_place RM O) kX12_place ⟨(Nat.le_of_ble_eq_true rfl), (Nat.le_of_ble_eq_true rfl)⟩ rfl (Nat.le_of_ble_eq_true rfl) sh455 rfl rfl w6_43 w6_44 w6_45 (fun r μ2 hp => ?_)
  obtain ⟨v2, rfl, e2, R2, F2⟩ := hp
  refine J_icmp_eq (tgt := 1311) E dL_law_208 (by decide) (fun _ => ?_) (fun c => absurd (e1.trans e2.symm) c)
  exact kk _ ⟨_, _, _, _, _, R1.other F2, R2, (k_place O)⟩
theorem lc_1 (E : Ent Z X (mL nm) 600000 7302249) (S : Scr Z X b L xs) (hi : i + 6 ≤ L) (V : Inv μ) (kk : ∀ μ', Inv μ' → LJ Z X 1311 (LV Z b i) [] μ') : LJ Z X 213 (LV Z b i) [] μ := by
  obtain ⟨D, im, tx, s, f, R, RM, O⟩ := V
  refine J_aload_n E dL_law_213 rfl ?_
  refine L_arg E S hi (kc := 1) (by decide) dL_law_214 dL_law_215 dL_law_216 (by decide +kernel) dL_law_217 dL_law_218 ?_
  refine L_arg E S hi (kc := 2) (by decide) dL_law_219 dL_law_220 dL_law_221 (by decide +kernel) dL_law_222 dL_law_223 ?_
  refine L_arg E S hi (kc := 3) (by decide) dL_law_224 dL_law_225 dL_law_226 (by decide +kernel) dL_law_227 dL_law_228 ?_
  refine L_call (As := [.int _, .int _, .int _]) (rest := []) E dL_law_229 (x_way R O) kX11_way ⟨(Nat.le_of_ble_eq_true rfl), (Nat.le_of_ble_eq_true rfl)⟩ rfl (Nat.le_of_ble_eq_true rfl) sh0 rfl rfl w3_29 w3_30 w3_31 (fun r μ1 hp => ?_)
  obtain ⟨v1, rfl, e1, R1, F1⟩ := hp
  have RM := RM.other F1
  refine J_aload_n E dL_law_232 rfl ?_
  refine L_arg E S hi (kc := 1) (by decide) dL_law_233 dL_law_234 dL_law_235 (by decide +kernel) dL_law_236 dL_law_237 ?_
  refine L_arg E S hi (kc := 2) (by decide) dL_law_238 dL_law_239 dL_law_240 (by decide +kernel) dL_law_241 dL_law_242 ?_
  refine L_arg E S hi (kc := 3) (by decide) dL_law_243 dL_law_244 dL_law_245 (by decide +kernel) dL_law_246 dL_law_247 ?_
  refine L_call (As := [.int _, .int _, .int _]) (rest := [.int _]) E dL_law_248 (y_way RM O) kX12_way ⟨(Nat.le_of_ble_eq_true rfl), (Nat.le_of_ble_eq_true rfl)⟩ rfl (Nat.le_of_ble_eq_true rfl) sh455 rfl rfl w6_55 w6_56 w6_57 (fun r μ2 hp => ?_)
  obtain ⟨v2, rfl, e2, R2, F2⟩ := hp
  refine J_icmp_eq (tgt := 1311) E dL_law_251 (by decide) (fun _ => ?_) (fun c => absurd (e1.trans e2.symm) c)
  exact kk _ ⟨_, _, _, _, _, R1.other F2, R2, (k_way O)⟩
theorem lc_2 (E : Ent Z X (mL nm) 600000 7302249) (S : Scr Z X b L xs) (hi : i + 6 ≤ L) (V : Inv μ) (kk : ∀ μ', Inv μ' → LJ Z X 1311 (LV Z b i) [] μ') : LJ Z X 256 (LV Z b i) [] μ := by
  obtain ⟨D, im, tx, s, f, R, RM, O⟩ := V
  refine J_aload_n E dL_law_256 rfl ?_
  refine L_arg E S hi (kc := 1) (by decide) dL_law_257 dL_law_258 dL_law_259 (by decide +kernel) dL_law_260 dL_law_261 ?_
  refine L_arg E S hi (kc := 2) (by decide) dL_law_262 dL_law_263 dL_law_264 (by decide +kernel) dL_law_265 dL_law_266 ?_
  refine L_call (As := [.int _, .int _]) (rest := []) E dL_law_267 (x_sees R O) kX11_sees ⟨(Nat.le_of_ble_eq_true rfl), (Nat.le_of_ble_eq_true rfl)⟩ rfl (Nat.le_of_ble_eq_true rfl) sh0 rfl rfl w3_48 w3_49 w3_50 (fun r μ1 hp => ?_)
  obtain ⟨v1, rfl, e1, R1, F1⟩ := hp
  have RM := RM.other F1
  refine J_aload_n E dL_law_270 rfl ?_
  refine L_arg E S hi (kc := 1) (by decide) dL_law_271 dL_law_272 dL_law_273 (by decide +kernel) dL_law_274 dL_law_275 ?_
  refine L_arg E S hi (kc := 2) (by decide) dL_law_276 dL_law_277 dL_law_278 (by decide +kernel) dL_law_279 dL_law_280 ?_
  refine L_call (As := [.int _, .int _]) (rest := [.int _]) E dL_law_281 (y_sees RM O) kX12_sees ⟨(Nat.le_of_ble_eq_true rfl), (Nat.le_of_ble_eq_true rfl)⟩ rfl (Nat.le_of_ble_eq_true rfl) sh455 rfl rfl w6_70 w6_71 w6_72 (fun r μ2 hp => ?_)
  obtain ⟨v2, rfl, e2, R2, F2⟩ := hp
  refine J_icmp_eq (tgt := 1311) E dL_law_284 (by decide) (fun _ => ?_) (fun c => absurd (e1.trans e2.symm) c)
  exact kk _ ⟨_, _, _, _, _, R1.other F2, R2, (k_sees O)⟩
theorem lc_3 (E : Ent Z X (mL nm) 600000 7302249) (S : Scr Z X b L xs) (hi : i + 6 ≤ L) (V : Inv μ) (kk : ∀ μ', Inv μ' → LJ Z X 1311 (LV Z b i) [] μ') : LJ Z X 289 (LV Z b i) [] μ := by
  obtain ⟨D, im, tx, s, f, R, RM, O⟩ := V
  refine J_aload_n E dL_law_289 rfl ?_
  refine L_arg E S hi (kc := 1) (by decide) dL_law_290 dL_law_291 dL_law_292 (by decide +kernel) dL_law_293 dL_law_294 ?_
  suffices k0 : ∀ r : Int32, r = (if xs (i + 1) = 0 then nI 0 else nI 1) → LJ Z X 303 (LV Z b i) [.int r, xrf Z] μ by
    refine J_if_eq (tgt := 302) E dL_law_295 (by decide) (fun c => ?_) (fun c => ?_)
    · refine J_iconst (v := nI 0) E dL_law_302 (by decide +kernel) ?_
      exact k0 (nI 0) (by rw [if_pos c])
    · refine J_iconst (v := nI 1) E dL_law_298 (by decide +kernel) ?_
      refine J_goto (tgt := 303) E dL_law_299 (by decide) ?_
      exact k0 (nI 1) (by rw [if_neg c])
  intro r0 er0
  refine L_arg E S hi (kc := 2) (by decide) dL_law_303 dL_law_304 dL_law_305 (by decide +kernel) dL_law_306 dL_law_307 ?_
  refine L_arg E S hi (kc := 3) (by decide) dL_law_308 dL_law_309 dL_law_310 (by decide +kernel) dL_law_311 dL_law_312 ?_
  refine L_arg E S hi (kc := 4) (by decide) dL_law_313 dL_law_314 dL_law_315 (by decide +kernel) dL_law_316 dL_law_317 ?_
  refine L_arg E S hi (kc := 5) (by decide) dL_law_318 dL_law_319 dL_law_320 (by decide +kernel) dL_law_321 dL_law_322 ?_
  refine L_call (As := [.int _, .int _, .int _, .int _, .int _]) (rest := []) E dL_law_323 (x_child R O) kX11_child ⟨(Nat.le_of_ble_eq_true rfl), (Nat.le_of_ble_eq_true rfl)⟩ rfl (Nat.le_of_ble_eq_true rfl) sh0 rfl rfl w3_56 w3_57 w3_58 (fun r μ1 hp => ?_)
  obtain ⟨v1, rfl, e1, R1, F1⟩ := hp
  have RM := RM.other F1
  refine J_aload_n E dL_law_326 rfl ?_
  refine L_arg E S hi (kc := 1) (by decide) dL_law_327 dL_law_328 dL_law_329 (by decide +kernel) dL_law_330 dL_law_331 ?_
  suffices k1 : ∀ r : Int32, r = (if xs (i + 1) = 0 then nI 0 else nI 1) → LJ Z X 340 (LV Z b i) [.int r, mrf Z, .int v1] μ1 by
    refine J_if_eq (tgt := 339) E dL_law_332 (by decide) (fun c => ?_) (fun c => ?_)
    · refine J_iconst (v := nI 0) E dL_law_339 (by decide +kernel) ?_
      exact k1 (nI 0) (by rw [if_pos c])
    · refine J_iconst (v := nI 1) E dL_law_335 (by decide +kernel) ?_
      refine J_goto (tgt := 340) E dL_law_336 (by decide) ?_
      exact k1 (nI 1) (by rw [if_neg c])
  intro r1 er1
  have er : r1 = r0 := er1.trans er0.symm
  subst er
  refine L_arg E S hi (kc := 2) (by decide) dL_law_340 dL_law_341 dL_law_342 (by decide +kernel) dL_law_343 dL_law_344 ?_
  refine L_arg E S hi (kc := 3) (by decide) dL_law_345 dL_law_346 dL_law_347 (by decide +kernel) dL_law_348 dL_law_349 ?_
  refine L_arg E S hi (kc := 4) (by decide) dL_law_350 dL_law_351 dL_law_352 (by decide +kernel) dL_law_353 dL_law_354 ?_
  refine L_arg E S hi (kc := 5) (by decide) dL_law_355 dL_law_356 dL_law_357 (by decide +kernel) dL_law_358 dL_law_359 ?_
  refine L_call (As := [.int _, .int _, .int _, .int _, .int _]) (rest := [.int _]) E dL_law_360 (y_child RM O) kX12_child ⟨(Nat.le_of_ble_eq_true rfl), (Nat.le_of_ble_eq_true rfl)⟩ rfl (Nat.le_of_ble_eq_true rfl) sh455 rfl rfl w6_82 w6_83 w6_84 (fun r μ2 hp => ?_)
  obtain ⟨v2, rfl, e2, R2, F2⟩ := hp
  refine J_icmp_eq (tgt := 1311) E dL_law_363 (by decide) (fun _ => ?_) (fun c => absurd (e1.trans e2.symm) c)
  exact kk _ ⟨_, _, _, _, _, R1.other F2, R2, (k_child O)⟩
theorem lc_4 (E : Ent Z X (mL nm) 600000 7302249) (S : Scr Z X b L xs) (hi : i + 6 ≤ L) (V : Inv μ) (kk : ∀ μ', Inv μ' → LJ Z X 1311 (LV Z b i) [] μ') : LJ Z X 368 (LV Z b i) [] μ := by
  obtain ⟨D, im, tx, s, f, R, RM, O⟩ := V
  refine J_aload_n E dL_law_368 rfl ?_
  refine L_arg E S hi (kc := 1) (by decide) dL_law_369 dL_law_370 dL_law_371 (by decide +kernel) dL_law_372 dL_law_373 ?_
  refine L_arg E S hi (kc := 2) (by decide) dL_law_374 dL_law_375 dL_law_376 (by decide +kernel) dL_law_377 dL_law_378 ?_
  refine L_call (As := [.int _, .int _]) (rest := []) E dL_law_379 (x_bar R O) kX11_bar ⟨(Nat.le_of_ble_eq_true rfl), (Nat.le_of_ble_eq_true rfl)⟩ rfl (Nat.le_of_ble_eq_true rfl) sh0 rfl rfl w3_67 w3_68 w3_69 (fun r μ1 hp => ?_)
  obtain ⟨v1, rfl, e1, R1, F1⟩ := hp
  have RM := RM.other F1
  refine J_aload_n E dL_law_382 rfl ?_
  refine L_arg E S hi (kc := 1) (by decide) dL_law_383 dL_law_384 dL_law_385 (by decide +kernel) dL_law_386 dL_law_387 ?_
  refine L_arg E S hi (kc := 2) (by decide) dL_law_388 dL_law_389 dL_law_390 (by decide +kernel) dL_law_391 dL_law_392 ?_
  refine L_call (As := [.int _, .int _]) (rest := [.int _]) E dL_law_393 (y_bar RM O) kX12_bar ⟨(Nat.le_of_ble_eq_true rfl), (Nat.le_of_ble_eq_true rfl)⟩ rfl (Nat.le_of_ble_eq_true rfl) sh455 rfl rfl w6_90 w6_91 w6_92 (fun r μ2 hp => ?_)
  obtain ⟨v2, rfl, e2, R2, F2⟩ := hp
  refine J_icmp_eq (tgt := 1311) E dL_law_396 (by decide) (fun _ => ?_) (fun c => absurd (e1.trans e2.symm) c)
  exact kk _ ⟨_, _, _, _, _, R1.other F2, R2, (k_bar O)⟩
theorem lc_5 (E : Ent Z X (mL nm) 600000 7302249) (S : Scr Z X b L xs) (hi : i + 6 ≤ L) (V : Inv μ) (kk : ∀ μ', Inv μ' → LJ Z X 1311 (LV Z b i) [] μ') : LJ Z X 401 (LV Z b i) [] μ := by
  obtain ⟨D, im, tx, s, f, R, RM, O⟩ := V
  refine J_aload_n E dL_law_401 rfl ?_
  refine L_arg E S hi (kc := 1) (by decide) dL_law_402 dL_law_403 dL_law_404 (by decide +kernel) dL_law_405 dL_law_406 ?_
  refine L_arg E S hi (kc := 2) (by decide) dL_law_407 dL_law_408 dL_law_409 (by decide +kernel) dL_law_410 dL_law_411 ?_
  refine L_call (As := [.int _, .int _]) (rest := []) E dL_law_412 (x_join R O) kX11_join ⟨(Nat.le_of_ble_eq_true rfl), (Nat.le_of_ble_eq_true rfl)⟩ rfl (Nat.le_of_ble_eq_true rfl) sh0 rfl rfl w3_75 w3_76 w3_77 (fun r μ1 hp => ?_)
  obtain ⟨v1, rfl, e1, R1, F1⟩ := hp
  have RM := RM.other F1
  refine J_aload_n E dL_law_415 rfl ?_
  refine L_arg E S hi (kc := 1) (by decide) dL_law_416 dL_law_417 dL_law_418 (by decide +kernel) dL_law_419 dL_law_420 ?_
  refine L_arg E S hi (kc := 2) (by decide) dL_law_421 dL_law_422 dL_law_423 (by decide +kernel) dL_law_424 dL_law_425 ?_
  refine L_call (As := [.int _, .int _]) (rest := [.int _]) E dL_law_426 (y_join RM O) kX12_join ⟨(Nat.le_of_ble_eq_true rfl), (Nat.le_of_ble_eq_true rfl)⟩ rfl (Nat.le_of_ble_eq_true rfl) sh455 rfl rfl w6_102 w6_103 w6_104 (fun r μ2 hp => ?_)
  obtain ⟨v2, rfl, e2, R2, F2⟩ := hp
  refine J_icmp_eq (tgt := 1311) E dL_law_429 (by decide) (fun _ => ?_) (fun c => absurd (e1.trans e2.symm) c)
  exact kk _ ⟨_, _, _, _, _, R1.other F2, R2, (k_join O)⟩
theorem lc_6 (E : Ent Z X (mL nm) 600000 7302249) (S : Scr Z X b L xs) (hi : i + 6 ≤ L) (V : Inv μ) (kk : ∀ μ', Inv μ' → LJ Z X 1311 (LV Z b i) [] μ') : LJ Z X 434 (LV Z b i) [] μ := by
  obtain ⟨D, im, tx, s, f, R, RM, O⟩ := V
  refine J_aload_n E dL_law_434 rfl ?_
  refine L_arg E S hi (kc := 1) (by decide) dL_law_435 dL_law_436 dL_law_437 (by decide +kernel) dL_law_438 dL_law_439 ?_
  refine L_arg E S hi (kc := 2) (by decide) dL_law_440 dL_law_441 dL_law_442 (by decide +kernel) dL_law_443 dL_law_444 ?_
  refine L_call (As := [.int _, .int _]) (rest := []) E dL_law_445 (x_slip R O) kX11_slip ⟨(Nat.le_of_ble_eq_true rfl), (Nat.le_of_ble_eq_true rfl)⟩ rfl (Nat.le_of_ble_eq_true rfl) sh0 rfl rfl w3_83 w3_84 w3_85 (fun r μ1 hp => ?_)
  obtain ⟨v1, rfl, e1, R1, F1⟩ := hp
  have RM := RM.other F1
  refine J_aload_n E dL_law_448 rfl ?_
  refine L_arg E S hi (kc := 1) (by decide) dL_law_449 dL_law_450 dL_law_451 (by decide +kernel) dL_law_452 dL_law_453 ?_
  refine L_arg E S hi (kc := 2) (by decide) dL_law_454 dL_law_455 dL_law_456 (by decide +kernel) dL_law_457 dL_law_458 ?_
  refine L_call (As := [.int _, .int _]) (rest := [.int _]) E dL_law_459 (y_slip RM O) kX12_slip ⟨(Nat.le_of_ble_eq_true rfl), (Nat.le_of_ble_eq_true rfl)⟩ rfl (Nat.le_of_ble_eq_true rfl) sh455 rfl rfl w6_106 w6_107 w6_108 (fun r μ2 hp => ?_)
  obtain ⟨v2, rfl, e2, R2, F2⟩ := hp
  refine J_icmp_eq (tgt := 1311) E dL_law_462 (by decide) (fun _ => ?_) (fun c => absurd (e1.trans e2.symm) c)
  exact kk _ ⟨_, _, _, _, _, R1.other F2, R2, (k_slip O)⟩
theorem lc_7 (E : Ent Z X (mL nm) 600000 7302249) (S : Scr Z X b L xs) (hi : i + 6 ≤ L) (V : Inv μ) (kk : ∀ μ', Inv μ' → LJ Z X 1311 (LV Z b i) [] μ') : LJ Z X 467 (LV Z b i) [] μ := by
  obtain ⟨D, im, tx, s, f, R, RM, O⟩ := V
  refine J_aload_n E dL_law_467 rfl ?_
  refine L_arg E S hi (kc := 1) (by decide) dL_law_468 dL_law_469 dL_law_470 (by decide +kernel) dL_law_471 dL_law_472 ?_
  refine L_call (As := [.int _]) (rest := []) E dL_law_473 (x_spare R O) kX11_spare ⟨(Nat.le_of_ble_eq_true rfl), (Nat.le_of_ble_eq_true rfl)⟩ rfl (Nat.le_of_ble_eq_true rfl) sh0 rfl rfl w3_91 w3_92 w3_93 (fun r μ1 hp => ?_)
  obtain ⟨v1, rfl, e1, R1, F1⟩ := hp
  have RM := RM.other F1
  refine J_aload_n E dL_law_476 rfl ?_
  refine L_arg E S hi (kc := 1) (by decide) dL_law_477 dL_law_478 dL_law_479 (by decide +kernel) dL_law_480 dL_law_481 ?_
  refine L_call (As := [.int _]) (rest := [.int _]) E dL_law_482 (y_spare RM O) kX12_spare ⟨(Nat.le_of_ble_eq_true rfl), (Nat.le_of_ble_eq_true rfl)⟩ rfl (Nat.le_of_ble_eq_true rfl) sh455 rfl rfl w6_114 w6_115 w6_116 (fun r μ2 hp => ?_)
  obtain ⟨v2, rfl, e2, R2, F2⟩ := hp
  refine J_icmp_eq (tgt := 1311) E dL_law_485 (by decide) (fun _ => ?_) (fun c => absurd (e1.trans e2.symm) c)
  exact kk _ ⟨_, _, _, _, _, R1.other F2, R2, (k_spare O)⟩
theorem lc_8 (E : Ent Z X (mL nm) 600000 7302249) (S : Scr Z X b L xs) (hi : i + 6 ≤ L) (V : Inv μ) (kk : ∀ μ', Inv μ' → LJ Z X 1311 (LV Z b i) [] μ') : LJ Z X 490 (LV Z b i) [] μ := by
  obtain ⟨D, im, tx, s, f, R, RM, O⟩ := V
  refine J_aload_n E dL_law_490 rfl ?_
  refine L_arg E S hi (kc := 1) (by decide) dL_law_491 dL_law_492 dL_law_493 (by decide +kernel) dL_law_494 dL_law_495 ?_
  refine L_arg E S hi (kc := 2) (by decide) dL_law_496 dL_law_497 dL_law_498 (by decide +kernel) dL_law_499 dL_law_500 ?_
  refine L_call (As := [.int _, .int _]) (rest := []) E dL_law_501 (x_means R O) kX11_means ⟨(Nat.le_of_ble_eq_true rfl), (Nat.le_of_ble_eq_true rfl)⟩ rfl (Nat.le_of_ble_eq_true rfl) sh0 rfl rfl w3_99 w3_100 w3_101 (fun r μ1 hp => ?_)
  obtain ⟨v1, rfl, e1, R1, F1⟩ := hp
  have RM := RM.other F1
  refine J_aload_n E dL_law_504 rfl ?_
  refine L_arg E S hi (kc := 1) (by decide) dL_law_505 dL_law_506 dL_law_507 (by decide +kernel) dL_law_508 dL_law_509 ?_
  refine L_arg E S hi (kc := 2) (by decide) dL_law_510 dL_law_511 dL_law_512 (by decide +kernel) dL_law_513 dL_law_514 ?_
  refine L_call (As := [.int _, .int _]) (rest := [.int _]) E dL_law_515 (y_means RM O) kX12_means ⟨(Nat.le_of_ble_eq_true rfl), (Nat.le_of_ble_eq_true rfl)⟩ rfl (Nat.le_of_ble_eq_true rfl) sh455 rfl rfl w6_122 w6_123 w6_124 (fun r μ2 hp => ?_)
  obtain ⟨v2, rfl, e2, R2, F2⟩ := hp
  refine J_icmp_eq (tgt := 1311) E dL_law_518 (by decide) (fun _ => ?_) (fun c => absurd (e1.trans e2.symm) c)
  exact kk _ ⟨_, _, _, _, _, R1.other F2, R2, (k_means O)⟩
theorem lc_9 (E : Ent Z X (mL nm) 600000 7302249) (S : Scr Z X b L xs) (hi : i + 6 ≤ L) (V : Inv μ) (kk : ∀ μ', Inv μ' → LJ Z X 1311 (LV Z b i) [] μ') : LJ Z X 523 (LV Z b i) [] μ := by
  obtain ⟨D, im, tx, s, f, R, RM, O⟩ := V
  refine J_aload_n E dL_law_523 rfl ?_
  refine L_arg E S hi (kc := 1) (by decide) dL_law_524 dL_law_525 dL_law_526 (by decide +kernel) dL_law_527 dL_law_528 ?_
  refine L_arg E S hi (kc := 2) (by decide) dL_law_529 dL_law_530 dL_law_531 (by decide +kernel) dL_law_532 dL_law_533 ?_
  refine L_call (As := [.int _, .int _]) (rest := []) E dL_law_534 (x_row R O) kX11_row ⟨(Nat.le_of_ble_eq_true rfl), (Nat.le_of_ble_eq_true rfl)⟩ rfl (Nat.le_of_ble_eq_true rfl) sh0 rfl rfl w3_107 w3_108 w3_109 (fun r μ1 hp => ?_)
  obtain ⟨v1, rfl, e1, R1, F1⟩ := hp
  have RM := RM.other F1
  refine J_aload_n E dL_law_537 rfl ?_
  refine L_arg E S hi (kc := 1) (by decide) dL_law_538 dL_law_539 dL_law_540 (by decide +kernel) dL_law_541 dL_law_542 ?_
  refine L_arg E S hi (kc := 2) (by decide) dL_law_543 dL_law_544 dL_law_545 (by decide +kernel) dL_law_546 dL_law_547 ?_
  refine L_call (As := [.int _, .int _]) (rest := [.int _]) E dL_law_548 (y_row RM O) kX12_row ⟨(Nat.le_of_ble_eq_true rfl), (Nat.le_of_ble_eq_true rfl)⟩ rfl (Nat.le_of_ble_eq_true rfl) sh455 rfl rfl w6_130 w6_131 w6_132 (fun r μ2 hp => ?_)
  obtain ⟨v2, rfl, e2, R2, F2⟩ := hp
  refine J_icmp_eq (tgt := 1311) E dL_law_551 (by decide) (fun _ => ?_) (fun c => absurd (e1.trans e2.symm) c)
  exact kk _ ⟨_, _, _, _, _, R1.other F2, R2, (k_row O)⟩
theorem lc_10 (E : Ent Z X (mL nm) 600000 7302249) (S : Scr Z X b L xs) (hi : i + 6 ≤ L) (V : Inv μ) (kk : ∀ μ', Inv μ' → LJ Z X 1311 (LV Z b i) [] μ') : LJ Z X 556 (LV Z b i) [] μ := by
  obtain ⟨D, im, tx, s, f, R, RM, O⟩ := V
  refine J_aload_n E dL_law_556 rfl ?_
  refine L_arg E S hi (kc := 1) (by decide) dL_law_557 dL_law_558 dL_law_559 (by decide +kernel) dL_law_560 dL_law_561 ?_
  refine L_call (As := [.int _]) (rest := []) E dL_law_562 (x_unrow R O) kX11_unrow ⟨(Nat.le_of_ble_eq_true rfl), (Nat.le_of_ble_eq_true rfl)⟩ rfl (Nat.le_of_ble_eq_true rfl) sh0 rfl rfl w3_115 w3_116 w3_117 (fun r μ1 hp => ?_)
  obtain ⟨v1, rfl, e1, R1, F1⟩ := hp
  have RM := RM.other F1
  refine J_aload_n E dL_law_565 rfl ?_
  refine L_arg E S hi (kc := 1) (by decide) dL_law_566 dL_law_567 dL_law_568 (by decide +kernel) dL_law_569 dL_law_570 ?_
  refine L_call (As := [.int _]) (rest := [.int _]) E dL_law_571 (y_unrow RM O) kX12_unrow ⟨(Nat.le_of_ble_eq_true rfl), (Nat.le_of_ble_eq_true rfl)⟩ rfl (Nat.le_of_ble_eq_true rfl) sh455 rfl rfl w6_141 w6_142 w6_143 (fun r μ2 hp => ?_)
  obtain ⟨v2, rfl, e2, R2, F2⟩ := hp
  refine J_icmp_eq (tgt := 1311) E dL_law_574 (by decide) (fun _ => ?_) (fun c => absurd (e1.trans e2.symm) c)
  exact kk _ ⟨_, _, _, _, _, R1.other F2, R2, (k_unrow O)⟩
theorem lc_11 (E : Ent Z X (mL nm) 600000 7302249) (S : Scr Z X b L xs) (hi : i + 6 ≤ L) (V : Inv μ) (kk : ∀ μ', Inv μ' → LJ Z X 1311 (LV Z b i) [] μ') : LJ Z X 579 (LV Z b i) [] μ := by
  obtain ⟨D, im, tx, s, f, R, RM, O⟩ := V
  refine J_aload_n E dL_law_579 rfl ?_
  refine L_arg E S hi (kc := 1) (by decide) dL_law_580 dL_law_581 dL_law_582 (by decide +kernel) dL_law_583 dL_law_584 ?_
  refine L_arg E S hi (kc := 2) (by decide) dL_law_585 dL_law_586 dL_law_587 (by decide +kernel) dL_law_588 dL_law_589 ?_
  refine L_call (As := [.int _, .int _]) (rest := []) E dL_law_590 (x_put R O) kX11_put ⟨(Nat.le_of_ble_eq_true rfl), (Nat.le_of_ble_eq_true rfl)⟩ rfl (Nat.le_of_ble_eq_true rfl) sh0 rfl rfl w3_123 w3_124 w3_125 (fun r μ1 hp => ?_)
  obtain ⟨v1, rfl, e1, R1, F1⟩ := hp
  have RM := RM.other F1
  refine J_aload_n E dL_law_593 rfl ?_
  refine L_arg E S hi (kc := 1) (by decide) dL_law_594 dL_law_595 dL_law_596 (by decide +kernel) dL_law_597 dL_law_598 ?_
  refine L_arg E S hi (kc := 2) (by decide) dL_law_599 dL_law_600 dL_law_601 (by decide +kernel) dL_law_602 dL_law_603 ?_
  refine L_call (As := [.int _, .int _]) (rest := [.int _]) E dL_law_604 (y_put RM O) kX12_put ⟨(Nat.le_of_ble_eq_true rfl), (Nat.le_of_ble_eq_true rfl)⟩ rfl (Nat.le_of_ble_eq_true rfl) sh455 rfl rfl w6_145 w6_146 w6_147 (fun r μ2 hp => ?_)
  obtain ⟨v2, rfl, e2, R2, F2⟩ := hp
  refine J_icmp_eq (tgt := 1311) E dL_law_607 (by decide) (fun _ => ?_) (fun c => absurd (e1.trans e2.symm) c)
  exact kk _ ⟨_, _, _, _, _, R1.other F2, R2, (k_put O)⟩
theorem lc_12 (E : Ent Z X (mL nm) 600000 7302249) (S : Scr Z X b L xs) (hi : i + 6 ≤ L) (V : Inv μ) (kk : ∀ μ', Inv μ' → LJ Z X 1311 (LV Z b i) [] μ') : LJ Z X 612 (LV Z b i) [] μ := by
  obtain ⟨D, im, tx, s, f, R, RM, O⟩ := V
  refine J_aload_n E dL_law_612 rfl ?_
  refine L_arg E S hi (kc := 1) (by decide) dL_law_613 dL_law_614 dL_law_615 (by decide +kernel) dL_law_616 dL_law_617 ?_
  refine J_i2l E dL_law_618 ?_
  refine J_bipush (v := nI 32) E dL_law_619 (by decide +kernel) ?_
  refine J_lshl E dL_law_621 ?_
  refine L_arg E S hi (kc := 2) (by decide) dL_law_622 dL_law_623 dL_law_624 (by decide +kernel) dL_law_625 dL_law_626 ?_
  refine J_i2l E dL_law_627 ?_
  refine J_ldc2 E dL_law_628 w7_213 ?_
  refine J_land E dL_law_631 ?_
  refine J_lor E dL_law_632 ?_
  refine L_arg E S hi (kc := 3) (by decide) dL_law_633 dL_law_634 dL_law_635 (by decide +kernel) dL_law_636 dL_law_637 ?_
  refine L_call (As := [.long _, .int _]) (rest := []) E dL_law_638 (x_type R O) kX11_type ⟨(Nat.le_of_ble_eq_true rfl), (Nat.le_of_ble_eq_true rfl)⟩ rfl (Nat.le_of_ble_eq_true rfl) sh0 rfl rfl w3_136 w3_137 w3_138 (fun r μ1 hp => ?_)
  obtain ⟨v1, rfl, e1, R1, F1⟩ := hp
  have RM := RM.other F1
  refine J_aload_n E dL_law_641 rfl ?_
  refine L_arg E S hi (kc := 1) (by decide) dL_law_642 dL_law_643 dL_law_644 (by decide +kernel) dL_law_645 dL_law_646 ?_
  refine J_i2l E dL_law_647 ?_
  refine J_bipush (v := nI 32) E dL_law_648 (by decide +kernel) ?_
  refine J_lshl E dL_law_650 ?_
  refine L_arg E S hi (kc := 2) (by decide) dL_law_651 dL_law_652 dL_law_653 (by decide +kernel) dL_law_654 dL_law_655 ?_
  refine J_i2l E dL_law_656 ?_
  refine J_ldc2 E dL_law_657 w7_213 ?_
  refine J_land E dL_law_660 ?_
  refine J_lor E dL_law_661 ?_
  refine L_arg E S hi (kc := 3) (by decide) dL_law_662 dL_law_663 dL_law_664 (by decide +kernel) dL_law_665 dL_law_666 ?_
  refine L_call (As := [.long _, .int _]) (rest := [.int _]) E dL_law_667 (y_type RM O) kX12_type ⟨(Nat.le_of_ble_eq_true rfl), (Nat.le_of_ble_eq_true rfl)⟩ rfl (Nat.le_of_ble_eq_true rfl) sh455 rfl rfl w6_149 w6_150 w6_151 (fun r μ2 hp => ?_)
  obtain ⟨v2, rfl, e2, R2, F2⟩ := hp
  refine J_icmp_eq (tgt := 1311) E dL_law_670 (by decide) (fun _ => ?_) (fun c => absurd (e1.trans e2.symm) c)
  exact kk _ ⟨_, _, _, _, _, R1.other F2, R2, (k_type O)⟩
theorem lc_13 (E : Ent Z X (mL nm) 600000 7302249) (S : Scr Z X b L xs) (hi : i + 6 ≤ L) (V : Inv μ) (kk : ∀ μ', Inv μ' → LJ Z X 1311 (LV Z b i) [] μ') : LJ Z X 675 (LV Z b i) [] μ := by
  obtain ⟨D, im, tx, s, f, R, RM, O⟩ := V
  refine J_aload_n E dL_law_675 rfl ?_
  refine L_call (As := []) (rest := []) E dL_law_676 (x_clear R) kX11_clear ⟨(Nat.le_of_ble_eq_true rfl), (Nat.le_of_ble_eq_true rfl)⟩ rfl (Nat.le_of_ble_eq_true rfl) sh0 rfl rfl w3_145 w3_146 w3_147 (fun r μ1 hp => ?_)
  obtain ⟨v1, rfl, e1, R1, F1⟩ := hp
  have RM := RM.other F1
  refine J_aload_n E dL_law_679 rfl ?_
  refine L_call (As := []) (rest := [.int _]) E dL_law_680 (y_clear RM) kX12_clear ⟨(Nat.le_of_ble_eq_true rfl), (Nat.le_of_ble_eq_true rfl)⟩ rfl (Nat.le_of_ble_eq_true rfl) sh455 rfl rfl w6_154 w6_155 w6_156 (fun r μ2 hp => ?_)
  obtain ⟨v2, rfl, e2, R2, F2⟩ := hp
  refine J_icmp_eq (tgt := 1311) E dL_law_683 (by decide) (fun _ => ?_) (fun c => absurd (e1.trans e2.symm) c)
  exact kk _ ⟨_, _, _, _, _, R1.other F2, R2, (k_clear O)⟩
theorem lc_14 (E : Ent Z X (mL nm) 600000 7302249) (S : Scr Z X b L xs) (hi : i + 6 ≤ L) (V : Inv μ) (kk : ∀ μ', Inv μ' → LJ Z X 1311 (LV Z b i) [] μ') : LJ Z X 688 (LV Z b i) [] μ := by
  obtain ⟨D, im, tx, s, f, R, RM, O⟩ := V
  refine J_aload_n E dL_law_688 rfl ?_
  refine L_call (As := []) (rest := []) E dL_law_689 (x_house R O) kX11_house ⟨(Nat.le_of_ble_eq_true rfl), (Nat.le_of_ble_eq_true rfl)⟩ rfl (Nat.le_of_ble_eq_true rfl) sh0 rfl rfl w3_153 w3_154 w3_155 (fun r μ1 hp => ?_)
  obtain ⟨v1, rfl, e1, R1, F1⟩ := hp
  have RM := RM.other F1
  refine J_aload_n E dL_law_692 rfl ?_
  refine L_call (As := []) (rest := [.int _]) E dL_law_693 (y_house RM O) kX12_house ⟨(Nat.le_of_ble_eq_true rfl), (Nat.le_of_ble_eq_true rfl)⟩ rfl (Nat.le_of_ble_eq_true rfl) sh455 rfl rfl w6_158 w6_159 w6_160 (fun r μ2 hp => ?_)
  obtain ⟨v2, rfl, e2, R2, F2⟩ := hp
  refine J_icmp_eq (tgt := 1311) E dL_law_696 (by decide) (fun _ => ?_) (fun c => absurd (e1.trans e2.symm) c)
  exact kk _ ⟨_, _, _, _, _, R1.other F2, R2, (k_house O)⟩
theorem lc_15 (E : Ent Z X (mL nm) 600000 7302249) (S : Scr Z X b L xs) (hi : i + 6 ≤ L) (V : Inv μ) (kk : ∀ μ', Inv μ' → LJ Z X 1311 (LV Z b i) [] μ') : LJ Z X 701 (LV Z b i) [] μ := by
  obtain ⟨D, im, tx, s, f, R, RM, O⟩ := V
  refine J_aload_n E dL_law_701 rfl ?_
  refine L_arg E S hi (kc := 1) (by decide) dL_law_702 dL_law_703 dL_law_704 (by decide +kernel) dL_law_705 dL_law_706 ?_
  refine L_arg E S hi (kc := 2) (by decide) dL_law_707 dL_law_708 dL_law_709 (by decide +kernel) dL_law_710 dL_law_711 ?_
  refine L_call (As := [.int _, .int _]) (rest := []) E dL_law_712 (x_walk R O) kX11_walk ⟨(Nat.le_of_ble_eq_true rfl), (Nat.le_of_ble_eq_true rfl)⟩ rfl (Nat.le_of_ble_eq_true rfl) sh0 rfl rfl w4_39 w4_40 w4_41 (fun r μ1 hp => ?_)
  obtain ⟨v1, rfl, e1, R1, F1⟩ := hp
  have RM := RM.other F1
  refine J_aload_n E dL_law_715 rfl ?_
  refine L_arg E S hi (kc := 1) (by decide) dL_law_716 dL_law_717 dL_law_718 (by decide +kernel) dL_law_719 dL_law_720 ?_
  refine L_arg E S hi (kc := 2) (by decide) dL_law_721 dL_law_722 dL_law_723 (by decide +kernel) dL_law_724 dL_law_725 ?_
  refine L_call (As := [.int _, .int _]) (rest := [.int _]) E dL_law_726 (y_walk RM O) kX12_walk ⟨(Nat.le_of_ble_eq_true rfl), (Nat.le_of_ble_eq_true rfl)⟩ rfl (Nat.le_of_ble_eq_true rfl) sh455 rfl rfl w6_184 w6_185 w6_186 (fun r μ2 hp => ?_)
  obtain ⟨v2, rfl, e2, R2, F2⟩ := hp
  refine J_icmp_eq (tgt := 1311) E dL_law_729 (by decide) (fun _ => ?_) (fun c => absurd (e1.trans e2.symm) c)
  exact kk _ ⟨_, _, _, _, _, R1.other F2, R2, O⟩
theorem lc_16 (E : Ent Z X (mL nm) 600000 7302249) (S : Scr Z X b L xs) (hi : i + 6 ≤ L) (V : Inv μ) (kk : ∀ μ', Inv μ' → LJ Z X 1311 (LV Z b i) [] μ') : LJ Z X 734 (LV Z b i) [] μ := by
  obtain ⟨D, im, tx, s, f, R, RM, O⟩ := V
  refine J_aload_n E dL_law_734 rfl ?_
  refine L_arg E S hi (kc := 1) (by decide) dL_law_735 dL_law_736 dL_law_737 (by decide +kernel) dL_law_738 dL_law_739 ?_
  refine L_arg E S hi (kc := 2) (by decide) dL_law_740 dL_law_741 dL_law_742 (by decide +kernel) dL_law_743 dL_law_744 ?_
  refine L_call (As := [.int _, .int _]) (rest := []) E dL_law_745 (x_riddles R O) kX11_riddles ⟨(Nat.le_of_ble_eq_true rfl), (Nat.le_of_ble_eq_true rfl)⟩ rfl (Nat.le_of_ble_eq_true rfl) sh0 rfl rfl w4_67 w4_68 w4_69 (fun r μ1 hp => ?_)
  obtain ⟨v1, rfl, e1, R1, F1⟩ := hp
  have RM := RM.other F1
  refine J_aload_n E dL_law_748 rfl ?_
  refine L_arg E S hi (kc := 1) (by decide) dL_law_749 dL_law_750 dL_law_751 (by decide +kernel) dL_law_752 dL_law_753 ?_
  refine L_arg E S hi (kc := 2) (by decide) dL_law_754 dL_law_755 dL_law_756 (by decide +kernel) dL_law_757 dL_law_758 ?_
  refine L_call (As := [.int _, .int _]) (rest := [.int _]) E dL_law_759 (y_riddles RM O) kX12_riddles ⟨(Nat.le_of_ble_eq_true rfl), (Nat.le_of_ble_eq_true rfl)⟩ rfl (Nat.le_of_ble_eq_true rfl) sh455 rfl rfl w6_193 w6_194 w6_195 (fun r μ2 hp => ?_)
  obtain ⟨v2, rfl, e2, R2, F2⟩ := hp
  refine J_icmp_eq (tgt := 1311) E dL_law_762 (by decide) (fun _ => ?_) (fun c => absurd (e1.trans e2.symm) c)
  exact kk _ ⟨_, _, _, _, _, R1.other F2, R2, O⟩
theorem lc_17 (E : Ent Z X (mL nm) 600000 7302249) (S : Scr Z X b L xs) (hi : i + 6 ≤ L) (V : Inv μ) (kk : ∀ μ', Inv μ' → LJ Z X 1311 (LV Z b i) [] μ') : LJ Z X 767 (LV Z b i) [] μ := by
  obtain ⟨D, im, tx, s, f, R, RM, O⟩ := V
  refine J_aload_n E dL_law_767 rfl ?_
  refine L_arg E S hi (kc := 1) (by decide) dL_law_768 dL_law_769 dL_law_770 (by decide +kernel) dL_law_771 dL_law_772 ?_
  refine L_arg E S hi (kc := 2) (by decide) dL_law_773 dL_law_774 dL_law_775 (by decide +kernel) dL_law_776 dL_law_777 ?_
  refine L_call (As := [.int _, .int _]) (rest := []) E dL_law_778 (x_length R O) kX11_length ⟨(Nat.le_of_ble_eq_true rfl), (Nat.le_of_ble_eq_true rfl)⟩ rfl (Nat.le_of_ble_eq_true rfl) sh0 rfl rfl w4_151 w4_152 w4_153 (fun r μ1 hp => ?_)
  obtain ⟨v1, rfl, e1, R1, F1⟩ := hp
  have RM := RM.other F1
  refine J_aload_n E dL_law_781 rfl ?_
  refine L_arg E S hi (kc := 1) (by decide) dL_law_782 dL_law_783 dL_law_784 (by decide +kernel) dL_law_785 dL_law_786 ?_
  refine L_arg E S hi (kc := 2) (by decide) dL_law_787 dL_law_788 dL_law_789 (by decide +kernel) dL_law_790 dL_law_791 ?_
  refine L_call (As := [.int _, .int _]) (rest := [.int _]) E dL_law_792 (y_length RM O) kX12_length ⟨(Nat.le_of_ble_eq_true rfl), (Nat.le_of_ble_eq_true rfl)⟩ rfl (Nat.le_of_ble_eq_true rfl) sh455 rfl rfl w7_19 w7_20 w7_21 (fun r μ2 hp => ?_)
  obtain ⟨v2, rfl, e2, R2, F2⟩ := hp
  refine J_icmp_eq (tgt := 1311) E dL_law_795 (by decide) (fun _ => ?_) (fun c => absurd (e1.trans e2.symm) c)
  exact kk _ ⟨_, _, _, _, _, R1.other F2, R2, O⟩
theorem lc_18 (E : Ent Z X (mL nm) 600000 7302249) (S : Scr Z X b L xs) (hi : i + 6 ≤ L) (V : Inv μ) (kk : ∀ μ', Inv μ' → LJ Z X 1311 (LV Z b i) [] μ') : LJ Z X 800 (LV Z b i) [] μ := by
  obtain ⟨D, im, tx, s, f, R, RM, O⟩ := V
  refine J_aload_n E dL_law_800 rfl ?_
  refine L_arg E S hi (kc := 1) (by decide) dL_law_801 dL_law_802 dL_law_803 (by decide +kernel) dL_law_804 dL_law_805 ?_
  refine L_arg E S hi (kc := 2) (by decide) dL_law_806 dL_law_807 dL_law_808 (by decide +kernel) dL_law_809 dL_law_810 ?_
  refine L_arg E S hi (kc := 3) (by decide) dL_law_811 dL_law_812 dL_law_813 (by decide +kernel) dL_law_814 dL_law_815 ?_
  refine L_call (As := [.int _, .int _, .int _]) (rest := []) E dL_law_816 (x_ends R O) kX11_ends ⟨(Nat.le_of_ble_eq_true rfl), (Nat.le_of_ble_eq_true rfl)⟩ rfl (Nat.le_of_ble_eq_true rfl) sh0 rfl rfl w4_178 w4_179 w4_180 (fun r μ1 hp => ?_)
  obtain ⟨v1, rfl, e1, R1, F1⟩ := hp
  have RM := RM.other F1
  refine J_aload_n E dL_law_819 rfl ?_
  refine L_arg E S hi (kc := 1) (by decide) dL_law_820 dL_law_821 dL_law_822 (by decide +kernel) dL_law_823 dL_law_824 ?_
  refine L_arg E S hi (kc := 2) (by decide) dL_law_825 dL_law_826 dL_law_827 (by decide +kernel) dL_law_828 dL_law_829 ?_
  refine L_arg E S hi (kc := 3) (by decide) dL_law_830 dL_law_831 dL_law_832 (by decide +kernel) dL_law_833 dL_law_834 ?_
  refine L_call (As := [.int _, .int _, .int _]) (rest := [.int _]) E dL_law_835 (y_ends RM O) kX12_ends ⟨(Nat.le_of_ble_eq_true rfl), (Nat.le_of_ble_eq_true rfl)⟩ rfl (Nat.le_of_ble_eq_true rfl) sh455 rfl rfl w7_43 w7_44 w7_45 (fun r μ2 hp => ?_)
  obtain ⟨v2, rfl, e2, R2, F2⟩ := hp
  refine J_icmp_eq (tgt := 1311) E dL_law_838 (by decide) (fun _ => ?_) (fun c => absurd (e1.trans e2.symm) c)
  exact kk _ ⟨_, _, _, _, _, R1.other F2, R2, O⟩
theorem lc_19 (E : Ent Z X (mL nm) 600000 7302249) (S : Scr Z X b L xs) (hi : i + 6 ≤ L) (V : Inv μ) (kk : ∀ μ', Inv μ' → LJ Z X 1311 (LV Z b i) [] μ') : LJ Z X 843 (LV Z b i) [] μ := by
  obtain ⟨D, im, tx, s, f, R, RM, O⟩ := V
  refine J_aload_n E dL_law_843 rfl ?_
  refine L_arg E S hi (kc := 1) (by decide) dL_law_844 dL_law_845 dL_law_846 (by decide +kernel) dL_law_847 dL_law_848 ?_
  refine L_call (As := [.int _]) (rest := []) E dL_law_849 (x_guessed R O) kX11_guessed ⟨(Nat.le_of_ble_eq_true rfl), (Nat.le_of_ble_eq_true rfl)⟩ rfl (Nat.le_of_ble_eq_true rfl) sh0 rfl rfl w4_209 w4_210 w4_211 (fun r μ1 hp => ?_)
  obtain ⟨v1, rfl, e1, R1, F1⟩ := hp
  have RM := RM.other F1
  refine J_aload_n E dL_law_852 rfl ?_
  refine L_arg E S hi (kc := 1) (by decide) dL_law_853 dL_law_854 dL_law_855 (by decide +kernel) dL_law_856 dL_law_857 ?_
  refine L_call (As := [.int _]) (rest := [.int _]) E dL_law_858 (y_guessed RM O) kX12_guessed ⟨(Nat.le_of_ble_eq_true rfl), (Nat.le_of_ble_eq_true rfl)⟩ rfl (Nat.le_of_ble_eq_true rfl) sh455 rfl rfl w7_63 w7_64 w7_65 (fun r μ2 hp => ?_)
  obtain ⟨v2, rfl, e2, R2, F2⟩ := hp
  refine J_icmp_eq (tgt := 1311) E dL_law_861 (by decide) (fun _ => ?_) (fun c => absurd (e1.trans e2.symm) c)
  exact kk _ ⟨_, _, _, _, _, R1.other F2, R2, O⟩
theorem lc_20 (E : Ent Z X (mL nm) 600000 7302249) (S : Scr Z X b L xs) (hi : i + 6 ≤ L) (V : Inv μ) (kk : ∀ μ', Inv μ' → LJ Z X 1311 (LV Z b i) [] μ') : LJ Z X 866 (LV Z b i) [] μ := by
  obtain ⟨D, im, tx, s, f, R, RM, O⟩ := V
  refine J_aload_n E dL_law_866 rfl ?_
  refine L_arg E S hi (kc := 1) (by decide) dL_law_867 dL_law_868 dL_law_869 (by decide +kernel) dL_law_870 dL_law_871 ?_
  refine L_call (As := [.int _]) (rest := []) E dL_law_872 (x_fair R O) kX11_fair ⟨(Nat.le_of_ble_eq_true rfl), (Nat.le_of_ble_eq_true rfl)⟩ rfl (Nat.le_of_ble_eq_true rfl) sh0 rfl rfl w4_219 w4_220 w4_221 (fun r μ1 hp => ?_)
  obtain ⟨v1, rfl, e1, R1, F1⟩ := hp
  have RM := RM.other F1
  refine J_aload_n E dL_law_875 rfl ?_
  refine L_arg E S hi (kc := 1) (by decide) dL_law_876 dL_law_877 dL_law_878 (by decide +kernel) dL_law_879 dL_law_880 ?_
  refine L_call (As := [.int _]) (rest := [.int _]) E dL_law_881 (y_fair RM O) kX12_fair ⟨(Nat.le_of_ble_eq_true rfl), (Nat.le_of_ble_eq_true rfl)⟩ rfl (Nat.le_of_ble_eq_true rfl) sh455 rfl rfl w7_75 w7_76 w7_77 (fun r μ2 hp => ?_)
  obtain ⟨v2, rfl, e2, R2, F2⟩ := hp
  refine J_icmp_eq (tgt := 1311) E dL_law_884 (by decide) (fun _ => ?_) (fun c => absurd (e1.trans e2.symm) c)
  exact kk _ ⟨_, _, _, _, _, R1.other F2, R2, O⟩
theorem lc_21 (E : Ent Z X (mL nm) 600000 7302249) (S : Scr Z X b L xs) (hi : i + 6 ≤ L) (V : Inv μ) (kk : ∀ μ', Inv μ' → LJ Z X 1311 (LV Z b i) [] μ') : LJ Z X 889 (LV Z b i) [] μ := by
  obtain ⟨D, im, tx, s, f, R, RM, O⟩ := V
  refine J_aload_n E dL_law_889 rfl ?_
  refine L_arg E S hi (kc := 1) (by decide) dL_law_890 dL_law_891 dL_law_892 (by decide +kernel) dL_law_893 dL_law_894 ?_
  refine L_arg E S hi (kc := 2) (by decide) dL_law_895 dL_law_896 dL_law_897 (by decide +kernel) dL_law_898 dL_law_899 ?_
  refine L_call (As := [.int _, .int _]) (rest := []) E dL_law_900 (x_order R O) kX11_order ⟨(Nat.le_of_ble_eq_true rfl), (Nat.le_of_ble_eq_true rfl)⟩ rfl (Nat.le_of_ble_eq_true rfl) sh0 rfl rfl w4_238 w4_239 w5_0 (fun r μ1 hp => ?_)
  obtain ⟨v1, rfl, e1, R1, F1⟩ := hp
  have RM := RM.other F1
  refine J_aload_n E dL_law_903 rfl ?_
  refine L_arg E S hi (kc := 1) (by decide) dL_law_904 dL_law_905 dL_law_906 (by decide +kernel) dL_law_907 dL_law_908 ?_
  refine L_arg E S hi (kc := 2) (by decide) dL_law_909 dL_law_910 dL_law_911 (by decide +kernel) dL_law_912 dL_law_913 ?_
  refine L_call (As := [.int _, .int _]) (rest := [.int _]) E dL_law_914 (y_order RM O) kX12_order ⟨(Nat.le_of_ble_eq_true rfl), (Nat.le_of_ble_eq_true rfl)⟩ rfl (Nat.le_of_ble_eq_true rfl) sh455 rfl rfl w7_84 w7_85 w7_86 (fun r μ2 hp => ?_)
  obtain ⟨v2, rfl, e2, R2, F2⟩ := hp
  refine J_icmp_eq (tgt := 1311) E dL_law_917 (by decide) (fun _ => ?_) (fun c => absurd (e1.trans e2.symm) c)
  exact kk _ ⟨_, _, _, _, _, R1.other F2, R2, O⟩
theorem lc_22 (E : Ent Z X (mL nm) 600000 7302249) (S : Scr Z X b L xs) (hi : i + 6 ≤ L) (V : Inv μ) (kk : ∀ μ', Inv μ' → LJ Z X 1311 (LV Z b i) [] μ') : LJ Z X 922 (LV Z b i) [] μ := by
  obtain ⟨D, im, tx, s, f, R, RM, O⟩ := V
  refine J_aload_n E dL_law_922 rfl ?_
  refine L_arg E S hi (kc := 1) (by decide) dL_law_923 dL_law_924 dL_law_925 (by decide +kernel) dL_law_926 dL_law_927 ?_
  refine L_arg E S hi (kc := 2) (by decide) dL_law_928 dL_law_929 dL_law_930 (by decide +kernel) dL_law_931 dL_law_932 ?_
  refine L_call (As := [.int _, .int _]) (rest := []) E dL_law_933 (x_kinds R O) kX11_kinds ⟨(Nat.le_of_ble_eq_true rfl), (Nat.le_of_ble_eq_true rfl)⟩ rfl (Nat.le_of_ble_eq_true rfl) sh0 rfl rfl w5_28 w5_29 w5_30 (fun r μ1 hp => ?_)
  obtain ⟨v1, rfl, e1, R1, F1⟩ := hp
  have RM := RM.other F1
  refine J_aload_n E dL_law_936 rfl ?_
  refine L_arg E S hi (kc := 1) (by decide) dL_law_937 dL_law_938 dL_law_939 (by decide +kernel) dL_law_940 dL_law_941 ?_
  refine L_arg E S hi (kc := 2) (by decide) dL_law_942 dL_law_943 dL_law_944 (by decide +kernel) dL_law_945 dL_law_946 ?_
  refine L_call (As := [.int _, .int _]) (rest := [.int _]) E dL_law_947 (y_kinds RM O) kX12_kinds ⟨(Nat.le_of_ble_eq_true rfl), (Nat.le_of_ble_eq_true rfl)⟩ rfl (Nat.le_of_ble_eq_true rfl) sh455 rfl rfl w7_108 w7_109 w7_110 (fun r μ2 hp => ?_)
  obtain ⟨v2, rfl, e2, R2, F2⟩ := hp
  refine J_icmp_eq (tgt := 1311) E dL_law_950 (by decide) (fun _ => ?_) (fun c => absurd (e1.trans e2.symm) c)
  exact kk _ ⟨_, _, _, _, _, R1.other F2, R2, O⟩
theorem lc_23 (E : Ent Z X (mL nm) 600000 7302249) (S : Scr Z X b L xs) (hi : i + 6 ≤ L) (V : Inv μ) (kk : ∀ μ', Inv μ' → LJ Z X 1311 (LV Z b i) [] μ') : LJ Z X 955 (LV Z b i) [] μ := by
  obtain ⟨D, im, tx, s, f, R, RM, O⟩ := V
  refine J_aload_n E dL_law_955 rfl ?_
  refine L_call (As := []) (rest := []) E dL_law_956 (x_meet R O) kX11_meet ⟨(Nat.le_of_ble_eq_true rfl), (Nat.le_of_ble_eq_true rfl)⟩ rfl (Nat.le_of_ble_eq_true rfl) sh0 rfl rfl w5_63 w5_64 w5_65 (fun r μ1 hp => ?_)
  obtain ⟨v1, rfl, e1, R1, F1⟩ := hp
  have RM := RM.other F1
  refine J_aload_n E dL_law_959 rfl ?_
  refine L_call (As := []) (rest := [.int _]) E dL_law_960 (y_meet RM O) kX12_meet ⟨(Nat.le_of_ble_eq_true rfl), (Nat.le_of_ble_eq_true rfl)⟩ rfl (Nat.le_of_ble_eq_true rfl) sh455 rfl rfl w7_120 w7_121 w7_122 (fun r μ2 hp => ?_)
  obtain ⟨v2, rfl, e2, R2, F2⟩ := hp
  refine J_icmp_eq (tgt := 1311) E dL_law_963 (by decide) (fun _ => ?_) (fun c => absurd (e1.trans e2.symm) c)
  exact kk _ ⟨_, _, _, _, _, R1.other F2, R2, O⟩
theorem lc_24 (E : Ent Z X (mL nm) 600000 7302249) (S : Scr Z X b L xs) (hi : i + 6 ≤ L) (V : Inv μ) (kk : ∀ μ', Inv μ' → LJ Z X 1311 (LV Z b i) [] μ') : LJ Z X 968 (LV Z b i) [] μ := by
  obtain ⟨D, im, tx, s, f, R, RM, O⟩ := V
  refine J_aload_n E dL_law_968 rfl ?_
  refine L_arg E S hi (kc := 1) (by decide) dL_law_969 dL_law_970 dL_law_971 (by decide +kernel) dL_law_972 dL_law_973 ?_
  refine L_call (As := [.int _]) (rest := []) E dL_law_974 (x_apart R O) kX11_apart ⟨(Nat.le_of_ble_eq_true rfl), (Nat.le_of_ble_eq_true rfl)⟩ rfl (Nat.le_of_ble_eq_true rfl) sh0 rfl rfl w5_71 w5_72 w5_73 (fun r μ1 hp => ?_)
  obtain ⟨v1, rfl, e1, R1, F1⟩ := hp
  have RM := RM.other F1
  refine J_aload_n E dL_law_977 rfl ?_
  refine L_arg E S hi (kc := 1) (by decide) dL_law_978 dL_law_979 dL_law_980 (by decide +kernel) dL_law_981 dL_law_982 ?_
  refine L_call (As := [.int _]) (rest := [.int _]) E dL_law_983 (y_apart RM O) kX12_apart ⟨(Nat.le_of_ble_eq_true rfl), (Nat.le_of_ble_eq_true rfl)⟩ rfl (Nat.le_of_ble_eq_true rfl) sh455 rfl rfl w7_132 w7_133 w7_134 (fun r μ2 hp => ?_)
  obtain ⟨v2, rfl, e2, R2, F2⟩ := hp
  refine J_icmp_eq (tgt := 1311) E dL_law_986 (by decide) (fun _ => ?_) (fun c => absurd (e1.trans e2.symm) c)
  exact kk _ ⟨_, _, _, _, _, R1.other F2, R2, O⟩
theorem lc_25 (E : Ent Z X (mL nm) 600000 7302249) (S : Scr Z X b L xs) (hi : i + 6 ≤ L) (V : Inv μ) (kk : ∀ μ', Inv μ' → LJ Z X 1311 (LV Z b i) [] μ') : LJ Z X 991 (LV Z b i) [] μ := by
  obtain ⟨D, im, tx, s, f, R, RM, O⟩ := V
  refine J_aload_n E dL_law_991 rfl ?_
  refine L_arg E S hi (kc := 1) (by decide) dL_law_992 dL_law_993 dL_law_994 (by decide +kernel) dL_law_995 dL_law_996 ?_
  refine L_call (As := [.int _]) (rest := []) E dL_law_997 (x_sooner R O) kX11_sooner ⟨(Nat.le_of_ble_eq_true rfl), (Nat.le_of_ble_eq_true rfl)⟩ rfl (Nat.le_of_ble_eq_true rfl) sh0 rfl rfl w5_80 w5_81 w5_82 (fun r μ1 hp => ?_)
  obtain ⟨v1, rfl, e1, R1, F1⟩ := hp
  have RM := RM.other F1
  refine J_aload_n E dL_law_1000 rfl ?_
  refine L_arg E S hi (kc := 1) (by decide) dL_law_1001 dL_law_1002 dL_law_1003 (by decide +kernel) dL_law_1004 dL_law_1005 ?_
  refine L_call (As := [.int _]) (rest := [.int _]) E dL_law_1006 (y_sooner RM O) kX12_sooner ⟨(Nat.le_of_ble_eq_true rfl), (Nat.le_of_ble_eq_true rfl)⟩ rfl (Nat.le_of_ble_eq_true rfl) sh455 rfl rfl w7_55 w7_56 w7_57 (fun r μ2 hp => ?_)
  obtain ⟨v2, rfl, e2, R2, F2⟩ := hp
  refine J_icmp_eq (tgt := 1311) E dL_law_1009 (by decide) (fun _ => ?_) (fun c => absurd (e1.trans e2.symm) c)
  exact kk _ ⟨_, _, _, _, _, R1.other F2, R2, O⟩
theorem lc_26 (E : Ent Z X (mL nm) 600000 7302249) (S : Scr Z X b L xs) (hi : i + 6 ≤ L) (V : Inv μ) (kk : ∀ μ', Inv μ' → LJ Z X 1311 (LV Z b i) [] μ') : LJ Z X 1014 (LV Z b i) [] μ := by
  obtain ⟨D, im, tx, s, f, R, RM, O⟩ := V
  refine J_aload_n E dL_law_1014 rfl ?_
  refine L_arg E S hi (kc := 1) (by decide) dL_law_1015 dL_law_1016 dL_law_1017 (by decide +kernel) dL_law_1018 dL_law_1019 ?_
  refine L_call (As := [.int _]) (rest := []) E dL_law_1020 (x_hangs R O) kX11_hangs ⟨(Nat.le_of_ble_eq_true rfl), (Nat.le_of_ble_eq_true rfl)⟩ rfl (Nat.le_of_ble_eq_true rfl) sh0 rfl rfl w5_86 w5_87 w5_88 (fun r μ1 hp => ?_)
  obtain ⟨v1, rfl, e1, R1, F1⟩ := hp
  have RM := RM.other F1
  refine J_aload_n E dL_law_1023 rfl ?_
  refine L_arg E S hi (kc := 1) (by decide) dL_law_1024 dL_law_1025 dL_law_1026 (by decide +kernel) dL_law_1027 dL_law_1028 ?_
  refine L_call (As := [.int _]) (rest := [.int _]) E dL_law_1029 (y_hangs RM O) kX12_hangs ⟨(Nat.le_of_ble_eq_true rfl), (Nat.le_of_ble_eq_true rfl)⟩ rfl (Nat.le_of_ble_eq_true rfl) sh455 rfl rfl w7_136 w7_137 w7_138 (fun r μ2 hp => ?_)
  obtain ⟨v2, rfl, e2, R2, F2⟩ := hp
  refine J_icmp_eq (tgt := 1311) E dL_law_1032 (by decide) (fun _ => ?_) (fun c => absurd (e1.trans e2.symm) c)
  exact kk _ ⟨_, _, _, _, _, R1.other F2, R2, O⟩
theorem lc_27 (E : Ent Z X (mL nm) 600000 7302249) (S : Scr Z X b L xs) (hi : i + 6 ≤ L) (V : Inv μ) (kk : ∀ μ', Inv μ' → LJ Z X 1311 (LV Z b i) [] μ') : LJ Z X 1037 (LV Z b i) [] μ := by
  obtain ⟨D, im, tx, s, f, R, RM, O⟩ := V
  refine J_aload_n E dL_law_1037 rfl ?_
  refine L_arg E S hi (kc := 1) (by decide) dL_law_1038 dL_law_1039 dL_law_1040 (by decide +kernel) dL_law_1041 dL_law_1042 ?_
  refine L_call (As := [.int _]) (rest := []) E dL_law_1043 (x_bears R O) kX11_bears ⟨(Nat.le_of_ble_eq_true rfl), (Nat.le_of_ble_eq_true rfl)⟩ rfl (Nat.le_of_ble_eq_true rfl) sh0 rfl rfl w5_94 w5_95 w5_96 (fun r μ1 hp => ?_)
  obtain ⟨v1, rfl, e1, R1, F1⟩ := hp
  have RM := RM.other F1
  refine J_aload_n E dL_law_1046 rfl ?_
  refine L_arg E S hi (kc := 1) (by decide) dL_law_1047 dL_law_1048 dL_law_1049 (by decide +kernel) dL_law_1050 dL_law_1051 ?_
  refine L_call (As := [.int _]) (rest := [.int _]) E dL_law_1052 (y_bears RM O) kX12_bears ⟨(Nat.le_of_ble_eq_true rfl), (Nat.le_of_ble_eq_true rfl)⟩ rfl (Nat.le_of_ble_eq_true rfl) sh455 rfl rfl w7_148 w7_149 w7_150 (fun r μ2 hp => ?_)
  obtain ⟨v2, rfl, e2, R2, F2⟩ := hp
  refine J_icmp_eq (tgt := 1311) E dL_law_1055 (by decide) (fun _ => ?_) (fun c => absurd (e1.trans e2.symm) c)
  exact kk _ ⟨_, _, _, _, _, R1.other F2, R2, O⟩
theorem lc_28 (E : Ent Z X (mL nm) 600000 7302249) (S : Scr Z X b L xs) (hi : i + 6 ≤ L) (V : Inv μ) (kk : ∀ μ', Inv μ' → LJ Z X 1311 (LV Z b i) [] μ') : LJ Z X 1060 (LV Z b i) [] μ := by
  obtain ⟨D, im, tx, s, f, R, RM, O⟩ := V
  refine J_aload_n E dL_law_1060 rfl ?_
  refine L_arg E S hi (kc := 1) (by decide) dL_law_1061 dL_law_1062 dL_law_1063 (by decide +kernel) dL_law_1064 dL_law_1065 ?_
  refine L_call (As := [.int _]) (rest := []) E dL_law_1066 (x_soon R O) kX11_soon ⟨(Nat.le_of_ble_eq_true rfl), (Nat.le_of_ble_eq_true rfl)⟩ rfl (Nat.le_of_ble_eq_true rfl) sh0 rfl rfl w5_98 w5_99 w5_100 (fun r μ1 hp => ?_)
  obtain ⟨v1, rfl, e1, R1, F1⟩ := hp
  have RM := RM.other F1
  refine J_aload_n E dL_law_1069 rfl ?_
  refine L_arg E S hi (kc := 1) (by decide) dL_law_1070 dL_law_1071 dL_law_1072 (by decide +kernel) dL_law_1073 dL_law_1074 ?_
  refine L_call (As := [.int _]) (rest := [.int _]) E dL_law_1075 (y_soon RM O) kX12_soon ⟨(Nat.le_of_ble_eq_true rfl), (Nat.le_of_ble_eq_true rfl)⟩ rfl (Nat.le_of_ble_eq_true rfl) sh455 rfl rfl w7_152 w7_153 w7_154 (fun r μ2 hp => ?_)
  obtain ⟨v2, rfl, e2, R2, F2⟩ := hp
  refine J_icmp_eq (tgt := 1311) E dL_law_1078 (by decide) (fun _ => ?_) (fun c => absurd (e1.trans e2.symm) c)
  exact kk _ ⟨_, _, _, _, _, R1.other F2, R2, O⟩
theorem lc_29 (E : Ent Z X (mL nm) 600000 7302249) (S : Scr Z X b L xs) (hi : i + 6 ≤ L) (V : Inv μ) (kk : ∀ μ', Inv μ' → LJ Z X 1311 (LV Z b i) [] μ') : LJ Z X 1083 (LV Z b i) [] μ := by
  obtain ⟨D, im, tx, s, f, R, RM, O⟩ := V
  refine J_aload_n E dL_law_1083 rfl ?_
  refine L_arg E S hi (kc := 1) (by decide) dL_law_1084 dL_law_1085 dL_law_1086 (by decide +kernel) dL_law_1087 dL_law_1088 ?_
  refine L_arg E S hi (kc := 2) (by decide) dL_law_1089 dL_law_1090 dL_law_1091 (by decide +kernel) dL_law_1092 dL_law_1093 ?_
  refine L_call (As := [.int _, .int _]) (rest := []) E dL_law_1094 (x_report R O) kX11_report ⟨(Nat.le_of_ble_eq_true rfl), (Nat.le_of_ble_eq_true rfl)⟩ rfl (Nat.le_of_ble_eq_true rfl) sh0 rfl rfl w5_110 w5_111 w5_112 (fun r μ1 hp => ?_)
  obtain ⟨v1, rfl, e1, R1, F1⟩ := hp
  have RM := RM.other F1
  refine J_aload_n E dL_law_1097 rfl ?_
  refine L_arg E S hi (kc := 1) (by decide) dL_law_1098 dL_law_1099 dL_law_1100 (by decide +kernel) dL_law_1101 dL_law_1102 ?_
  refine L_arg E S hi (kc := 2) (by decide) dL_law_1103 dL_law_1104 dL_law_1105 (by decide +kernel) dL_law_1106 dL_law_1107 ?_
  refine L_call (As := [.int _, .int _]) (rest := [.int _]) E dL_law_1108 (y_report RM O) kX12_report ⟨(Nat.le_of_ble_eq_true rfl), (Nat.le_of_ble_eq_true rfl)⟩ rfl (Nat.le_of_ble_eq_true rfl) sh455 rfl rfl w7_156 w7_157 w7_158 (fun r μ2 hp => ?_)
  obtain ⟨v2, rfl, e2, R2, F2⟩ := hp
  refine J_icmp_eq (tgt := 1311) E dL_law_1111 (by decide) (fun _ => ?_) (fun c => absurd (e1.trans e2.symm) c)
  exact kk _ ⟨_, _, _, _, _, R1.other F2, R2, (k_report O)⟩
theorem lc_30 (E : Ent Z X (mL nm) 600000 7302249) (S : Scr Z X b L xs) (hi : i + 6 ≤ L) (V : Inv μ) (kk : ∀ μ', Inv μ' → LJ Z X 1311 (LV Z b i) [] μ') : LJ Z X 1116 (LV Z b i) [] μ := by
  obtain ⟨D, im, tx, s, f, R, RM, O⟩ := V
  refine J_aload_n E dL_law_1116 rfl ?_
  refine L_arg E S hi (kc := 1) (by decide) dL_law_1117 dL_law_1118 dL_law_1119 (by decide +kernel) dL_law_1120 dL_law_1121 ?_
  refine L_arg E S hi (kc := 2) (by decide) dL_law_1122 dL_law_1123 dL_law_1124 (by decide +kernel) dL_law_1125 dL_law_1126 ?_
  refine L_call (As := [.int _, .int _]) (rest := []) E dL_law_1127 (x_hard R O) kX11_hard ⟨(Nat.le_of_ble_eq_true rfl), (Nat.le_of_ble_eq_true rfl)⟩ rfl (Nat.le_of_ble_eq_true rfl) sh0 rfl rfl w5_118 w5_119 w5_120 (fun r μ1 hp => ?_)
  obtain ⟨v1, rfl, e1, R1, F1⟩ := hp
  have RM := RM.other F1
  refine J_aload_n E dL_law_1130 rfl ?_
  refine L_arg E S hi (kc := 1) (by decide) dL_law_1131 dL_law_1132 dL_law_1133 (by decide +kernel) dL_law_1134 dL_law_1135 ?_
  refine L_arg E S hi (kc := 2) (by decide) dL_law_1136 dL_law_1137 dL_law_1138 (by decide +kernel) dL_law_1139 dL_law_1140 ?_
  refine L_call (As := [.int _, .int _]) (rest := [.int _]) E dL_law_1141 (y_hard RM O) kX12_hard ⟨(Nat.le_of_ble_eq_true rfl), (Nat.le_of_ble_eq_true rfl)⟩ rfl (Nat.le_of_ble_eq_true rfl) sh455 rfl rfl w7_160 w7_161 w7_162 (fun r μ2 hp => ?_)
  obtain ⟨v2, rfl, e2, R2, F2⟩ := hp
  refine J_icmp_eq (tgt := 1311) E dL_law_1144 (by decide) (fun _ => ?_) (fun c => absurd (e1.trans e2.symm) c)
  exact kk _ ⟨_, _, _, _, _, R1.other F2, R2, O⟩
theorem lc_31 (E : Ent Z X (mL nm) 600000 7302249) (S : Scr Z X b L xs) (hi : i + 6 ≤ L) (V : Inv μ) (kk : ∀ μ', Inv μ' → LJ Z X 1311 (LV Z b i) [] μ') : LJ Z X 1149 (LV Z b i) [] μ := by
  obtain ⟨D, im, tx, s, f, R, RM, O⟩ := V
  have hf : f.1 < 1073741824 ^ 24 ∧ f.2 < 1073741824 ^ 24 := ⟨R.2.2.2.2.1.1.2.1, R.2.2.2.2.1.2.2.1⟩
  refine J_aload_n E dL_law_1149 rfl ?_
  refine L_arg E S hi (kc := 1) (by decide) dL_law_1150 dL_law_1151 dL_law_1152 (by decide +kernel) dL_law_1153 dL_law_1154 ?_
  refine L_call (As := [.int _]) (rest := []) E dL_law_1155 (x_sign R) kX11_sign ⟨(Nat.le_of_ble_eq_true rfl), (Nat.le_of_ble_eq_true rfl)⟩ rfl (Nat.le_of_ble_eq_true rfl) sh0 rfl rfl w5_128 w5_129 w5_130 (fun r μ1 hp => ?_)
  obtain ⟨v1, rfl, e1, R1, F1⟩ := hp
  have RM := RM.other F1
  refine J_aload_n E dL_law_1158 rfl ?_
  refine L_arg E S hi (kc := 1) (by decide) dL_law_1159 dL_law_1160 dL_law_1161 (by decide +kernel) dL_law_1162 dL_law_1163 ?_
  refine L_call (As := [.int _]) (rest := [.int _]) E dL_law_1164 (y_sign RM O hf) kX12_sign ⟨(Nat.le_of_ble_eq_true rfl), (Nat.le_of_ble_eq_true rfl)⟩ rfl (Nat.le_of_ble_eq_true rfl) sh455 rfl rfl w7_167 w7_168 w7_169 (fun r μ2 hp => ?_)
  obtain ⟨v2, rfl, e2, R2, F2⟩ := hp
  refine J_icmp_eq (tgt := 1311) E dL_law_1167 (by decide) (fun _ => ?_) (fun c => absurd (e1.trans e2.symm) c)
  exact kk _ ⟨_, _, _, _, _, R1.other F2, R2, O⟩
theorem lc_32 (E : Ent Z X (mL nm) 600000 7302249) (S : Scr Z X b L xs) (hi : i + 6 ≤ L) (V : Inv μ) (kk : ∀ μ', Inv μ' → LJ Z X 1311 (LV Z b i) [] μ') : LJ Z X 1172 (LV Z b i) [] μ := by
  obtain ⟨D, im, tx, s, f, R, RM, O⟩ := V
  have hf : f.1 < 1073741824 ^ 24 ∧ f.2 < 1073741824 ^ 24 := ⟨R.2.2.2.2.1.1.2.1, R.2.2.2.2.1.2.2.1⟩
  refine J_aload_n E dL_law_1172 rfl ?_
  refine L_arg E S hi (kc := 1) (by decide) dL_law_1173 dL_law_1174 dL_law_1175 (by decide +kernel) dL_law_1176 dL_law_1177 ?_
  refine L_arg E S hi (kc := 2) (by decide) dL_law_1178 dL_law_1179 dL_law_1180 (by decide +kernel) dL_law_1181 dL_law_1182 ?_
  refine L_call (As := [.int _, .int _]) (rest := []) E dL_law_1183 (x_limb R) kX11_limb ⟨(Nat.le_of_ble_eq_true rfl), (Nat.le_of_ble_eq_true rfl)⟩ rfl (Nat.le_of_ble_eq_true rfl) sh0 rfl rfl w5_136 w5_137 w5_138 (fun r μ1 hp => ?_)
  obtain ⟨v1, rfl, e1, R1, F1⟩ := hp
  have RM := RM.other F1
  refine J_aload_n E dL_law_1186 rfl ?_
  refine L_arg E S hi (kc := 1) (by decide) dL_law_1187 dL_law_1188 dL_law_1189 (by decide +kernel) dL_law_1190 dL_law_1191 ?_
  refine L_arg E S hi (kc := 2) (by decide) dL_law_1192 dL_law_1193 dL_law_1194 (by decide +kernel) dL_law_1195 dL_law_1196 ?_
  refine L_call (As := [.int _, .int _]) (rest := [.int _]) E dL_law_1197 (y_limb RM O hf) kX12_limb ⟨(Nat.le_of_ble_eq_true rfl), (Nat.le_of_ble_eq_true rfl)⟩ rfl (Nat.le_of_ble_eq_true rfl) sh455 rfl rfl w7_175 w7_176 w7_177 (fun r μ2 hp => ?_)
  obtain ⟨v2, rfl, e2, R2, F2⟩ := hp
  refine J_icmp_eq (tgt := 1311) E dL_law_1200 (by decide) (fun _ => ?_) (fun c => absurd (e1.trans e2.symm) c)
  exact kk _ ⟨_, _, _, _, _, R1.other F2, R2, O⟩
theorem lc_33 (E : Ent Z X (mL nm) 600000 7302249) (S : Scr Z X b L xs) (hi : i + 6 ≤ L) (V : Inv μ) (kk : ∀ μ', Inv μ' → LJ Z X 1311 (LV Z b i) [] μ') : LJ Z X 1205 (LV Z b i) [] μ := by
  obtain ⟨D, im, tx, s, f, R, RM, O⟩ := V
  refine J_aload_n E dL_law_1205 rfl ?_
  refine L_arg E S hi (kc := 1) (by decide) dL_law_1206 dL_law_1207 dL_law_1208 (by decide +kernel) dL_law_1209 dL_law_1210 ?_
  refine L_call (As := [.int _]) (rest := []) E dL_law_1211 (x_image R O) kX11_image ⟨(Nat.le_of_ble_eq_true rfl), (Nat.le_of_ble_eq_true rfl)⟩ rfl (Nat.le_of_ble_eq_true rfl) sh0 rfl rfl w5_140 w5_141 w5_142 (fun r μ1 hp => ?_)
  obtain ⟨v1, rfl, e1, R1, F1⟩ := hp
  have RM := RM.other F1
  refine J_aload_n E dL_law_1214 rfl ?_
  refine L_arg E S hi (kc := 1) (by decide) dL_law_1215 dL_law_1216 dL_law_1217 (by decide +kernel) dL_law_1218 dL_law_1219 ?_
  refine L_call (As := [.int _]) (rest := [.int _]) E dL_law_1220 (y_image RM O) kX12_image ⟨(Nat.le_of_ble_eq_true rfl), (Nat.le_of_ble_eq_true rfl)⟩ rfl (Nat.le_of_ble_eq_true rfl) sh455 rfl rfl w7_179 w7_180 w7_181 (fun r μ2 hp => ?_)
  obtain ⟨v2, rfl, e2, R2, F2⟩ := hp
  refine J_icmp_eq (tgt := 1311) E dL_law_1223 (by decide) (fun _ => ?_) (fun c => absurd (e1.trans e2.symm) c)
  exact kk _ ⟨_, _, _, _, _, R1.other F2, R2, (k_image O)⟩
theorem lc_34 (E : Ent Z X (mL nm) 600000 7302249) (S : Scr Z X b L xs) (hi : i + 6 ≤ L) (V : Inv μ) (kk : ∀ μ', Inv μ' → LJ Z X 1311 (LV Z b i) [] μ') : LJ Z X 1228 (LV Z b i) [] μ := by
  obtain ⟨D, im, tx, s, f, R, RM, O⟩ := V
  refine J_aload_n E dL_law_1228 rfl ?_
  refine L_arg E S hi (kc := 1) (by decide) dL_law_1229 dL_law_1230 dL_law_1231 (by decide +kernel) dL_law_1232 dL_law_1233 ?_
  refine L_call (As := [.int _]) (rest := []) E dL_law_1234 (x_from R O) kX11_from ⟨(Nat.le_of_ble_eq_true rfl), (Nat.le_of_ble_eq_true rfl)⟩ rfl (Nat.le_of_ble_eq_true rfl) sh0 rfl rfl w5_149 w5_150 w5_151 (fun r μ1 hp => ?_)
  obtain ⟨v1, rfl, e1, R1, F1⟩ := hp
  have RM := RM.other F1
  refine J_aload_n E dL_law_1237 rfl ?_
  refine L_arg E S hi (kc := 1) (by decide) dL_law_1238 dL_law_1239 dL_law_1240 (by decide +kernel) dL_law_1241 dL_law_1242 ?_
  refine L_call (As := [.int _]) (rest := [.int _]) E dL_law_1243 (y_from RM O) kX12_from ⟨(Nat.le_of_ble_eq_true rfl), (Nat.le_of_ble_eq_true rfl)⟩ rfl (Nat.le_of_ble_eq_true rfl) sh455 rfl rfl w7_187 w7_188 w7_189 (fun r μ2 hp => ?_)
  obtain ⟨v2, rfl, e2, R2, F2⟩ := hp
  refine J_icmp_eq (tgt := 1311) E dL_law_1246 (by decide) (fun _ => ?_) (fun c => absurd (e1.trans e2.symm) c)
  exact kk _ ⟨_, _, _, _, _, R1.other F2, R2, (k_from O)⟩
theorem lc_35 (E : Ent Z X (mL nm) 600000 7302249) (S : Scr Z X b L xs) (hi : i + 6 ≤ L) (V : Inv μ) (kk : ∀ μ', Inv μ' → LJ Z X 1311 (LV Z b i) [] μ') : LJ Z X 1251 (LV Z b i) [] μ := by
  obtain ⟨D, im, tx, s, f, R, RM, O⟩ := V
  refine J_aload_n E dL_law_1251 rfl ?_
  refine L_arg E S hi (kc := 1) (by decide) dL_law_1252 dL_law_1253 dL_law_1254 (by decide +kernel) dL_law_1255 dL_law_1256 ?_
  refine L_call (As := [.int _]) (rest := []) E dL_law_1257 (x_status R) kX11_status ⟨(Nat.le_of_ble_eq_true rfl), (Nat.le_of_ble_eq_true rfl)⟩ rfl (Nat.le_of_ble_eq_true rfl) sh0 rfl rfl w5_153 w5_154 w5_155 (fun r μ1 hp => ?_)
  obtain ⟨v1, rfl, e1, R1, F1⟩ := hp
  have RM := RM.other F1
  refine J_aload_n E dL_law_1260 rfl ?_
  refine L_arg E S hi (kc := 1) (by decide) dL_law_1261 dL_law_1262 dL_law_1263 (by decide +kernel) dL_law_1264 dL_law_1265 ?_
  refine L_call (As := [.int _]) (rest := [.int _]) E dL_law_1266 (y_status RM O) kX12_status ⟨(Nat.le_of_ble_eq_true rfl), (Nat.le_of_ble_eq_true rfl)⟩ rfl (Nat.le_of_ble_eq_true rfl) sh455 rfl rfl w7_191 w7_192 w7_193 (fun r μ2 hp => ?_)
  obtain ⟨v2, rfl, e2, R2, F2⟩ := hp
  refine J_icmp_eq (tgt := 1311) E dL_law_1269 (by decide) (fun _ => ?_) (fun c => absurd (e1.trans e2.symm) c)
  exact kk _ ⟨_, _, _, _, _, R1.other F2, R2, O⟩
theorem lc_36 (E : Ent Z X (mL nm) 600000 7302249) (S : Scr Z X b L xs) (hi : i + 6 ≤ L) (V : Inv μ) (kk : ∀ μ', Inv μ' → LJ Z X 1311 (LV Z b i) [] μ') : LJ Z X 1274 (LV Z b i) [] μ := by
  obtain ⟨D, im, tx, s, f, R, RM, O⟩ := V
  refine J_aload_n E dL_law_1274 rfl ?_
  refine L_arg E S hi (kc := 1) (by decide) dL_law_1275 dL_law_1276 dL_law_1277 (by decide +kernel) dL_law_1278 dL_law_1279 ?_
  refine L_call (As := [.int _]) (rest := []) E dL_law_1280 (x_count R) kX11_count ⟨(Nat.le_of_ble_eq_true rfl), (Nat.le_of_ble_eq_true rfl)⟩ rfl (Nat.le_of_ble_eq_true rfl) sh0 rfl rfl w5_157 w5_158 w5_159 (fun r μ1 hp => ?_)
  obtain ⟨v1, rfl, e1, R1, F1⟩ := hp
  have RM := RM.other F1
  refine J_aload_n E dL_law_1283 rfl ?_
  refine L_arg E S hi (kc := 1) (by decide) dL_law_1284 dL_law_1285 dL_law_1286 (by decide +kernel) dL_law_1287 dL_law_1288 ?_
  refine L_call (As := [.int _]) (rest := [.int _]) E dL_law_1289 (y_count RM O) kX12_count ⟨(Nat.le_of_ble_eq_true rfl), (Nat.le_of_ble_eq_true rfl)⟩ rfl (Nat.le_of_ble_eq_true rfl) sh455 rfl rfl w7_195 w7_196 w7_197 (fun r μ2 hp => ?_)
  obtain ⟨v2, rfl, e2, R2, F2⟩ := hp
  refine J_icmp_eq (tgt := 1311) E dL_law_1292 (by decide) (fun _ => ?_) (fun c => absurd (e1.trans e2.symm) c)
  exact kk _ ⟨_, _, _, _, _, R1.other F2, R2, O⟩
theorem lc_37 (E : Ent Z X (mL nm) 600000 7302249) (S : Scr Z X b L xs) (hi : i + 6 ≤ L) (V : Inv μ) (kk : ∀ μ', Inv μ' → LJ Z X 1311 (LV Z b i) [] μ') : LJ Z X 1297 (LV Z b i) [] μ := by
  obtain ⟨D, im, tx, s, f, R, RM, O⟩ := V
  have hf : f.1 < 1073741824 ^ 24 ∧ f.2 < 1073741824 ^ 24 := ⟨R.2.2.2.2.1.1.2.1, R.2.2.2.2.1.2.2.1⟩
  refine J_aload_n E dL_law_1297 rfl ?_
  refine L_call (As := []) (rest := []) E dL_law_1298 (x_digest R O) kX11_digest ⟨(Nat.le_of_ble_eq_true rfl), (Nat.le_of_ble_eq_true rfl)⟩ rfl (Nat.le_of_ble_eq_true rfl) sh0 rfl rfl w5_165 w5_166 w5_167 (fun r μ1 hp => ?_)
  obtain ⟨v1, rfl, e1, R1, F1⟩ := hp
  have RM := RM.other F1
  refine J_aload_n E dL_law_1301 rfl ?_
  refine L_call (As := []) (rest := [.long _]) E dL_law_1302 (y_digest RM O hf) kX12_digest ⟨(Nat.le_of_ble_eq_true rfl), (Nat.le_of_ble_eq_true rfl)⟩ rfl (Nat.le_of_ble_eq_true rfl) sh455 rfl rfl w7_203 w7_204 w7_205 (fun r μ2 hp => ?_)
  obtain ⟨v2, rfl, e2, R2, F2⟩ := hp
  refine J_lcmp E dL_law_1305 ?_
  rw [e1, e2, lcmp_self]
  refine J_if_eq (tgt := 1311) E dL_law_1306 (by decide) (fun _ => ?_) (fun c => absurd rfl c)
  exact kk _ ⟨_, _, _, _, _, R1.other F2, R2, O⟩
end LCASES
