/-! LAW: the law's own rows and words (by program) -/
/-- the law as a method, under the name that the run gives it -/
abbrev mL (nm : String) : MT := (⟨RL, nm, "([I)Z"⟩, cL_law, 4, some .boolean, 12, 434)
abbrev LJ (Z : ZT) (X : XT) (pc : Nat) (lv : List (Nat × Value)) (st : List Value) (μ : Mu) : Prop := J Z X NW 473 17501 pc lv st (WM Z μ)
abbrev LV (Z : ZT) (b i : Nat) : List (Nat × Value) := [(0, .ref b), (1, xrf Z), (2, mrf Z), (3, .int (nI i))]
/-- the script -/
def Scr (Z : ZT) (X : XT) (b L : Nat) (xs : Nat → Int32) : Prop := va_X b L xs X.2.2.2.1 X.2.2.2.1.heap ∧ b < X.2.2.2.1.heap.size ∧ ¬ Aof Z b ∧ L ≤ 3072
/-- both sides stand for one state -/
def Inv (μ : Mu) : Prop := ∃ (D : DD) (im : Nat → Option DD) (tx : TX) (s : Nat → Int32) (f : Nat × Nat), RepC μ D im tx s f ∧ RepM μ D im tx s f ∧ OkS D im tx
theorem dL_law_0 : decode cL_law 0 = .ok (.new 7, 3) := by decide +kernel
theorem dL_law_3 : decode cL_law 3 = .ok (.dup, 1) := by decide +kernel
theorem dL_law_4 : decode cL_law 4 = .ok (.invokespecial 9, 3) := by decide +kernel
theorem dL_law_7 : decode cL_law 7 = .ok (.astore_n 1, 1) := by decide +kernel
theorem dL_law_8 : decode cL_law 8 = .ok (.new 10, 3) := by decide +kernel
theorem dL_law_11 : decode cL_law 11 = .ok (.dup, 1) := by decide +kernel
theorem dL_law_12 : decode cL_law 12 = .ok (.invokespecial 12, 3) := by decide +kernel
theorem dL_law_15 : decode cL_law 15 = .ok (.astore_n 2, 1) := by decide +kernel
theorem dL_law_16 : decode cL_law 16 = .ok (.iconst 0, 1) := by decide +kernel
theorem dL_law_17 : decode cL_law 17 = .ok (.istore_n 3, 1) := by decide +kernel
theorem dL_law_18 : decode cL_law 18 = .ok (.iload_n 3, 1) := by decide +kernel
theorem dL_law_19 : decode cL_law 19 = .ok (.aload_n 0, 1) := by decide +kernel
theorem dL_law_20 : decode cL_law 20 = .ok (.arraylength, 1) := by decide +kernel
theorem dL_law_21 : decode cL_law 21 = .ok (.bipush 6, 2) := by decide +kernel
theorem dL_law_23 : decode cL_law 23 = .ok (.isub, 1) := by decide +kernel
theorem dL_law_24 : decode cL_law 24 = .ok (.if_icmp .gt 1293, 3) := by decide +kernel
theorem dL_law_27 : decode cL_law 27 = .ok (.aload_n 0, 1) := by decide +kernel
theorem dL_law_28 : decode cL_law 28 = .ok (.iload_n 3, 1) := by decide +kernel
theorem dL_law_29 : decode cL_law 29 = .ok (.iaload, 1) := by decide +kernel
theorem dL_law_30 : decode cL_law 30 = .ok (.bipush 63, 2) := by decide +kernel
theorem dL_law_32 : decode cL_law 32 = .ok (.iand, 1) := by decide +kernel
theorem dL_law_33 : decode cL_law 33 = .ok (.tableswitch 1278 0 37 #[167, 180, 223, 256, 335, 368, 401, 434, 457, 490, 523, 546, 579, 642, 655, 668, 701, 734, 767, 810, 833, 856, 889, 922, 935, 958, 981, 1004, 1027, 1050, 1083, 1116, 1139, 1172, 1195, 1218, 1241, 1264], 167) := by decide +kernel
theorem dL_law_200 : decode cL_law 200 = .ok (.aload_n 1, 1) := by decide +kernel
theorem dL_law_201 : decode cL_law 201 = .ok (.invokevirtual 13, 3) := by decide +kernel
theorem dL_law_204 : decode cL_law 204 = .ok (.aload_n 2, 1) := by decide +kernel
theorem dL_law_205 : decode cL_law 205 = .ok (.invokevirtual 17, 3) := by decide +kernel
theorem dL_law_208 : decode cL_law 208 = .ok (.if_icmp .eq 1103, 3) := by decide +kernel
theorem dL_law_211 : decode cL_law 211 = .ok (.iconst 0, 1) := by decide +kernel
theorem dL_law_212 : decode cL_law 212 = .ok (.ireturn, 1) := by decide +kernel
theorem dL_law_213 : decode cL_law 213 = .ok (.aload_n 1, 1) := by decide +kernel
theorem dL_law_214 : decode cL_law 214 = .ok (.aload_n 0, 1) := by decide +kernel
theorem dL_law_215 : decode cL_law 215 = .ok (.iload_n 3, 1) := by decide +kernel
theorem dL_law_216 : decode cL_law 216 = .ok (.iconst 1, 1) := by decide +kernel
theorem dL_law_217 : decode cL_law 217 = .ok (.iadd, 1) := by decide +kernel
theorem dL_law_218 : decode cL_law 218 = .ok (.iaload, 1) := by decide +kernel
theorem dL_law_219 : decode cL_law 219 = .ok (.aload_n 0, 1) := by decide +kernel
theorem dL_law_220 : decode cL_law 220 = .ok (.iload_n 3, 1) := by decide +kernel
theorem dL_law_221 : decode cL_law 221 = .ok (.iconst 2, 1) := by decide +kernel
theorem dL_law_222 : decode cL_law 222 = .ok (.iadd, 1) := by decide +kernel
theorem dL_law_223 : decode cL_law 223 = .ok (.iaload, 1) := by decide +kernel
theorem dL_law_224 : decode cL_law 224 = .ok (.aload_n 0, 1) := by decide +kernel
theorem dL_law_225 : decode cL_law 225 = .ok (.iload_n 3, 1) := by decide +kernel
theorem dL_law_226 : decode cL_law 226 = .ok (.iconst 3, 1) := by decide +kernel
theorem dL_law_227 : decode cL_law 227 = .ok (.iadd, 1) := by decide +kernel
theorem dL_law_228 : decode cL_law 228 = .ok (.iaload, 1) := by decide +kernel
theorem dL_law_229 : decode cL_law 229 = .ok (.invokevirtual 18, 3) := by decide +kernel
theorem dL_law_232 : decode cL_law 232 = .ok (.aload_n 2, 1) := by decide +kernel
theorem dL_law_233 : decode cL_law 233 = .ok (.aload_n 0, 1) := by decide +kernel
theorem dL_law_234 : decode cL_law 234 = .ok (.iload_n 3, 1) := by decide +kernel
theorem dL_law_235 : decode cL_law 235 = .ok (.iconst 1, 1) := by decide +kernel
theorem dL_law_236 : decode cL_law 236 = .ok (.iadd, 1) := by decide +kernel
theorem dL_law_237 : decode cL_law 237 = .ok (.iaload, 1) := by decide +kernel
theorem dL_law_238 : decode cL_law 238 = .ok (.aload_n 0, 1) := by decide +kernel
theorem dL_law_239 : decode cL_law 239 = .ok (.iload_n 3, 1) := by decide +kernel
theorem dL_law_240 : decode cL_law 240 = .ok (.iconst 2, 1) := by decide +kernel
theorem dL_law_241 : decode cL_law 241 = .ok (.iadd, 1) := by decide +kernel
theorem dL_law_242 : decode cL_law 242 = .ok (.iaload, 1) := by decide +kernel
theorem dL_law_243 : decode cL_law 243 = .ok (.aload_n 0, 1) := by decide +kernel
theorem dL_law_244 : decode cL_law 244 = .ok (.iload_n 3, 1) := by decide +kernel
theorem dL_law_245 : decode cL_law 245 = .ok (.iconst 3, 1) := by decide +kernel
theorem dL_law_246 : decode cL_law 246 = .ok (.iadd, 1) := by decide +kernel
theorem dL_law_247 : decode cL_law 247 = .ok (.iaload, 1) := by decide +kernel
theorem dL_law_248 : decode cL_law 248 = .ok (.invokevirtual 22, 3) := by decide +kernel
theorem dL_law_251 : decode cL_law 251 = .ok (.if_icmp .eq 1060, 3) := by decide +kernel
theorem dL_law_254 : decode cL_law 254 = .ok (.iconst 0, 1) := by decide +kernel
theorem dL_law_255 : decode cL_law 255 = .ok (.ireturn, 1) := by decide +kernel
theorem dL_law_256 : decode cL_law 256 = .ok (.aload_n 1, 1) := by decide +kernel
theorem dL_law_257 : decode cL_law 257 = .ok (.aload_n 0, 1) := by decide +kernel
theorem dL_law_258 : decode cL_law 258 = .ok (.iload_n 3, 1) := by decide +kernel
theorem dL_law_259 : decode cL_law 259 = .ok (.iconst 1, 1) := by decide +kernel
theorem dL_law_260 : decode cL_law 260 = .ok (.iadd, 1) := by decide +kernel
theorem dL_law_261 : decode cL_law 261 = .ok (.iaload, 1) := by decide +kernel
theorem dL_law_262 : decode cL_law 262 = .ok (.aload_n 0, 1) := by decide +kernel
theorem dL_law_263 : decode cL_law 263 = .ok (.iload_n 3, 1) := by decide +kernel
theorem dL_law_264 : decode cL_law 264 = .ok (.iconst 2, 1) := by decide +kernel
theorem dL_law_265 : decode cL_law 265 = .ok (.iadd, 1) := by decide +kernel
theorem dL_law_266 : decode cL_law 266 = .ok (.iaload, 1) := by decide +kernel
theorem dL_law_267 : decode cL_law 267 = .ok (.invokevirtual 23, 3) := by decide +kernel
theorem dL_law_270 : decode cL_law 270 = .ok (.aload_n 2, 1) := by decide +kernel
theorem dL_law_271 : decode cL_law 271 = .ok (.aload_n 0, 1) := by decide +kernel
theorem dL_law_272 : decode cL_law 272 = .ok (.iload_n 3, 1) := by decide +kernel
theorem dL_law_273 : decode cL_law 273 = .ok (.iconst 1, 1) := by decide +kernel
theorem dL_law_274 : decode cL_law 274 = .ok (.iadd, 1) := by decide +kernel
theorem dL_law_275 : decode cL_law 275 = .ok (.iaload, 1) := by decide +kernel
theorem dL_law_276 : decode cL_law 276 = .ok (.aload_n 0, 1) := by decide +kernel
theorem dL_law_277 : decode cL_law 277 = .ok (.iload_n 3, 1) := by decide +kernel
theorem dL_law_278 : decode cL_law 278 = .ok (.iconst 2, 1) := by decide +kernel
theorem dL_law_279 : decode cL_law 279 = .ok (.iadd, 1) := by decide +kernel
theorem dL_law_280 : decode cL_law 280 = .ok (.iaload, 1) := by decide +kernel
theorem dL_law_281 : decode cL_law 281 = .ok (.invokevirtual 27, 3) := by decide +kernel
theorem dL_law_284 : decode cL_law 284 = .ok (.if_icmp .eq 1027, 3) := by decide +kernel
theorem dL_law_287 : decode cL_law 287 = .ok (.iconst 0, 1) := by decide +kernel
theorem dL_law_288 : decode cL_law 288 = .ok (.ireturn, 1) := by decide +kernel
theorem dL_law_289 : decode cL_law 289 = .ok (.aload_n 1, 1) := by decide +kernel
theorem dL_law_290 : decode cL_law 290 = .ok (.aload_n 0, 1) := by decide +kernel
theorem dL_law_291 : decode cL_law 291 = .ok (.iload_n 3, 1) := by decide +kernel
theorem dL_law_292 : decode cL_law 292 = .ok (.iconst 1, 1) := by decide +kernel
theorem dL_law_293 : decode cL_law 293 = .ok (.iadd, 1) := by decide +kernel
theorem dL_law_294 : decode cL_law 294 = .ok (.iaload, 1) := by decide +kernel
theorem dL_law_295 : decode cL_law 295 = .ok (.ifCond .eq 7, 3) := by decide +kernel
theorem dL_law_298 : decode cL_law 298 = .ok (.iconst 1, 1) := by decide +kernel
theorem dL_law_299 : decode cL_law 299 = .ok (.goto 4, 3) := by decide +kernel
theorem dL_law_302 : decode cL_law 302 = .ok (.iconst 0, 1) := by decide +kernel
theorem dL_law_303 : decode cL_law 303 = .ok (.aload_n 0, 1) := by decide +kernel
theorem dL_law_304 : decode cL_law 304 = .ok (.iload_n 3, 1) := by decide +kernel
theorem dL_law_305 : decode cL_law 305 = .ok (.iconst 2, 1) := by decide +kernel
theorem dL_law_306 : decode cL_law 306 = .ok (.iadd, 1) := by decide +kernel
theorem dL_law_307 : decode cL_law 307 = .ok (.iaload, 1) := by decide +kernel
theorem dL_law_308 : decode cL_law 308 = .ok (.aload_n 0, 1) := by decide +kernel
theorem dL_law_309 : decode cL_law 309 = .ok (.iload_n 3, 1) := by decide +kernel
theorem dL_law_310 : decode cL_law 310 = .ok (.iconst 3, 1) := by decide +kernel
theorem dL_law_311 : decode cL_law 311 = .ok (.iadd, 1) := by decide +kernel
theorem dL_law_312 : decode cL_law 312 = .ok (.iaload, 1) := by decide +kernel
theorem dL_law_313 : decode cL_law 313 = .ok (.aload_n 0, 1) := by decide +kernel
theorem dL_law_314 : decode cL_law 314 = .ok (.iload_n 3, 1) := by decide +kernel
theorem dL_law_315 : decode cL_law 315 = .ok (.iconst 4, 1) := by decide +kernel
theorem dL_law_316 : decode cL_law 316 = .ok (.iadd, 1) := by decide +kernel
theorem dL_law_317 : decode cL_law 317 = .ok (.iaload, 1) := by decide +kernel
theorem dL_law_318 : decode cL_law 318 = .ok (.aload_n 0, 1) := by decide +kernel
theorem dL_law_319 : decode cL_law 319 = .ok (.iload_n 3, 1) := by decide +kernel
theorem dL_law_320 : decode cL_law 320 = .ok (.iconst 5, 1) := by decide +kernel
theorem dL_law_321 : decode cL_law 321 = .ok (.iadd, 1) := by decide +kernel
theorem dL_law_322 : decode cL_law 322 = .ok (.iaload, 1) := by decide +kernel
theorem dL_law_323 : decode cL_law 323 = .ok (.invokevirtual 28, 3) := by decide +kernel
theorem dL_law_326 : decode cL_law 326 = .ok (.aload_n 2, 1) := by decide +kernel
theorem dL_law_327 : decode cL_law 327 = .ok (.aload_n 0, 1) := by decide +kernel
theorem dL_law_328 : decode cL_law 328 = .ok (.iload_n 3, 1) := by decide +kernel
theorem dL_law_329 : decode cL_law 329 = .ok (.iconst 1, 1) := by decide +kernel
theorem dL_law_330 : decode cL_law 330 = .ok (.iadd, 1) := by decide +kernel
theorem dL_law_331 : decode cL_law 331 = .ok (.iaload, 1) := by decide +kernel
theorem dL_law_332 : decode cL_law 332 = .ok (.ifCond .eq 7, 3) := by decide +kernel
theorem dL_law_335 : decode cL_law 335 = .ok (.iconst 1, 1) := by decide +kernel
theorem dL_law_336 : decode cL_law 336 = .ok (.goto 4, 3) := by decide +kernel
theorem dL_law_339 : decode cL_law 339 = .ok (.iconst 0, 1) := by decide +kernel
theorem dL_law_340 : decode cL_law 340 = .ok (.aload_n 0, 1) := by decide +kernel
theorem dL_law_341 : decode cL_law 341 = .ok (.iload_n 3, 1) := by decide +kernel
theorem dL_law_342 : decode cL_law 342 = .ok (.iconst 2, 1) := by decide +kernel
theorem dL_law_343 : decode cL_law 343 = .ok (.iadd, 1) := by decide +kernel
theorem dL_law_344 : decode cL_law 344 = .ok (.iaload, 1) := by decide +kernel
theorem dL_law_345 : decode cL_law 345 = .ok (.aload_n 0, 1) := by decide +kernel
theorem dL_law_346 : decode cL_law 346 = .ok (.iload_n 3, 1) := by decide +kernel
theorem dL_law_347 : decode cL_law 347 = .ok (.iconst 3, 1) := by decide +kernel
theorem dL_law_348 : decode cL_law 348 = .ok (.iadd, 1) := by decide +kernel
theorem dL_law_349 : decode cL_law 349 = .ok (.iaload, 1) := by decide +kernel
theorem dL_law_350 : decode cL_law 350 = .ok (.aload_n 0, 1) := by decide +kernel
theorem dL_law_351 : decode cL_law 351 = .ok (.iload_n 3, 1) := by decide +kernel
theorem dL_law_352 : decode cL_law 352 = .ok (.iconst 4, 1) := by decide +kernel
theorem dL_law_353 : decode cL_law 353 = .ok (.iadd, 1) := by decide +kernel
theorem dL_law_354 : decode cL_law 354 = .ok (.iaload, 1) := by decide +kernel
theorem dL_law_355 : decode cL_law 355 = .ok (.aload_n 0, 1) := by decide +kernel
theorem dL_law_356 : decode cL_law 356 = .ok (.iload_n 3, 1) := by decide +kernel
theorem dL_law_357 : decode cL_law 357 = .ok (.iconst 5, 1) := by decide +kernel
theorem dL_law_358 : decode cL_law 358 = .ok (.iadd, 1) := by decide +kernel
theorem dL_law_359 : decode cL_law 359 = .ok (.iaload, 1) := by decide +kernel
theorem dL_law_360 : decode cL_law 360 = .ok (.invokevirtual 32, 3) := by decide +kernel
theorem dL_law_363 : decode cL_law 363 = .ok (.if_icmp .eq 948, 3) := by decide +kernel
theorem dL_law_366 : decode cL_law 366 = .ok (.iconst 0, 1) := by decide +kernel
theorem dL_law_367 : decode cL_law 367 = .ok (.ireturn, 1) := by decide +kernel
theorem dL_law_368 : decode cL_law 368 = .ok (.aload_n 1, 1) := by decide +kernel
theorem dL_law_369 : decode cL_law 369 = .ok (.aload_n 0, 1) := by decide +kernel
theorem dL_law_370 : decode cL_law 370 = .ok (.iload_n 3, 1) := by decide +kernel
theorem dL_law_371 : decode cL_law 371 = .ok (.iconst 1, 1) := by decide +kernel
theorem dL_law_372 : decode cL_law 372 = .ok (.iadd, 1) := by decide +kernel
theorem dL_law_373 : decode cL_law 373 = .ok (.iaload, 1) := by decide +kernel
theorem dL_law_374 : decode cL_law 374 = .ok (.aload_n 0, 1) := by decide +kernel
theorem dL_law_375 : decode cL_law 375 = .ok (.iload_n 3, 1) := by decide +kernel
theorem dL_law_376 : decode cL_law 376 = .ok (.iconst 2, 1) := by decide +kernel
theorem dL_law_377 : decode cL_law 377 = .ok (.iadd, 1) := by decide +kernel
theorem dL_law_378 : decode cL_law 378 = .ok (.iaload, 1) := by decide +kernel
theorem dL_law_379 : decode cL_law 379 = .ok (.invokevirtual 33, 3) := by decide +kernel
theorem dL_law_382 : decode cL_law 382 = .ok (.aload_n 2, 1) := by decide +kernel
theorem dL_law_383 : decode cL_law 383 = .ok (.aload_n 0, 1) := by decide +kernel
theorem dL_law_384 : decode cL_law 384 = .ok (.iload_n 3, 1) := by decide +kernel
theorem dL_law_385 : decode cL_law 385 = .ok (.iconst 1, 1) := by decide +kernel
theorem dL_law_386 : decode cL_law 386 = .ok (.iadd, 1) := by decide +kernel
theorem dL_law_387 : decode cL_law 387 = .ok (.iaload, 1) := by decide +kernel
theorem dL_law_388 : decode cL_law 388 = .ok (.aload_n 0, 1) := by decide +kernel
theorem dL_law_389 : decode cL_law 389 = .ok (.iload_n 3, 1) := by decide +kernel
theorem dL_law_390 : decode cL_law 390 = .ok (.iconst 2, 1) := by decide +kernel
theorem dL_law_391 : decode cL_law 391 = .ok (.iadd, 1) := by decide +kernel
theorem dL_law_392 : decode cL_law 392 = .ok (.iaload, 1) := by decide +kernel
theorem dL_law_393 : decode cL_law 393 = .ok (.invokevirtual 36, 3) := by decide +kernel
theorem dL_law_396 : decode cL_law 396 = .ok (.if_icmp .eq 915, 3) := by decide +kernel
theorem dL_law_399 : decode cL_law 399 = .ok (.iconst 0, 1) := by decide +kernel
theorem dL_law_400 : decode cL_law 400 = .ok (.ireturn, 1) := by decide +kernel
theorem dL_law_401 : decode cL_law 401 = .ok (.aload_n 1, 1) := by decide +kernel
theorem dL_law_402 : decode cL_law 402 = .ok (.aload_n 0, 1) := by decide +kernel
theorem dL_law_403 : decode cL_law 403 = .ok (.iload_n 3, 1) := by decide +kernel
theorem dL_law_404 : decode cL_law 404 = .ok (.iconst 1, 1) := by decide +kernel
theorem dL_law_405 : decode cL_law 405 = .ok (.iadd, 1) := by decide +kernel
theorem dL_law_406 : decode cL_law 406 = .ok (.iaload, 1) := by decide +kernel
theorem dL_law_407 : decode cL_law 407 = .ok (.aload_n 0, 1) := by decide +kernel
theorem dL_law_408 : decode cL_law 408 = .ok (.iload_n 3, 1) := by decide +kernel
theorem dL_law_409 : decode cL_law 409 = .ok (.iconst 2, 1) := by decide +kernel
theorem dL_law_410 : decode cL_law 410 = .ok (.iadd, 1) := by decide +kernel
theorem dL_law_411 : decode cL_law 411 = .ok (.iaload, 1) := by decide +kernel
theorem dL_law_412 : decode cL_law 412 = .ok (.invokevirtual 37, 3) := by decide +kernel
theorem dL_law_415 : decode cL_law 415 = .ok (.aload_n 2, 1) := by decide +kernel
theorem dL_law_416 : decode cL_law 416 = .ok (.aload_n 0, 1) := by decide +kernel
theorem dL_law_417 : decode cL_law 417 = .ok (.iload_n 3, 1) := by decide +kernel
theorem dL_law_418 : decode cL_law 418 = .ok (.iconst 1, 1) := by decide +kernel
theorem dL_law_419 : decode cL_law 419 = .ok (.iadd, 1) := by decide +kernel
theorem dL_law_420 : decode cL_law 420 = .ok (.iaload, 1) := by decide +kernel
theorem dL_law_421 : decode cL_law 421 = .ok (.aload_n 0, 1) := by decide +kernel
theorem dL_law_422 : decode cL_law 422 = .ok (.iload_n 3, 1) := by decide +kernel
theorem dL_law_423 : decode cL_law 423 = .ok (.iconst 2, 1) := by decide +kernel
theorem dL_law_424 : decode cL_law 424 = .ok (.iadd, 1) := by decide +kernel
theorem dL_law_425 : decode cL_law 425 = .ok (.iaload, 1) := by decide +kernel
theorem dL_law_426 : decode cL_law 426 = .ok (.invokevirtual 40, 3) := by decide +kernel
theorem dL_law_429 : decode cL_law 429 = .ok (.if_icmp .eq 882, 3) := by decide +kernel
theorem dL_law_432 : decode cL_law 432 = .ok (.iconst 0, 1) := by decide +kernel
theorem dL_law_433 : decode cL_law 433 = .ok (.ireturn, 1) := by decide +kernel
theorem dL_law_434 : decode cL_law 434 = .ok (.aload_n 1, 1) := by decide +kernel
theorem dL_law_435 : decode cL_law 435 = .ok (.aload_n 0, 1) := by decide +kernel
theorem dL_law_436 : decode cL_law 436 = .ok (.iload_n 3, 1) := by decide +kernel
theorem dL_law_437 : decode cL_law 437 = .ok (.iconst 1, 1) := by decide +kernel
theorem dL_law_438 : decode cL_law 438 = .ok (.iadd, 1) := by decide +kernel
theorem dL_law_439 : decode cL_law 439 = .ok (.iaload, 1) := by decide +kernel
theorem dL_law_440 : decode cL_law 440 = .ok (.aload_n 0, 1) := by decide +kernel
theorem dL_law_441 : decode cL_law 441 = .ok (.iload_n 3, 1) := by decide +kernel
theorem dL_law_442 : decode cL_law 442 = .ok (.iconst 2, 1) := by decide +kernel
theorem dL_law_443 : decode cL_law 443 = .ok (.iadd, 1) := by decide +kernel
theorem dL_law_444 : decode cL_law 444 = .ok (.iaload, 1) := by decide +kernel
theorem dL_law_445 : decode cL_law 445 = .ok (.invokevirtual 41, 3) := by decide +kernel
theorem dL_law_448 : decode cL_law 448 = .ok (.aload_n 2, 1) := by decide +kernel
theorem dL_law_449 : decode cL_law 449 = .ok (.aload_n 0, 1) := by decide +kernel
theorem dL_law_450 : decode cL_law 450 = .ok (.iload_n 3, 1) := by decide +kernel
theorem dL_law_451 : decode cL_law 451 = .ok (.iconst 1, 1) := by decide +kernel
theorem dL_law_452 : decode cL_law 452 = .ok (.iadd, 1) := by decide +kernel
theorem dL_law_453 : decode cL_law 453 = .ok (.iaload, 1) := by decide +kernel
theorem dL_law_454 : decode cL_law 454 = .ok (.aload_n 0, 1) := by decide +kernel
theorem dL_law_455 : decode cL_law 455 = .ok (.iload_n 3, 1) := by decide +kernel
theorem dL_law_456 : decode cL_law 456 = .ok (.iconst 2, 1) := by decide +kernel
theorem dL_law_457 : decode cL_law 457 = .ok (.iadd, 1) := by decide +kernel
theorem dL_law_458 : decode cL_law 458 = .ok (.iaload, 1) := by decide +kernel
theorem dL_law_459 : decode cL_law 459 = .ok (.invokevirtual 44, 3) := by decide +kernel
theorem dL_law_462 : decode cL_law 462 = .ok (.if_icmp .eq 849, 3) := by decide +kernel
theorem dL_law_465 : decode cL_law 465 = .ok (.iconst 0, 1) := by decide +kernel
theorem dL_law_466 : decode cL_law 466 = .ok (.ireturn, 1) := by decide +kernel
theorem dL_law_467 : decode cL_law 467 = .ok (.aload_n 1, 1) := by decide +kernel
theorem dL_law_468 : decode cL_law 468 = .ok (.aload_n 0, 1) := by decide +kernel
theorem dL_law_469 : decode cL_law 469 = .ok (.iload_n 3, 1) := by decide +kernel
theorem dL_law_470 : decode cL_law 470 = .ok (.iconst 1, 1) := by decide +kernel
theorem dL_law_471 : decode cL_law 471 = .ok (.iadd, 1) := by decide +kernel
theorem dL_law_472 : decode cL_law 472 = .ok (.iaload, 1) := by decide +kernel
theorem dL_law_473 : decode cL_law 473 = .ok (.invokevirtual 45, 3) := by decide +kernel
theorem dL_law_476 : decode cL_law 476 = .ok (.aload_n 2, 1) := by decide +kernel
theorem dL_law_477 : decode cL_law 477 = .ok (.aload_n 0, 1) := by decide +kernel
theorem dL_law_478 : decode cL_law 478 = .ok (.iload_n 3, 1) := by decide +kernel
theorem dL_law_479 : decode cL_law 479 = .ok (.iconst 1, 1) := by decide +kernel
theorem dL_law_480 : decode cL_law 480 = .ok (.iadd, 1) := by decide +kernel
theorem dL_law_481 : decode cL_law 481 = .ok (.iaload, 1) := by decide +kernel
theorem dL_law_482 : decode cL_law 482 = .ok (.invokevirtual 49, 3) := by decide +kernel
theorem dL_law_485 : decode cL_law 485 = .ok (.if_icmp .eq 826, 3) := by decide +kernel
theorem dL_law_488 : decode cL_law 488 = .ok (.iconst 0, 1) := by decide +kernel
theorem dL_law_489 : decode cL_law 489 = .ok (.ireturn, 1) := by decide +kernel
theorem dL_law_490 : decode cL_law 490 = .ok (.aload_n 1, 1) := by decide +kernel
theorem dL_law_491 : decode cL_law 491 = .ok (.aload_n 0, 1) := by decide +kernel
theorem dL_law_492 : decode cL_law 492 = .ok (.iload_n 3, 1) := by decide +kernel
theorem dL_law_493 : decode cL_law 493 = .ok (.iconst 1, 1) := by decide +kernel
theorem dL_law_494 : decode cL_law 494 = .ok (.iadd, 1) := by decide +kernel
theorem dL_law_495 : decode cL_law 495 = .ok (.iaload, 1) := by decide +kernel
theorem dL_law_496 : decode cL_law 496 = .ok (.aload_n 0, 1) := by decide +kernel
theorem dL_law_497 : decode cL_law 497 = .ok (.iload_n 3, 1) := by decide +kernel
theorem dL_law_498 : decode cL_law 498 = .ok (.iconst 2, 1) := by decide +kernel
theorem dL_law_499 : decode cL_law 499 = .ok (.iadd, 1) := by decide +kernel
theorem dL_law_500 : decode cL_law 500 = .ok (.iaload, 1) := by decide +kernel
theorem dL_law_501 : decode cL_law 501 = .ok (.invokevirtual 50, 3) := by decide +kernel
theorem dL_law_504 : decode cL_law 504 = .ok (.aload_n 2, 1) := by decide +kernel
theorem dL_law_505 : decode cL_law 505 = .ok (.aload_n 0, 1) := by decide +kernel
theorem dL_law_506 : decode cL_law 506 = .ok (.iload_n 3, 1) := by decide +kernel
theorem dL_law_507 : decode cL_law 507 = .ok (.iconst 1, 1) := by decide +kernel
theorem dL_law_508 : decode cL_law 508 = .ok (.iadd, 1) := by decide +kernel
theorem dL_law_509 : decode cL_law 509 = .ok (.iaload, 1) := by decide +kernel
theorem dL_law_510 : decode cL_law 510 = .ok (.aload_n 0, 1) := by decide +kernel
theorem dL_law_511 : decode cL_law 511 = .ok (.iload_n 3, 1) := by decide +kernel
theorem dL_law_512 : decode cL_law 512 = .ok (.iconst 2, 1) := by decide +kernel
theorem dL_law_513 : decode cL_law 513 = .ok (.iadd, 1) := by decide +kernel
theorem dL_law_514 : decode cL_law 514 = .ok (.iaload, 1) := by decide +kernel
theorem dL_law_515 : decode cL_law 515 = .ok (.invokevirtual 53, 3) := by decide +kernel
theorem dL_law_518 : decode cL_law 518 = .ok (.if_icmp .eq 793, 3) := by decide +kernel
theorem dL_law_521 : decode cL_law 521 = .ok (.iconst 0, 1) := by decide +kernel
theorem dL_law_522 : decode cL_law 522 = .ok (.ireturn, 1) := by decide +kernel
theorem dL_law_523 : decode cL_law 523 = .ok (.aload_n 1, 1) := by decide +kernel
theorem dL_law_524 : decode cL_law 524 = .ok (.aload_n 0, 1) := by decide +kernel
theorem dL_law_525 : decode cL_law 525 = .ok (.iload_n 3, 1) := by decide +kernel
theorem dL_law_526 : decode cL_law 526 = .ok (.iconst 1, 1) := by decide +kernel
theorem dL_law_527 : decode cL_law 527 = .ok (.iadd, 1) := by decide +kernel
theorem dL_law_528 : decode cL_law 528 = .ok (.iaload, 1) := by decide +kernel
theorem dL_law_529 : decode cL_law 529 = .ok (.aload_n 0, 1) := by decide +kernel
theorem dL_law_530 : decode cL_law 530 = .ok (.iload_n 3, 1) := by decide +kernel
theorem dL_law_531 : decode cL_law 531 = .ok (.iconst 2, 1) := by decide +kernel
theorem dL_law_532 : decode cL_law 532 = .ok (.iadd, 1) := by decide +kernel
theorem dL_law_533 : decode cL_law 533 = .ok (.iaload, 1) := by decide +kernel
theorem dL_law_534 : decode cL_law 534 = .ok (.invokevirtual 54, 3) := by decide +kernel
theorem dL_law_537 : decode cL_law 537 = .ok (.aload_n 2, 1) := by decide +kernel
theorem dL_law_538 : decode cL_law 538 = .ok (.aload_n 0, 1) := by decide +kernel
theorem dL_law_539 : decode cL_law 539 = .ok (.iload_n 3, 1) := by decide +kernel
theorem dL_law_540 : decode cL_law 540 = .ok (.iconst 1, 1) := by decide +kernel
theorem dL_law_541 : decode cL_law 541 = .ok (.iadd, 1) := by decide +kernel
theorem dL_law_542 : decode cL_law 542 = .ok (.iaload, 1) := by decide +kernel
theorem dL_law_543 : decode cL_law 543 = .ok (.aload_n 0, 1) := by decide +kernel
theorem dL_law_544 : decode cL_law 544 = .ok (.iload_n 3, 1) := by decide +kernel
theorem dL_law_545 : decode cL_law 545 = .ok (.iconst 2, 1) := by decide +kernel
theorem dL_law_546 : decode cL_law 546 = .ok (.iadd, 1) := by decide +kernel
theorem dL_law_547 : decode cL_law 547 = .ok (.iaload, 1) := by decide +kernel
theorem dL_law_548 : decode cL_law 548 = .ok (.invokevirtual 57, 3) := by decide +kernel
theorem dL_law_551 : decode cL_law 551 = .ok (.if_icmp .eq 760, 3) := by decide +kernel
theorem dL_law_554 : decode cL_law 554 = .ok (.iconst 0, 1) := by decide +kernel
theorem dL_law_555 : decode cL_law 555 = .ok (.ireturn, 1) := by decide +kernel
theorem dL_law_556 : decode cL_law 556 = .ok (.aload_n 1, 1) := by decide +kernel
theorem dL_law_557 : decode cL_law 557 = .ok (.aload_n 0, 1) := by decide +kernel
theorem dL_law_558 : decode cL_law 558 = .ok (.iload_n 3, 1) := by decide +kernel
theorem dL_law_559 : decode cL_law 559 = .ok (.iconst 1, 1) := by decide +kernel
theorem dL_law_560 : decode cL_law 560 = .ok (.iadd, 1) := by decide +kernel
theorem dL_law_561 : decode cL_law 561 = .ok (.iaload, 1) := by decide +kernel
theorem dL_law_562 : decode cL_law 562 = .ok (.invokevirtual 58, 3) := by decide +kernel
theorem dL_law_565 : decode cL_law 565 = .ok (.aload_n 2, 1) := by decide +kernel
theorem dL_law_566 : decode cL_law 566 = .ok (.aload_n 0, 1) := by decide +kernel
theorem dL_law_567 : decode cL_law 567 = .ok (.iload_n 3, 1) := by decide +kernel
theorem dL_law_568 : decode cL_law 568 = .ok (.iconst 1, 1) := by decide +kernel
theorem dL_law_569 : decode cL_law 569 = .ok (.iadd, 1) := by decide +kernel
theorem dL_law_570 : decode cL_law 570 = .ok (.iaload, 1) := by decide +kernel
theorem dL_law_571 : decode cL_law 571 = .ok (.invokevirtual 61, 3) := by decide +kernel
theorem dL_law_574 : decode cL_law 574 = .ok (.if_icmp .eq 737, 3) := by decide +kernel
theorem dL_law_577 : decode cL_law 577 = .ok (.iconst 0, 1) := by decide +kernel
theorem dL_law_578 : decode cL_law 578 = .ok (.ireturn, 1) := by decide +kernel
theorem dL_law_579 : decode cL_law 579 = .ok (.aload_n 1, 1) := by decide +kernel
theorem dL_law_580 : decode cL_law 580 = .ok (.aload_n 0, 1) := by decide +kernel
theorem dL_law_581 : decode cL_law 581 = .ok (.iload_n 3, 1) := by decide +kernel
theorem dL_law_582 : decode cL_law 582 = .ok (.iconst 1, 1) := by decide +kernel
theorem dL_law_583 : decode cL_law 583 = .ok (.iadd, 1) := by decide +kernel
theorem dL_law_584 : decode cL_law 584 = .ok (.iaload, 1) := by decide +kernel
theorem dL_law_585 : decode cL_law 585 = .ok (.aload_n 0, 1) := by decide +kernel
theorem dL_law_586 : decode cL_law 586 = .ok (.iload_n 3, 1) := by decide +kernel
theorem dL_law_587 : decode cL_law 587 = .ok (.iconst 2, 1) := by decide +kernel
theorem dL_law_588 : decode cL_law 588 = .ok (.iadd, 1) := by decide +kernel
theorem dL_law_589 : decode cL_law 589 = .ok (.iaload, 1) := by decide +kernel
theorem dL_law_590 : decode cL_law 590 = .ok (.invokevirtual 62, 3) := by decide +kernel
theorem dL_law_593 : decode cL_law 593 = .ok (.aload_n 2, 1) := by decide +kernel
theorem dL_law_594 : decode cL_law 594 = .ok (.aload_n 0, 1) := by decide +kernel
theorem dL_law_595 : decode cL_law 595 = .ok (.iload_n 3, 1) := by decide +kernel
theorem dL_law_596 : decode cL_law 596 = .ok (.iconst 1, 1) := by decide +kernel
theorem dL_law_597 : decode cL_law 597 = .ok (.iadd, 1) := by decide +kernel
theorem dL_law_598 : decode cL_law 598 = .ok (.iaload, 1) := by decide +kernel
theorem dL_law_599 : decode cL_law 599 = .ok (.aload_n 0, 1) := by decide +kernel
theorem dL_law_600 : decode cL_law 600 = .ok (.iload_n 3, 1) := by decide +kernel
theorem dL_law_601 : decode cL_law 601 = .ok (.iconst 2, 1) := by decide +kernel
theorem dL_law_602 : decode cL_law 602 = .ok (.iadd, 1) := by decide +kernel
theorem dL_law_603 : decode cL_law 603 = .ok (.iaload, 1) := by decide +kernel
theorem dL_law_604 : decode cL_law 604 = .ok (.invokevirtual 65, 3) := by decide +kernel
theorem dL_law_607 : decode cL_law 607 = .ok (.if_icmp .eq 704, 3) := by decide +kernel
theorem dL_law_610 : decode cL_law 610 = .ok (.iconst 0, 1) := by decide +kernel
theorem dL_law_611 : decode cL_law 611 = .ok (.ireturn, 1) := by decide +kernel
theorem dL_law_612 : decode cL_law 612 = .ok (.aload_n 1, 1) := by decide +kernel
theorem dL_law_613 : decode cL_law 613 = .ok (.aload_n 0, 1) := by decide +kernel
theorem dL_law_614 : decode cL_law 614 = .ok (.iload_n 3, 1) := by decide +kernel
theorem dL_law_615 : decode cL_law 615 = .ok (.iconst 1, 1) := by decide +kernel
theorem dL_law_616 : decode cL_law 616 = .ok (.iadd, 1) := by decide +kernel
theorem dL_law_617 : decode cL_law 617 = .ok (.iaload, 1) := by decide +kernel
theorem dL_law_618 : decode cL_law 618 = .ok (.i2l, 1) := by decide +kernel
theorem dL_law_619 : decode cL_law 619 = .ok (.bipush 32, 2) := by decide +kernel
theorem dL_law_621 : decode cL_law 621 = .ok (.lshl, 1) := by decide +kernel
theorem dL_law_622 : decode cL_law 622 = .ok (.aload_n 0, 1) := by decide +kernel
theorem dL_law_623 : decode cL_law 623 = .ok (.iload_n 3, 1) := by decide +kernel
theorem dL_law_624 : decode cL_law 624 = .ok (.iconst 2, 1) := by decide +kernel
theorem dL_law_625 : decode cL_law 625 = .ok (.iadd, 1) := by decide +kernel
theorem dL_law_626 : decode cL_law 626 = .ok (.iaload, 1) := by decide +kernel
theorem dL_law_627 : decode cL_law 627 = .ok (.i2l, 1) := by decide +kernel
theorem dL_law_628 : decode cL_law 628 = .ok (.ldc2_w 66, 3) := by decide +kernel
theorem dL_law_631 : decode cL_law 631 = .ok (.land, 1) := by decide +kernel
theorem dL_law_632 : decode cL_law 632 = .ok (.lor, 1) := by decide +kernel
theorem dL_law_633 : decode cL_law 633 = .ok (.aload_n 0, 1) := by decide +kernel
theorem dL_law_634 : decode cL_law 634 = .ok (.iload_n 3, 1) := by decide +kernel
theorem dL_law_635 : decode cL_law 635 = .ok (.iconst 3, 1) := by decide +kernel
theorem dL_law_636 : decode cL_law 636 = .ok (.iadd, 1) := by decide +kernel
theorem dL_law_637 : decode cL_law 637 = .ok (.iaload, 1) := by decide +kernel
theorem dL_law_638 : decode cL_law 638 = .ok (.invokevirtual 68, 3) := by decide +kernel
theorem dL_law_641 : decode cL_law 641 = .ok (.aload_n 2, 1) := by decide +kernel
theorem dL_law_642 : decode cL_law 642 = .ok (.aload_n 0, 1) := by decide +kernel
theorem dL_law_643 : decode cL_law 643 = .ok (.iload_n 3, 1) := by decide +kernel
theorem dL_law_644 : decode cL_law 644 = .ok (.iconst 1, 1) := by decide +kernel
theorem dL_law_645 : decode cL_law 645 = .ok (.iadd, 1) := by decide +kernel
theorem dL_law_646 : decode cL_law 646 = .ok (.iaload, 1) := by decide +kernel
theorem dL_law_647 : decode cL_law 647 = .ok (.i2l, 1) := by decide +kernel
theorem dL_law_648 : decode cL_law 648 = .ok (.bipush 32, 2) := by decide +kernel
theorem dL_law_650 : decode cL_law 650 = .ok (.lshl, 1) := by decide +kernel
theorem dL_law_651 : decode cL_law 651 = .ok (.aload_n 0, 1) := by decide +kernel
theorem dL_law_652 : decode cL_law 652 = .ok (.iload_n 3, 1) := by decide +kernel
theorem dL_law_653 : decode cL_law 653 = .ok (.iconst 2, 1) := by decide +kernel
theorem dL_law_654 : decode cL_law 654 = .ok (.iadd, 1) := by decide +kernel
theorem dL_law_655 : decode cL_law 655 = .ok (.iaload, 1) := by decide +kernel
theorem dL_law_656 : decode cL_law 656 = .ok (.i2l, 1) := by decide +kernel
theorem dL_law_657 : decode cL_law 657 = .ok (.ldc2_w 66, 3) := by decide +kernel
theorem dL_law_660 : decode cL_law 660 = .ok (.land, 1) := by decide +kernel
theorem dL_law_661 : decode cL_law 661 = .ok (.lor, 1) := by decide +kernel
theorem dL_law_662 : decode cL_law 662 = .ok (.aload_n 0, 1) := by decide +kernel
theorem dL_law_663 : decode cL_law 663 = .ok (.iload_n 3, 1) := by decide +kernel
theorem dL_law_664 : decode cL_law 664 = .ok (.iconst 3, 1) := by decide +kernel
theorem dL_law_665 : decode cL_law 665 = .ok (.iadd, 1) := by decide +kernel
theorem dL_law_666 : decode cL_law 666 = .ok (.iaload, 1) := by decide +kernel
theorem dL_law_667 : decode cL_law 667 = .ok (.invokevirtual 72, 3) := by decide +kernel
theorem dL_law_670 : decode cL_law 670 = .ok (.if_icmp .eq 641, 3) := by decide +kernel
theorem dL_law_673 : decode cL_law 673 = .ok (.iconst 0, 1) := by decide +kernel
theorem dL_law_674 : decode cL_law 674 = .ok (.ireturn, 1) := by decide +kernel
theorem dL_law_675 : decode cL_law 675 = .ok (.aload_n 1, 1) := by decide +kernel
theorem dL_law_676 : decode cL_law 676 = .ok (.invokevirtual 73, 3) := by decide +kernel
theorem dL_law_679 : decode cL_law 679 = .ok (.aload_n 2, 1) := by decide +kernel
theorem dL_law_680 : decode cL_law 680 = .ok (.invokevirtual 76, 3) := by decide +kernel
theorem dL_law_683 : decode cL_law 683 = .ok (.if_icmp .eq 628, 3) := by decide +kernel
theorem dL_law_686 : decode cL_law 686 = .ok (.iconst 0, 1) := by decide +kernel
theorem dL_law_687 : decode cL_law 687 = .ok (.ireturn, 1) := by decide +kernel
theorem dL_law_688 : decode cL_law 688 = .ok (.aload_n 1, 1) := by decide +kernel
theorem dL_law_689 : decode cL_law 689 = .ok (.invokevirtual 77, 3) := by decide +kernel
theorem dL_law_692 : decode cL_law 692 = .ok (.aload_n 2, 1) := by decide +kernel
theorem dL_law_693 : decode cL_law 693 = .ok (.invokevirtual 80, 3) := by decide +kernel
theorem dL_law_696 : decode cL_law 696 = .ok (.if_icmp .eq 615, 3) := by decide +kernel
theorem dL_law_699 : decode cL_law 699 = .ok (.iconst 0, 1) := by decide +kernel
theorem dL_law_700 : decode cL_law 700 = .ok (.ireturn, 1) := by decide +kernel
theorem dL_law_701 : decode cL_law 701 = .ok (.aload_n 1, 1) := by decide +kernel
theorem dL_law_702 : decode cL_law 702 = .ok (.aload_n 0, 1) := by decide +kernel
theorem dL_law_703 : decode cL_law 703 = .ok (.iload_n 3, 1) := by decide +kernel
theorem dL_law_704 : decode cL_law 704 = .ok (.iconst 1, 1) := by decide +kernel
theorem dL_law_705 : decode cL_law 705 = .ok (.iadd, 1) := by decide +kernel
theorem dL_law_706 : decode cL_law 706 = .ok (.iaload, 1) := by decide +kernel
theorem dL_law_707 : decode cL_law 707 = .ok (.aload_n 0, 1) := by decide +kernel
theorem dL_law_708 : decode cL_law 708 = .ok (.iload_n 3, 1) := by decide +kernel
theorem dL_law_709 : decode cL_law 709 = .ok (.iconst 2, 1) := by decide +kernel
theorem dL_law_710 : decode cL_law 710 = .ok (.iadd, 1) := by decide +kernel
theorem dL_law_711 : decode cL_law 711 = .ok (.iaload, 1) := by decide +kernel
theorem dL_law_712 : decode cL_law 712 = .ok (.invokevirtual 81, 3) := by decide +kernel
theorem dL_law_715 : decode cL_law 715 = .ok (.aload_n 2, 1) := by decide +kernel
theorem dL_law_716 : decode cL_law 716 = .ok (.aload_n 0, 1) := by decide +kernel
theorem dL_law_717 : decode cL_law 717 = .ok (.iload_n 3, 1) := by decide +kernel
theorem dL_law_718 : decode cL_law 718 = .ok (.iconst 1, 1) := by decide +kernel
theorem dL_law_719 : decode cL_law 719 = .ok (.iadd, 1) := by decide +kernel
theorem dL_law_720 : decode cL_law 720 = .ok (.iaload, 1) := by decide +kernel
theorem dL_law_721 : decode cL_law 721 = .ok (.aload_n 0, 1) := by decide +kernel
theorem dL_law_722 : decode cL_law 722 = .ok (.iload_n 3, 1) := by decide +kernel
theorem dL_law_723 : decode cL_law 723 = .ok (.iconst 2, 1) := by decide +kernel
theorem dL_law_724 : decode cL_law 724 = .ok (.iadd, 1) := by decide +kernel
theorem dL_law_725 : decode cL_law 725 = .ok (.iaload, 1) := by decide +kernel
theorem dL_law_726 : decode cL_law 726 = .ok (.invokevirtual 84, 3) := by decide +kernel
theorem dL_law_729 : decode cL_law 729 = .ok (.if_icmp .eq 582, 3) := by decide +kernel
theorem dL_law_732 : decode cL_law 732 = .ok (.iconst 0, 1) := by decide +kernel
theorem dL_law_733 : decode cL_law 733 = .ok (.ireturn, 1) := by decide +kernel
theorem dL_law_734 : decode cL_law 734 = .ok (.aload_n 1, 1) := by decide +kernel
theorem dL_law_735 : decode cL_law 735 = .ok (.aload_n 0, 1) := by decide +kernel
theorem dL_law_736 : decode cL_law 736 = .ok (.iload_n 3, 1) := by decide +kernel
theorem dL_law_737 : decode cL_law 737 = .ok (.iconst 1, 1) := by decide +kernel
theorem dL_law_738 : decode cL_law 738 = .ok (.iadd, 1) := by decide +kernel
theorem dL_law_739 : decode cL_law 739 = .ok (.iaload, 1) := by decide +kernel
theorem dL_law_740 : decode cL_law 740 = .ok (.aload_n 0, 1) := by decide +kernel
theorem dL_law_741 : decode cL_law 741 = .ok (.iload_n 3, 1) := by decide +kernel
theorem dL_law_742 : decode cL_law 742 = .ok (.iconst 2, 1) := by decide +kernel
theorem dL_law_743 : decode cL_law 743 = .ok (.iadd, 1) := by decide +kernel
theorem dL_law_744 : decode cL_law 744 = .ok (.iaload, 1) := by decide +kernel
theorem dL_law_745 : decode cL_law 745 = .ok (.invokevirtual 85, 3) := by decide +kernel
theorem dL_law_748 : decode cL_law 748 = .ok (.aload_n 2, 1) := by decide +kernel
theorem dL_law_749 : decode cL_law 749 = .ok (.aload_n 0, 1) := by decide +kernel
theorem dL_law_750 : decode cL_law 750 = .ok (.iload_n 3, 1) := by decide +kernel
theorem dL_law_751 : decode cL_law 751 = .ok (.iconst 1, 1) := by decide +kernel
theorem dL_law_752 : decode cL_law 752 = .ok (.iadd, 1) := by decide +kernel
theorem dL_law_753 : decode cL_law 753 = .ok (.iaload, 1) := by decide +kernel
theorem dL_law_754 : decode cL_law 754 = .ok (.aload_n 0, 1) := by decide +kernel
theorem dL_law_755 : decode cL_law 755 = .ok (.iload_n 3, 1) := by decide +kernel
theorem dL_law_756 : decode cL_law 756 = .ok (.iconst 2, 1) := by decide +kernel
theorem dL_law_757 : decode cL_law 757 = .ok (.iadd, 1) := by decide +kernel
theorem dL_law_758 : decode cL_law 758 = .ok (.iaload, 1) := by decide +kernel
theorem dL_law_759 : decode cL_law 759 = .ok (.invokevirtual 88, 3) := by decide +kernel
theorem dL_law_762 : decode cL_law 762 = .ok (.if_icmp .eq 549, 3) := by decide +kernel
theorem dL_law_765 : decode cL_law 765 = .ok (.iconst 0, 1) := by decide +kernel
theorem dL_law_766 : decode cL_law 766 = .ok (.ireturn, 1) := by decide +kernel
theorem dL_law_767 : decode cL_law 767 = .ok (.aload_n 1, 1) := by decide +kernel
theorem dL_law_768 : decode cL_law 768 = .ok (.aload_n 0, 1) := by decide +kernel
theorem dL_law_769 : decode cL_law 769 = .ok (.iload_n 3, 1) := by decide +kernel
theorem dL_law_770 : decode cL_law 770 = .ok (.iconst 1, 1) := by decide +kernel
theorem dL_law_771 : decode cL_law 771 = .ok (.iadd, 1) := by decide +kernel
theorem dL_law_772 : decode cL_law 772 = .ok (.iaload, 1) := by decide +kernel
theorem dL_law_773 : decode cL_law 773 = .ok (.aload_n 0, 1) := by decide +kernel
theorem dL_law_774 : decode cL_law 774 = .ok (.iload_n 3, 1) := by decide +kernel
theorem dL_law_775 : decode cL_law 775 = .ok (.iconst 2, 1) := by decide +kernel
theorem dL_law_776 : decode cL_law 776 = .ok (.iadd, 1) := by decide +kernel
theorem dL_law_777 : decode cL_law 777 = .ok (.iaload, 1) := by decide +kernel
theorem dL_law_778 : decode cL_law 778 = .ok (.invokevirtual 89, 3) := by decide +kernel
theorem dL_law_781 : decode cL_law 781 = .ok (.aload_n 2, 1) := by decide +kernel
theorem dL_law_782 : decode cL_law 782 = .ok (.aload_n 0, 1) := by decide +kernel
theorem dL_law_783 : decode cL_law 783 = .ok (.iload_n 3, 1) := by decide +kernel
theorem dL_law_784 : decode cL_law 784 = .ok (.iconst 1, 1) := by decide +kernel
theorem dL_law_785 : decode cL_law 785 = .ok (.iadd, 1) := by decide +kernel
theorem dL_law_786 : decode cL_law 786 = .ok (.iaload, 1) := by decide +kernel
theorem dL_law_787 : decode cL_law 787 = .ok (.aload_n 0, 1) := by decide +kernel
theorem dL_law_788 : decode cL_law 788 = .ok (.iload_n 3, 1) := by decide +kernel
theorem dL_law_789 : decode cL_law 789 = .ok (.iconst 2, 1) := by decide +kernel
theorem dL_law_790 : decode cL_law 790 = .ok (.iadd, 1) := by decide +kernel
theorem dL_law_791 : decode cL_law 791 = .ok (.iaload, 1) := by decide +kernel
theorem dL_law_792 : decode cL_law 792 = .ok (.invokevirtual 92, 3) := by decide +kernel
theorem dL_law_795 : decode cL_law 795 = .ok (.if_icmp .eq 516, 3) := by decide +kernel
theorem dL_law_798 : decode cL_law 798 = .ok (.iconst 0, 1) := by decide +kernel
theorem dL_law_799 : decode cL_law 799 = .ok (.ireturn, 1) := by decide +kernel
theorem dL_law_800 : decode cL_law 800 = .ok (.aload_n 1, 1) := by decide +kernel
theorem dL_law_801 : decode cL_law 801 = .ok (.aload_n 0, 1) := by decide +kernel
theorem dL_law_802 : decode cL_law 802 = .ok (.iload_n 3, 1) := by decide +kernel
theorem dL_law_803 : decode cL_law 803 = .ok (.iconst 1, 1) := by decide +kernel
theorem dL_law_804 : decode cL_law 804 = .ok (.iadd, 1) := by decide +kernel
theorem dL_law_805 : decode cL_law 805 = .ok (.iaload, 1) := by decide +kernel
theorem dL_law_806 : decode cL_law 806 = .ok (.aload_n 0, 1) := by decide +kernel
theorem dL_law_807 : decode cL_law 807 = .ok (.iload_n 3, 1) := by decide +kernel
theorem dL_law_808 : decode cL_law 808 = .ok (.iconst 2, 1) := by decide +kernel
theorem dL_law_809 : decode cL_law 809 = .ok (.iadd, 1) := by decide +kernel
theorem dL_law_810 : decode cL_law 810 = .ok (.iaload, 1) := by decide +kernel
theorem dL_law_811 : decode cL_law 811 = .ok (.aload_n 0, 1) := by decide +kernel
theorem dL_law_812 : decode cL_law 812 = .ok (.iload_n 3, 1) := by decide +kernel
theorem dL_law_813 : decode cL_law 813 = .ok (.iconst 3, 1) := by decide +kernel
theorem dL_law_814 : decode cL_law 814 = .ok (.iadd, 1) := by decide +kernel
theorem dL_law_815 : decode cL_law 815 = .ok (.iaload, 1) := by decide +kernel
theorem dL_law_816 : decode cL_law 816 = .ok (.invokevirtual 93, 3) := by decide +kernel
theorem dL_law_819 : decode cL_law 819 = .ok (.aload_n 2, 1) := by decide +kernel
theorem dL_law_820 : decode cL_law 820 = .ok (.aload_n 0, 1) := by decide +kernel
theorem dL_law_821 : decode cL_law 821 = .ok (.iload_n 3, 1) := by decide +kernel
theorem dL_law_822 : decode cL_law 822 = .ok (.iconst 1, 1) := by decide +kernel
theorem dL_law_823 : decode cL_law 823 = .ok (.iadd, 1) := by decide +kernel
theorem dL_law_824 : decode cL_law 824 = .ok (.iaload, 1) := by decide +kernel
theorem dL_law_825 : decode cL_law 825 = .ok (.aload_n 0, 1) := by decide +kernel
theorem dL_law_826 : decode cL_law 826 = .ok (.iload_n 3, 1) := by decide +kernel
theorem dL_law_827 : decode cL_law 827 = .ok (.iconst 2, 1) := by decide +kernel
theorem dL_law_828 : decode cL_law 828 = .ok (.iadd, 1) := by decide +kernel
theorem dL_law_829 : decode cL_law 829 = .ok (.iaload, 1) := by decide +kernel
theorem dL_law_830 : decode cL_law 830 = .ok (.aload_n 0, 1) := by decide +kernel
theorem dL_law_831 : decode cL_law 831 = .ok (.iload_n 3, 1) := by decide +kernel
theorem dL_law_832 : decode cL_law 832 = .ok (.iconst 3, 1) := by decide +kernel
theorem dL_law_833 : decode cL_law 833 = .ok (.iadd, 1) := by decide +kernel
theorem dL_law_834 : decode cL_law 834 = .ok (.iaload, 1) := by decide +kernel
theorem dL_law_835 : decode cL_law 835 = .ok (.invokevirtual 96, 3) := by decide +kernel
theorem dL_law_838 : decode cL_law 838 = .ok (.if_icmp .eq 473, 3) := by decide +kernel
theorem dL_law_841 : decode cL_law 841 = .ok (.iconst 0, 1) := by decide +kernel
theorem dL_law_842 : decode cL_law 842 = .ok (.ireturn, 1) := by decide +kernel
theorem dL_law_843 : decode cL_law 843 = .ok (.aload_n 1, 1) := by decide +kernel
theorem dL_law_844 : decode cL_law 844 = .ok (.aload_n 0, 1) := by decide +kernel
theorem dL_law_845 : decode cL_law 845 = .ok (.iload_n 3, 1) := by decide +kernel
theorem dL_law_846 : decode cL_law 846 = .ok (.iconst 1, 1) := by decide +kernel
theorem dL_law_847 : decode cL_law 847 = .ok (.iadd, 1) := by decide +kernel
theorem dL_law_848 : decode cL_law 848 = .ok (.iaload, 1) := by decide +kernel
theorem dL_law_849 : decode cL_law 849 = .ok (.invokevirtual 97, 3) := by decide +kernel
theorem dL_law_852 : decode cL_law 852 = .ok (.aload_n 2, 1) := by decide +kernel
theorem dL_law_853 : decode cL_law 853 = .ok (.aload_n 0, 1) := by decide +kernel
theorem dL_law_854 : decode cL_law 854 = .ok (.iload_n 3, 1) := by decide +kernel
theorem dL_law_855 : decode cL_law 855 = .ok (.iconst 1, 1) := by decide +kernel
theorem dL_law_856 : decode cL_law 856 = .ok (.iadd, 1) := by decide +kernel
theorem dL_law_857 : decode cL_law 857 = .ok (.iaload, 1) := by decide +kernel
theorem dL_law_858 : decode cL_law 858 = .ok (.invokevirtual 100, 3) := by decide +kernel
theorem dL_law_861 : decode cL_law 861 = .ok (.if_icmp .eq 450, 3) := by decide +kernel
theorem dL_law_864 : decode cL_law 864 = .ok (.iconst 0, 1) := by decide +kernel
theorem dL_law_865 : decode cL_law 865 = .ok (.ireturn, 1) := by decide +kernel
theorem dL_law_866 : decode cL_law 866 = .ok (.aload_n 1, 1) := by decide +kernel
theorem dL_law_867 : decode cL_law 867 = .ok (.aload_n 0, 1) := by decide +kernel
theorem dL_law_868 : decode cL_law 868 = .ok (.iload_n 3, 1) := by decide +kernel
theorem dL_law_869 : decode cL_law 869 = .ok (.iconst 1, 1) := by decide +kernel
theorem dL_law_870 : decode cL_law 870 = .ok (.iadd, 1) := by decide +kernel
theorem dL_law_871 : decode cL_law 871 = .ok (.iaload, 1) := by decide +kernel
theorem dL_law_872 : decode cL_law 872 = .ok (.invokevirtual 101, 3) := by decide +kernel
theorem dL_law_875 : decode cL_law 875 = .ok (.aload_n 2, 1) := by decide +kernel
theorem dL_law_876 : decode cL_law 876 = .ok (.aload_n 0, 1) := by decide +kernel
theorem dL_law_877 : decode cL_law 877 = .ok (.iload_n 3, 1) := by decide +kernel
theorem dL_law_878 : decode cL_law 878 = .ok (.iconst 1, 1) := by decide +kernel
theorem dL_law_879 : decode cL_law 879 = .ok (.iadd, 1) := by decide +kernel
theorem dL_law_880 : decode cL_law 880 = .ok (.iaload, 1) := by decide +kernel
theorem dL_law_881 : decode cL_law 881 = .ok (.invokevirtual 104, 3) := by decide +kernel
theorem dL_law_884 : decode cL_law 884 = .ok (.if_icmp .eq 427, 3) := by decide +kernel
theorem dL_law_887 : decode cL_law 887 = .ok (.iconst 0, 1) := by decide +kernel
theorem dL_law_888 : decode cL_law 888 = .ok (.ireturn, 1) := by decide +kernel
theorem dL_law_889 : decode cL_law 889 = .ok (.aload_n 1, 1) := by decide +kernel
theorem dL_law_890 : decode cL_law 890 = .ok (.aload_n 0, 1) := by decide +kernel
theorem dL_law_891 : decode cL_law 891 = .ok (.iload_n 3, 1) := by decide +kernel
theorem dL_law_892 : decode cL_law 892 = .ok (.iconst 1, 1) := by decide +kernel
theorem dL_law_893 : decode cL_law 893 = .ok (.iadd, 1) := by decide +kernel
theorem dL_law_894 : decode cL_law 894 = .ok (.iaload, 1) := by decide +kernel
theorem dL_law_895 : decode cL_law 895 = .ok (.aload_n 0, 1) := by decide +kernel
theorem dL_law_896 : decode cL_law 896 = .ok (.iload_n 3, 1) := by decide +kernel
theorem dL_law_897 : decode cL_law 897 = .ok (.iconst 2, 1) := by decide +kernel
theorem dL_law_898 : decode cL_law 898 = .ok (.iadd, 1) := by decide +kernel
theorem dL_law_899 : decode cL_law 899 = .ok (.iaload, 1) := by decide +kernel
theorem dL_law_900 : decode cL_law 900 = .ok (.invokevirtual 105, 3) := by decide +kernel
theorem dL_law_903 : decode cL_law 903 = .ok (.aload_n 2, 1) := by decide +kernel
theorem dL_law_904 : decode cL_law 904 = .ok (.aload_n 0, 1) := by decide +kernel
theorem dL_law_905 : decode cL_law 905 = .ok (.iload_n 3, 1) := by decide +kernel
theorem dL_law_906 : decode cL_law 906 = .ok (.iconst 1, 1) := by decide +kernel
theorem dL_law_907 : decode cL_law 907 = .ok (.iadd, 1) := by decide +kernel
theorem dL_law_908 : decode cL_law 908 = .ok (.iaload, 1) := by decide +kernel
theorem dL_law_909 : decode cL_law 909 = .ok (.aload_n 0, 1) := by decide +kernel
theorem dL_law_910 : decode cL_law 910 = .ok (.iload_n 3, 1) := by decide +kernel
theorem dL_law_911 : decode cL_law 911 = .ok (.iconst 2, 1) := by decide +kernel
theorem dL_law_912 : decode cL_law 912 = .ok (.iadd, 1) := by decide +kernel
theorem dL_law_913 : decode cL_law 913 = .ok (.iaload, 1) := by decide +kernel
theorem dL_law_914 : decode cL_law 914 = .ok (.invokevirtual 108, 3) := by decide +kernel
theorem dL_law_917 : decode cL_law 917 = .ok (.if_icmp .eq 394, 3) := by decide +kernel
theorem dL_law_920 : decode cL_law 920 = .ok (.iconst 0, 1) := by decide +kernel
theorem dL_law_921 : decode cL_law 921 = .ok (.ireturn, 1) := by decide +kernel
theorem dL_law_922 : decode cL_law 922 = .ok (.aload_n 1, 1) := by decide +kernel
theorem dL_law_923 : decode cL_law 923 = .ok (.aload_n 0, 1) := by decide +kernel
theorem dL_law_924 : decode cL_law 924 = .ok (.iload_n 3, 1) := by decide +kernel
theorem dL_law_925 : decode cL_law 925 = .ok (.iconst 1, 1) := by decide +kernel
theorem dL_law_926 : decode cL_law 926 = .ok (.iadd, 1) := by decide +kernel
theorem dL_law_927 : decode cL_law 927 = .ok (.iaload, 1) := by decide +kernel
theorem dL_law_928 : decode cL_law 928 = .ok (.aload_n 0, 1) := by decide +kernel
theorem dL_law_929 : decode cL_law 929 = .ok (.iload_n 3, 1) := by decide +kernel
theorem dL_law_930 : decode cL_law 930 = .ok (.iconst 2, 1) := by decide +kernel
theorem dL_law_931 : decode cL_law 931 = .ok (.iadd, 1) := by decide +kernel
theorem dL_law_932 : decode cL_law 932 = .ok (.iaload, 1) := by decide +kernel
theorem dL_law_933 : decode cL_law 933 = .ok (.invokevirtual 109, 3) := by decide +kernel
theorem dL_law_936 : decode cL_law 936 = .ok (.aload_n 2, 1) := by decide +kernel
theorem dL_law_937 : decode cL_law 937 = .ok (.aload_n 0, 1) := by decide +kernel
theorem dL_law_938 : decode cL_law 938 = .ok (.iload_n 3, 1) := by decide +kernel
theorem dL_law_939 : decode cL_law 939 = .ok (.iconst 1, 1) := by decide +kernel
theorem dL_law_940 : decode cL_law 940 = .ok (.iadd, 1) := by decide +kernel
theorem dL_law_941 : decode cL_law 941 = .ok (.iaload, 1) := by decide +kernel
theorem dL_law_942 : decode cL_law 942 = .ok (.aload_n 0, 1) := by decide +kernel
theorem dL_law_943 : decode cL_law 943 = .ok (.iload_n 3, 1) := by decide +kernel
theorem dL_law_944 : decode cL_law 944 = .ok (.iconst 2, 1) := by decide +kernel
theorem dL_law_945 : decode cL_law 945 = .ok (.iadd, 1) := by decide +kernel
theorem dL_law_946 : decode cL_law 946 = .ok (.iaload, 1) := by decide +kernel
theorem dL_law_947 : decode cL_law 947 = .ok (.invokevirtual 112, 3) := by decide +kernel
theorem dL_law_950 : decode cL_law 950 = .ok (.if_icmp .eq 361, 3) := by decide +kernel
theorem dL_law_953 : decode cL_law 953 = .ok (.iconst 0, 1) := by decide +kernel
theorem dL_law_954 : decode cL_law 954 = .ok (.ireturn, 1) := by decide +kernel
theorem dL_law_955 : decode cL_law 955 = .ok (.aload_n 1, 1) := by decide +kernel
theorem dL_law_956 : decode cL_law 956 = .ok (.invokevirtual 113, 3) := by decide +kernel
theorem dL_law_959 : decode cL_law 959 = .ok (.aload_n 2, 1) := by decide +kernel
theorem dL_law_960 : decode cL_law 960 = .ok (.invokevirtual 116, 3) := by decide +kernel
theorem dL_law_963 : decode cL_law 963 = .ok (.if_icmp .eq 348, 3) := by decide +kernel
theorem dL_law_966 : decode cL_law 966 = .ok (.iconst 0, 1) := by decide +kernel
theorem dL_law_967 : decode cL_law 967 = .ok (.ireturn, 1) := by decide +kernel
theorem dL_law_968 : decode cL_law 968 = .ok (.aload_n 1, 1) := by decide +kernel
theorem dL_law_969 : decode cL_law 969 = .ok (.aload_n 0, 1) := by decide +kernel
theorem dL_law_970 : decode cL_law 970 = .ok (.iload_n 3, 1) := by decide +kernel
theorem dL_law_971 : decode cL_law 971 = .ok (.iconst 1, 1) := by decide +kernel
theorem dL_law_972 : decode cL_law 972 = .ok (.iadd, 1) := by decide +kernel
theorem dL_law_973 : decode cL_law 973 = .ok (.iaload, 1) := by decide +kernel
theorem dL_law_974 : decode cL_law 974 = .ok (.invokevirtual 117, 3) := by decide +kernel
theorem dL_law_977 : decode cL_law 977 = .ok (.aload_n 2, 1) := by decide +kernel
theorem dL_law_978 : decode cL_law 978 = .ok (.aload_n 0, 1) := by decide +kernel
theorem dL_law_979 : decode cL_law 979 = .ok (.iload_n 3, 1) := by decide +kernel
theorem dL_law_980 : decode cL_law 980 = .ok (.iconst 1, 1) := by decide +kernel
theorem dL_law_981 : decode cL_law 981 = .ok (.iadd, 1) := by decide +kernel
theorem dL_law_982 : decode cL_law 982 = .ok (.iaload, 1) := by decide +kernel
theorem dL_law_983 : decode cL_law 983 = .ok (.invokevirtual 120, 3) := by decide +kernel
theorem dL_law_986 : decode cL_law 986 = .ok (.if_icmp .eq 325, 3) := by decide +kernel
theorem dL_law_989 : decode cL_law 989 = .ok (.iconst 0, 1) := by decide +kernel
theorem dL_law_990 : decode cL_law 990 = .ok (.ireturn, 1) := by decide +kernel
theorem dL_law_991 : decode cL_law 991 = .ok (.aload_n 1, 1) := by decide +kernel
theorem dL_law_992 : decode cL_law 992 = .ok (.aload_n 0, 1) := by decide +kernel
theorem dL_law_993 : decode cL_law 993 = .ok (.iload_n 3, 1) := by decide +kernel
theorem dL_law_994 : decode cL_law 994 = .ok (.iconst 1, 1) := by decide +kernel
theorem dL_law_995 : decode cL_law 995 = .ok (.iadd, 1) := by decide +kernel
theorem dL_law_996 : decode cL_law 996 = .ok (.iaload, 1) := by decide +kernel
theorem dL_law_997 : decode cL_law 997 = .ok (.invokevirtual 121, 3) := by decide +kernel
theorem dL_law_1000 : decode cL_law 1000 = .ok (.aload_n 2, 1) := by decide +kernel
theorem dL_law_1001 : decode cL_law 1001 = .ok (.aload_n 0, 1) := by decide +kernel
theorem dL_law_1002 : decode cL_law 1002 = .ok (.iload_n 3, 1) := by decide +kernel
theorem dL_law_1003 : decode cL_law 1003 = .ok (.iconst 1, 1) := by decide +kernel
theorem dL_law_1004 : decode cL_law 1004 = .ok (.iadd, 1) := by decide +kernel
theorem dL_law_1005 : decode cL_law 1005 = .ok (.iaload, 1) := by decide +kernel
theorem dL_law_1006 : decode cL_law 1006 = .ok (.invokevirtual 124, 3) := by decide +kernel
theorem dL_law_1009 : decode cL_law 1009 = .ok (.if_icmp .eq 302, 3) := by decide +kernel
theorem dL_law_1012 : decode cL_law 1012 = .ok (.iconst 0, 1) := by decide +kernel
theorem dL_law_1013 : decode cL_law 1013 = .ok (.ireturn, 1) := by decide +kernel
theorem dL_law_1014 : decode cL_law 1014 = .ok (.aload_n 1, 1) := by decide +kernel
theorem dL_law_1015 : decode cL_law 1015 = .ok (.aload_n 0, 1) := by decide +kernel
theorem dL_law_1016 : decode cL_law 1016 = .ok (.iload_n 3, 1) := by decide +kernel
theorem dL_law_1017 : decode cL_law 1017 = .ok (.iconst 1, 1) := by decide +kernel
theorem dL_law_1018 : decode cL_law 1018 = .ok (.iadd, 1) := by decide +kernel
theorem dL_law_1019 : decode cL_law 1019 = .ok (.iaload, 1) := by decide +kernel
theorem dL_law_1020 : decode cL_law 1020 = .ok (.invokevirtual 125, 3) := by decide +kernel
theorem dL_law_1023 : decode cL_law 1023 = .ok (.aload_n 2, 1) := by decide +kernel
theorem dL_law_1024 : decode cL_law 1024 = .ok (.aload_n 0, 1) := by decide +kernel
theorem dL_law_1025 : decode cL_law 1025 = .ok (.iload_n 3, 1) := by decide +kernel
theorem dL_law_1026 : decode cL_law 1026 = .ok (.iconst 1, 1) := by decide +kernel
theorem dL_law_1027 : decode cL_law 1027 = .ok (.iadd, 1) := by decide +kernel
theorem dL_law_1028 : decode cL_law 1028 = .ok (.iaload, 1) := by decide +kernel
theorem dL_law_1029 : decode cL_law 1029 = .ok (.invokevirtual 128, 3) := by decide +kernel
theorem dL_law_1032 : decode cL_law 1032 = .ok (.if_icmp .eq 279, 3) := by decide +kernel
theorem dL_law_1035 : decode cL_law 1035 = .ok (.iconst 0, 1) := by decide +kernel
theorem dL_law_1036 : decode cL_law 1036 = .ok (.ireturn, 1) := by decide +kernel
theorem dL_law_1037 : decode cL_law 1037 = .ok (.aload_n 1, 1) := by decide +kernel
theorem dL_law_1038 : decode cL_law 1038 = .ok (.aload_n 0, 1) := by decide +kernel
theorem dL_law_1039 : decode cL_law 1039 = .ok (.iload_n 3, 1) := by decide +kernel
theorem dL_law_1040 : decode cL_law 1040 = .ok (.iconst 1, 1) := by decide +kernel
theorem dL_law_1041 : decode cL_law 1041 = .ok (.iadd, 1) := by decide +kernel
theorem dL_law_1042 : decode cL_law 1042 = .ok (.iaload, 1) := by decide +kernel
theorem dL_law_1043 : decode cL_law 1043 = .ok (.invokevirtual 129, 3) := by decide +kernel
theorem dL_law_1046 : decode cL_law 1046 = .ok (.aload_n 2, 1) := by decide +kernel
theorem dL_law_1047 : decode cL_law 1047 = .ok (.aload_n 0, 1) := by decide +kernel
theorem dL_law_1048 : decode cL_law 1048 = .ok (.iload_n 3, 1) := by decide +kernel
theorem dL_law_1049 : decode cL_law 1049 = .ok (.iconst 1, 1) := by decide +kernel
theorem dL_law_1050 : decode cL_law 1050 = .ok (.iadd, 1) := by decide +kernel
theorem dL_law_1051 : decode cL_law 1051 = .ok (.iaload, 1) := by decide +kernel
theorem dL_law_1052 : decode cL_law 1052 = .ok (.invokevirtual 132, 3) := by decide +kernel
theorem dL_law_1055 : decode cL_law 1055 = .ok (.if_icmp .eq 256, 3) := by decide +kernel
theorem dL_law_1058 : decode cL_law 1058 = .ok (.iconst 0, 1) := by decide +kernel
theorem dL_law_1059 : decode cL_law 1059 = .ok (.ireturn, 1) := by decide +kernel
theorem dL_law_1060 : decode cL_law 1060 = .ok (.aload_n 1, 1) := by decide +kernel
theorem dL_law_1061 : decode cL_law 1061 = .ok (.aload_n 0, 1) := by decide +kernel
theorem dL_law_1062 : decode cL_law 1062 = .ok (.iload_n 3, 1) := by decide +kernel
theorem dL_law_1063 : decode cL_law 1063 = .ok (.iconst 1, 1) := by decide +kernel
theorem dL_law_1064 : decode cL_law 1064 = .ok (.iadd, 1) := by decide +kernel
theorem dL_law_1065 : decode cL_law 1065 = .ok (.iaload, 1) := by decide +kernel
theorem dL_law_1066 : decode cL_law 1066 = .ok (.invokevirtual 133, 3) := by decide +kernel
theorem dL_law_1069 : decode cL_law 1069 = .ok (.aload_n 2, 1) := by decide +kernel
theorem dL_law_1070 : decode cL_law 1070 = .ok (.aload_n 0, 1) := by decide +kernel
theorem dL_law_1071 : decode cL_law 1071 = .ok (.iload_n 3, 1) := by decide +kernel
theorem dL_law_1072 : decode cL_law 1072 = .ok (.iconst 1, 1) := by decide +kernel
theorem dL_law_1073 : decode cL_law 1073 = .ok (.iadd, 1) := by decide +kernel
theorem dL_law_1074 : decode cL_law 1074 = .ok (.iaload, 1) := by decide +kernel
theorem dL_law_1075 : decode cL_law 1075 = .ok (.invokevirtual 136, 3) := by decide +kernel
theorem dL_law_1078 : decode cL_law 1078 = .ok (.if_icmp .eq 233, 3) := by decide +kernel
theorem dL_law_1081 : decode cL_law 1081 = .ok (.iconst 0, 1) := by decide +kernel
theorem dL_law_1082 : decode cL_law 1082 = .ok (.ireturn, 1) := by decide +kernel
theorem dL_law_1083 : decode cL_law 1083 = .ok (.aload_n 1, 1) := by decide +kernel
theorem dL_law_1084 : decode cL_law 1084 = .ok (.aload_n 0, 1) := by decide +kernel
theorem dL_law_1085 : decode cL_law 1085 = .ok (.iload_n 3, 1) := by decide +kernel
theorem dL_law_1086 : decode cL_law 1086 = .ok (.iconst 1, 1) := by decide +kernel
theorem dL_law_1087 : decode cL_law 1087 = .ok (.iadd, 1) := by decide +kernel
theorem dL_law_1088 : decode cL_law 1088 = .ok (.iaload, 1) := by decide +kernel
theorem dL_law_1089 : decode cL_law 1089 = .ok (.aload_n 0, 1) := by decide +kernel
theorem dL_law_1090 : decode cL_law 1090 = .ok (.iload_n 3, 1) := by decide +kernel
theorem dL_law_1091 : decode cL_law 1091 = .ok (.iconst 2, 1) := by decide +kernel
theorem dL_law_1092 : decode cL_law 1092 = .ok (.iadd, 1) := by decide +kernel
theorem dL_law_1093 : decode cL_law 1093 = .ok (.iaload, 1) := by decide +kernel
theorem dL_law_1094 : decode cL_law 1094 = .ok (.invokevirtual 137, 3) := by decide +kernel
theorem dL_law_1097 : decode cL_law 1097 = .ok (.aload_n 2, 1) := by decide +kernel
theorem dL_law_1098 : decode cL_law 1098 = .ok (.aload_n 0, 1) := by decide +kernel
theorem dL_law_1099 : decode cL_law 1099 = .ok (.iload_n 3, 1) := by decide +kernel
theorem dL_law_1100 : decode cL_law 1100 = .ok (.iconst 1, 1) := by decide +kernel
theorem dL_law_1101 : decode cL_law 1101 = .ok (.iadd, 1) := by decide +kernel
theorem dL_law_1102 : decode cL_law 1102 = .ok (.iaload, 1) := by decide +kernel
theorem dL_law_1103 : decode cL_law 1103 = .ok (.aload_n 0, 1) := by decide +kernel
theorem dL_law_1104 : decode cL_law 1104 = .ok (.iload_n 3, 1) := by decide +kernel
theorem dL_law_1105 : decode cL_law 1105 = .ok (.iconst 2, 1) := by decide +kernel
theorem dL_law_1106 : decode cL_law 1106 = .ok (.iadd, 1) := by decide +kernel
theorem dL_law_1107 : decode cL_law 1107 = .ok (.iaload, 1) := by decide +kernel
theorem dL_law_1108 : decode cL_law 1108 = .ok (.invokevirtual 140, 3) := by decide +kernel
theorem dL_law_1111 : decode cL_law 1111 = .ok (.if_icmp .eq 200, 3) := by decide +kernel
theorem dL_law_1114 : decode cL_law 1114 = .ok (.iconst 0, 1) := by decide +kernel
theorem dL_law_1115 : decode cL_law 1115 = .ok (.ireturn, 1) := by decide +kernel
theorem dL_law_1116 : decode cL_law 1116 = .ok (.aload_n 1, 1) := by decide +kernel
theorem dL_law_1117 : decode cL_law 1117 = .ok (.aload_n 0, 1) := by decide +kernel
theorem dL_law_1118 : decode cL_law 1118 = .ok (.iload_n 3, 1) := by decide +kernel
theorem dL_law_1119 : decode cL_law 1119 = .ok (.iconst 1, 1) := by decide +kernel
theorem dL_law_1120 : decode cL_law 1120 = .ok (.iadd, 1) := by decide +kernel
theorem dL_law_1121 : decode cL_law 1121 = .ok (.iaload, 1) := by decide +kernel
theorem dL_law_1122 : decode cL_law 1122 = .ok (.aload_n 0, 1) := by decide +kernel
theorem dL_law_1123 : decode cL_law 1123 = .ok (.iload_n 3, 1) := by decide +kernel
theorem dL_law_1124 : decode cL_law 1124 = .ok (.iconst 2, 1) := by decide +kernel
theorem dL_law_1125 : decode cL_law 1125 = .ok (.iadd, 1) := by decide +kernel
theorem dL_law_1126 : decode cL_law 1126 = .ok (.iaload, 1) := by decide +kernel
theorem dL_law_1127 : decode cL_law 1127 = .ok (.invokevirtual 141, 3) := by decide +kernel
theorem dL_law_1130 : decode cL_law 1130 = .ok (.aload_n 2, 1) := by decide +kernel
theorem dL_law_1131 : decode cL_law 1131 = .ok (.aload_n 0, 1) := by decide +kernel
theorem dL_law_1132 : decode cL_law 1132 = .ok (.iload_n 3, 1) := by decide +kernel
theorem dL_law_1133 : decode cL_law 1133 = .ok (.iconst 1, 1) := by decide +kernel
theorem dL_law_1134 : decode cL_law 1134 = .ok (.iadd, 1) := by decide +kernel
theorem dL_law_1135 : decode cL_law 1135 = .ok (.iaload, 1) := by decide +kernel
theorem dL_law_1136 : decode cL_law 1136 = .ok (.aload_n 0, 1) := by decide +kernel
theorem dL_law_1137 : decode cL_law 1137 = .ok (.iload_n 3, 1) := by decide +kernel
theorem dL_law_1138 : decode cL_law 1138 = .ok (.iconst 2, 1) := by decide +kernel
theorem dL_law_1139 : decode cL_law 1139 = .ok (.iadd, 1) := by decide +kernel
theorem dL_law_1140 : decode cL_law 1140 = .ok (.iaload, 1) := by decide +kernel
theorem dL_law_1141 : decode cL_law 1141 = .ok (.invokevirtual 144, 3) := by decide +kernel
theorem dL_law_1144 : decode cL_law 1144 = .ok (.if_icmp .eq 167, 3) := by decide +kernel
theorem dL_law_1147 : decode cL_law 1147 = .ok (.iconst 0, 1) := by decide +kernel
theorem dL_law_1148 : decode cL_law 1148 = .ok (.ireturn, 1) := by decide +kernel
theorem dL_law_1149 : decode cL_law 1149 = .ok (.aload_n 1, 1) := by decide +kernel
theorem dL_law_1150 : decode cL_law 1150 = .ok (.aload_n 0, 1) := by decide +kernel
theorem dL_law_1151 : decode cL_law 1151 = .ok (.iload_n 3, 1) := by decide +kernel
theorem dL_law_1152 : decode cL_law 1152 = .ok (.iconst 1, 1) := by decide +kernel
theorem dL_law_1153 : decode cL_law 1153 = .ok (.iadd, 1) := by decide +kernel
theorem dL_law_1154 : decode cL_law 1154 = .ok (.iaload, 1) := by decide +kernel
theorem dL_law_1155 : decode cL_law 1155 = .ok (.invokevirtual 145, 3) := by decide +kernel
theorem dL_law_1158 : decode cL_law 1158 = .ok (.aload_n 2, 1) := by decide +kernel
theorem dL_law_1159 : decode cL_law 1159 = .ok (.aload_n 0, 1) := by decide +kernel
theorem dL_law_1160 : decode cL_law 1160 = .ok (.iload_n 3, 1) := by decide +kernel
theorem dL_law_1161 : decode cL_law 1161 = .ok (.iconst 1, 1) := by decide +kernel
theorem dL_law_1162 : decode cL_law 1162 = .ok (.iadd, 1) := by decide +kernel
theorem dL_law_1163 : decode cL_law 1163 = .ok (.iaload, 1) := by decide +kernel
theorem dL_law_1164 : decode cL_law 1164 = .ok (.invokevirtual 148, 3) := by decide +kernel
theorem dL_law_1167 : decode cL_law 1167 = .ok (.if_icmp .eq 144, 3) := by decide +kernel
theorem dL_law_1170 : decode cL_law 1170 = .ok (.iconst 0, 1) := by decide +kernel
theorem dL_law_1171 : decode cL_law 1171 = .ok (.ireturn, 1) := by decide +kernel
theorem dL_law_1172 : decode cL_law 1172 = .ok (.aload_n 1, 1) := by decide +kernel
theorem dL_law_1173 : decode cL_law 1173 = .ok (.aload_n 0, 1) := by decide +kernel
theorem dL_law_1174 : decode cL_law 1174 = .ok (.iload_n 3, 1) := by decide +kernel
theorem dL_law_1175 : decode cL_law 1175 = .ok (.iconst 1, 1) := by decide +kernel
theorem dL_law_1176 : decode cL_law 1176 = .ok (.iadd, 1) := by decide +kernel
theorem dL_law_1177 : decode cL_law 1177 = .ok (.iaload, 1) := by decide +kernel
theorem dL_law_1178 : decode cL_law 1178 = .ok (.aload_n 0, 1) := by decide +kernel
theorem dL_law_1179 : decode cL_law 1179 = .ok (.iload_n 3, 1) := by decide +kernel
theorem dL_law_1180 : decode cL_law 1180 = .ok (.iconst 2, 1) := by decide +kernel
theorem dL_law_1181 : decode cL_law 1181 = .ok (.iadd, 1) := by decide +kernel
theorem dL_law_1182 : decode cL_law 1182 = .ok (.iaload, 1) := by decide +kernel
theorem dL_law_1183 : decode cL_law 1183 = .ok (.invokevirtual 149, 3) := by decide +kernel
theorem dL_law_1186 : decode cL_law 1186 = .ok (.aload_n 2, 1) := by decide +kernel
theorem dL_law_1187 : decode cL_law 1187 = .ok (.aload_n 0, 1) := by decide +kernel
theorem dL_law_1188 : decode cL_law 1188 = .ok (.iload_n 3, 1) := by decide +kernel
theorem dL_law_1189 : decode cL_law 1189 = .ok (.iconst 1, 1) := by decide +kernel
theorem dL_law_1190 : decode cL_law 1190 = .ok (.iadd, 1) := by decide +kernel
theorem dL_law_1191 : decode cL_law 1191 = .ok (.iaload, 1) := by decide +kernel
theorem dL_law_1192 : decode cL_law 1192 = .ok (.aload_n 0, 1) := by decide +kernel
theorem dL_law_1193 : decode cL_law 1193 = .ok (.iload_n 3, 1) := by decide +kernel
theorem dL_law_1194 : decode cL_law 1194 = .ok (.iconst 2, 1) := by decide +kernel
theorem dL_law_1195 : decode cL_law 1195 = .ok (.iadd, 1) := by decide +kernel
theorem dL_law_1196 : decode cL_law 1196 = .ok (.iaload, 1) := by decide +kernel
theorem dL_law_1197 : decode cL_law 1197 = .ok (.invokevirtual 152, 3) := by decide +kernel
theorem dL_law_1200 : decode cL_law 1200 = .ok (.if_icmp .eq 111, 3) := by decide +kernel
theorem dL_law_1203 : decode cL_law 1203 = .ok (.iconst 0, 1) := by decide +kernel
theorem dL_law_1204 : decode cL_law 1204 = .ok (.ireturn, 1) := by decide +kernel
theorem dL_law_1205 : decode cL_law 1205 = .ok (.aload_n 1, 1) := by decide +kernel
theorem dL_law_1206 : decode cL_law 1206 = .ok (.aload_n 0, 1) := by decide +kernel
theorem dL_law_1207 : decode cL_law 1207 = .ok (.iload_n 3, 1) := by decide +kernel
theorem dL_law_1208 : decode cL_law 1208 = .ok (.iconst 1, 1) := by decide +kernel
theorem dL_law_1209 : decode cL_law 1209 = .ok (.iadd, 1) := by decide +kernel
theorem dL_law_1210 : decode cL_law 1210 = .ok (.iaload, 1) := by decide +kernel
theorem dL_law_1211 : decode cL_law 1211 = .ok (.invokevirtual 153, 3) := by decide +kernel
theorem dL_law_1214 : decode cL_law 1214 = .ok (.aload_n 2, 1) := by decide +kernel
theorem dL_law_1215 : decode cL_law 1215 = .ok (.aload_n 0, 1) := by decide +kernel
theorem dL_law_1216 : decode cL_law 1216 = .ok (.iload_n 3, 1) := by decide +kernel
theorem dL_law_1217 : decode cL_law 1217 = .ok (.iconst 1, 1) := by decide +kernel
theorem dL_law_1218 : decode cL_law 1218 = .ok (.iadd, 1) := by decide +kernel
theorem dL_law_1219 : decode cL_law 1219 = .ok (.iaload, 1) := by decide +kernel
theorem dL_law_1220 : decode cL_law 1220 = .ok (.invokevirtual 156, 3) := by decide +kernel
theorem dL_law_1223 : decode cL_law 1223 = .ok (.if_icmp .eq 88, 3) := by decide +kernel
theorem dL_law_1226 : decode cL_law 1226 = .ok (.iconst 0, 1) := by decide +kernel
theorem dL_law_1227 : decode cL_law 1227 = .ok (.ireturn, 1) := by decide +kernel
theorem dL_law_1228 : decode cL_law 1228 = .ok (.aload_n 1, 1) := by decide +kernel
theorem dL_law_1229 : decode cL_law 1229 = .ok (.aload_n 0, 1) := by decide +kernel
theorem dL_law_1230 : decode cL_law 1230 = .ok (.iload_n 3, 1) := by decide +kernel
theorem dL_law_1231 : decode cL_law 1231 = .ok (.iconst 1, 1) := by decide +kernel
theorem dL_law_1232 : decode cL_law 1232 = .ok (.iadd, 1) := by decide +kernel
theorem dL_law_1233 : decode cL_law 1233 = .ok (.iaload, 1) := by decide +kernel
theorem dL_law_1234 : decode cL_law 1234 = .ok (.invokevirtual 157, 3) := by decide +kernel
theorem dL_law_1237 : decode cL_law 1237 = .ok (.aload_n 2, 1) := by decide +kernel
theorem dL_law_1238 : decode cL_law 1238 = .ok (.aload_n 0, 1) := by decide +kernel
theorem dL_law_1239 : decode cL_law 1239 = .ok (.iload_n 3, 1) := by decide +kernel
theorem dL_law_1240 : decode cL_law 1240 = .ok (.iconst 1, 1) := by decide +kernel
theorem dL_law_1241 : decode cL_law 1241 = .ok (.iadd, 1) := by decide +kernel
theorem dL_law_1242 : decode cL_law 1242 = .ok (.iaload, 1) := by decide +kernel
theorem dL_law_1243 : decode cL_law 1243 = .ok (.invokevirtual 160, 3) := by decide +kernel
theorem dL_law_1246 : decode cL_law 1246 = .ok (.if_icmp .eq 65, 3) := by decide +kernel
theorem dL_law_1249 : decode cL_law 1249 = .ok (.iconst 0, 1) := by decide +kernel
theorem dL_law_1250 : decode cL_law 1250 = .ok (.ireturn, 1) := by decide +kernel
theorem dL_law_1251 : decode cL_law 1251 = .ok (.aload_n 1, 1) := by decide +kernel
theorem dL_law_1252 : decode cL_law 1252 = .ok (.aload_n 0, 1) := by decide +kernel
theorem dL_law_1253 : decode cL_law 1253 = .ok (.iload_n 3, 1) := by decide +kernel
theorem dL_law_1254 : decode cL_law 1254 = .ok (.iconst 1, 1) := by decide +kernel
theorem dL_law_1255 : decode cL_law 1255 = .ok (.iadd, 1) := by decide +kernel
theorem dL_law_1256 : decode cL_law 1256 = .ok (.iaload, 1) := by decide +kernel
theorem dL_law_1257 : decode cL_law 1257 = .ok (.invokevirtual 161, 3) := by decide +kernel
theorem dL_law_1260 : decode cL_law 1260 = .ok (.aload_n 2, 1) := by decide +kernel
theorem dL_law_1261 : decode cL_law 1261 = .ok (.aload_n 0, 1) := by decide +kernel
theorem dL_law_1262 : decode cL_law 1262 = .ok (.iload_n 3, 1) := by decide +kernel
theorem dL_law_1263 : decode cL_law 1263 = .ok (.iconst 1, 1) := by decide +kernel
theorem dL_law_1264 : decode cL_law 1264 = .ok (.iadd, 1) := by decide +kernel
theorem dL_law_1265 : decode cL_law 1265 = .ok (.iaload, 1) := by decide +kernel
theorem dL_law_1266 : decode cL_law 1266 = .ok (.invokevirtual 164, 3) := by decide +kernel
theorem dL_law_1269 : decode cL_law 1269 = .ok (.if_icmp .eq 42, 3) := by decide +kernel
theorem dL_law_1272 : decode cL_law 1272 = .ok (.iconst 0, 1) := by decide +kernel
theorem dL_law_1273 : decode cL_law 1273 = .ok (.ireturn, 1) := by decide +kernel
theorem dL_law_1274 : decode cL_law 1274 = .ok (.aload_n 1, 1) := by decide +kernel
theorem dL_law_1275 : decode cL_law 1275 = .ok (.aload_n 0, 1) := by decide +kernel
theorem dL_law_1276 : decode cL_law 1276 = .ok (.iload_n 3, 1) := by decide +kernel
theorem dL_law_1277 : decode cL_law 1277 = .ok (.iconst 1, 1) := by decide +kernel
theorem dL_law_1278 : decode cL_law 1278 = .ok (.iadd, 1) := by decide +kernel
theorem dL_law_1279 : decode cL_law 1279 = .ok (.iaload, 1) := by decide +kernel
theorem dL_law_1280 : decode cL_law 1280 = .ok (.invokevirtual 165, 3) := by decide +kernel
theorem dL_law_1283 : decode cL_law 1283 = .ok (.aload_n 2, 1) := by decide +kernel
theorem dL_law_1284 : decode cL_law 1284 = .ok (.aload_n 0, 1) := by decide +kernel
theorem dL_law_1285 : decode cL_law 1285 = .ok (.iload_n 3, 1) := by decide +kernel
theorem dL_law_1286 : decode cL_law 1286 = .ok (.iconst 1, 1) := by decide +kernel
theorem dL_law_1287 : decode cL_law 1287 = .ok (.iadd, 1) := by decide +kernel
theorem dL_law_1288 : decode cL_law 1288 = .ok (.iaload, 1) := by decide +kernel
theorem dL_law_1289 : decode cL_law 1289 = .ok (.invokevirtual 168, 3) := by decide +kernel
theorem dL_law_1292 : decode cL_law 1292 = .ok (.if_icmp .eq 19, 3) := by decide +kernel
theorem dL_law_1295 : decode cL_law 1295 = .ok (.iconst 0, 1) := by decide +kernel
theorem dL_law_1296 : decode cL_law 1296 = .ok (.ireturn, 1) := by decide +kernel
theorem dL_law_1297 : decode cL_law 1297 = .ok (.aload_n 1, 1) := by decide +kernel
theorem dL_law_1298 : decode cL_law 1298 = .ok (.invokevirtual 169, 3) := by decide +kernel
theorem dL_law_1301 : decode cL_law 1301 = .ok (.aload_n 2, 1) := by decide +kernel
theorem dL_law_1302 : decode cL_law 1302 = .ok (.invokevirtual 173, 3) := by decide +kernel
theorem dL_law_1305 : decode cL_law 1305 = .ok (.lcmp, 1) := by decide +kernel
theorem dL_law_1306 : decode cL_law 1306 = .ok (.ifCond .eq 5, 3) := by decide +kernel
theorem dL_law_1309 : decode cL_law 1309 = .ok (.iconst 0, 1) := by decide +kernel
theorem dL_law_1310 : decode cL_law 1310 = .ok (.ireturn, 1) := by decide +kernel
theorem dL_law_1311 : decode cL_law 1311 = .ok (.iinc 3 6, 3) := by decide +kernel
theorem dL_law_1314 : decode cL_law 1314 = .ok (.goto (-1296), 3) := by decide +kernel
theorem dL_law_1317 : decode cL_law 1317 = .ok (.iconst 1, 1) := by decide +kernel
theorem dL_law_1318 : decode cL_law 1318 = .ok (.ireturn, 1) := by decide +kernel
theorem w3_17 : Cond.methodLink RL 13 yX11_place ∈ ALL := all_tbl (tb3 (List.mem_of_getElem? (i := 17) rfl)) rfl
theorem w3_18 : Cond.instanceMethod yX11_place ∈ ALL := all_tbl (tb3 (List.mem_of_getElem? (i := 18) rfl)) rfl
theorem w3_19 : Cond.selects RX11 yX11_place yX11_place ∈ ALL := all_tbl (tb3 (List.mem_of_getElem? (i := 19) rfl)) rfl
theorem w6_43 : Cond.methodLink RL 17 yX12_place ∈ ALL := all_tbl (tb6 (List.mem_of_getElem? (i := 43) rfl)) rfl
theorem w6_44 : Cond.instanceMethod yX12_place ∈ ALL := all_tbl (tb6 (List.mem_of_getElem? (i := 44) rfl)) rfl
theorem w6_45 : Cond.selects RX12 yX12_place yX12_place ∈ ALL := all_tbl (tb6 (List.mem_of_getElem? (i := 45) rfl)) rfl
theorem w3_29 : Cond.methodLink RL 18 yX11_way ∈ ALL := all_tbl (tb3 (List.mem_of_getElem? (i := 29) rfl)) rfl
theorem w3_30 : Cond.instanceMethod yX11_way ∈ ALL := all_tbl (tb3 (List.mem_of_getElem? (i := 30) rfl)) rfl
theorem w3_31 : Cond.selects RX11 yX11_way yX11_way ∈ ALL := all_tbl (tb3 (List.mem_of_getElem? (i := 31) rfl)) rfl
theorem w6_55 : Cond.methodLink RL 22 yX12_way ∈ ALL := all_tbl (tb6 (List.mem_of_getElem? (i := 55) rfl)) rfl
theorem w6_56 : Cond.instanceMethod yX12_way ∈ ALL := all_tbl (tb6 (List.mem_of_getElem? (i := 56) rfl)) rfl
theorem w6_57 : Cond.selects RX12 yX12_way yX12_way ∈ ALL := all_tbl (tb6 (List.mem_of_getElem? (i := 57) rfl)) rfl
theorem w3_48 : Cond.methodLink RL 23 yX11_sees ∈ ALL := all_tbl (tb3 (List.mem_of_getElem? (i := 48) rfl)) rfl
theorem w3_49 : Cond.instanceMethod yX11_sees ∈ ALL := all_tbl (tb3 (List.mem_of_getElem? (i := 49) rfl)) rfl
theorem w3_50 : Cond.selects RX11 yX11_sees yX11_sees ∈ ALL := all_tbl (tb3 (List.mem_of_getElem? (i := 50) rfl)) rfl
theorem w6_70 : Cond.methodLink RL 27 yX12_sees ∈ ALL := all_tbl (tb6 (List.mem_of_getElem? (i := 70) rfl)) rfl
theorem w6_71 : Cond.instanceMethod yX12_sees ∈ ALL := all_tbl (tb6 (List.mem_of_getElem? (i := 71) rfl)) rfl
theorem w6_72 : Cond.selects RX12 yX12_sees yX12_sees ∈ ALL := all_tbl (tb6 (List.mem_of_getElem? (i := 72) rfl)) rfl
theorem w3_56 : Cond.methodLink RL 28 yX11_child ∈ ALL := all_tbl (tb3 (List.mem_of_getElem? (i := 56) rfl)) rfl
theorem w3_57 : Cond.instanceMethod yX11_child ∈ ALL := all_tbl (tb3 (List.mem_of_getElem? (i := 57) rfl)) rfl
theorem w3_58 : Cond.selects RX11 yX11_child yX11_child ∈ ALL := all_tbl (tb3 (List.mem_of_getElem? (i := 58) rfl)) rfl
theorem w6_82 : Cond.methodLink RL 32 yX12_child ∈ ALL := all_tbl (tb6 (List.mem_of_getElem? (i := 82) rfl)) rfl
theorem w6_83 : Cond.instanceMethod yX12_child ∈ ALL := all_tbl (tb6 (List.mem_of_getElem? (i := 83) rfl)) rfl
theorem w6_84 : Cond.selects RX12 yX12_child yX12_child ∈ ALL := all_tbl (tb6 (List.mem_of_getElem? (i := 84) rfl)) rfl
theorem w3_67 : Cond.methodLink RL 33 yX11_bar ∈ ALL := all_tbl (tb3 (List.mem_of_getElem? (i := 67) rfl)) rfl
theorem w3_68 : Cond.instanceMethod yX11_bar ∈ ALL := all_tbl (tb3 (List.mem_of_getElem? (i := 68) rfl)) rfl
theorem w3_69 : Cond.selects RX11 yX11_bar yX11_bar ∈ ALL := all_tbl (tb3 (List.mem_of_getElem? (i := 69) rfl)) rfl
theorem w6_90 : Cond.methodLink RL 36 yX12_bar ∈ ALL := all_tbl (tb6 (List.mem_of_getElem? (i := 90) rfl)) rfl
theorem w6_91 : Cond.instanceMethod yX12_bar ∈ ALL := all_tbl (tb6 (List.mem_of_getElem? (i := 91) rfl)) rfl
theorem w6_92 : Cond.selects RX12 yX12_bar yX12_bar ∈ ALL := all_tbl (tb6 (List.mem_of_getElem? (i := 92) rfl)) rfl
theorem w3_75 : Cond.methodLink RL 37 yX11_join ∈ ALL := all_tbl (tb3 (List.mem_of_getElem? (i := 75) rfl)) rfl
theorem w3_76 : Cond.instanceMethod yX11_join ∈ ALL := all_tbl (tb3 (List.mem_of_getElem? (i := 76) rfl)) rfl
theorem w3_77 : Cond.selects RX11 yX11_join yX11_join ∈ ALL := all_tbl (tb3 (List.mem_of_getElem? (i := 77) rfl)) rfl
theorem w6_102 : Cond.methodLink RL 40 yX12_join ∈ ALL := all_tbl (tb6 (List.mem_of_getElem? (i := 102) rfl)) rfl
theorem w6_103 : Cond.instanceMethod yX12_join ∈ ALL := all_tbl (tb6 (List.mem_of_getElem? (i := 103) rfl)) rfl
theorem w6_104 : Cond.selects RX12 yX12_join yX12_join ∈ ALL := all_tbl (tb6 (List.mem_of_getElem? (i := 104) rfl)) rfl
theorem w3_83 : Cond.methodLink RL 41 yX11_slip ∈ ALL := all_tbl (tb3 (List.mem_of_getElem? (i := 83) rfl)) rfl
theorem w3_84 : Cond.instanceMethod yX11_slip ∈ ALL := all_tbl (tb3 (List.mem_of_getElem? (i := 84) rfl)) rfl
theorem w3_85 : Cond.selects RX11 yX11_slip yX11_slip ∈ ALL := all_tbl (tb3 (List.mem_of_getElem? (i := 85) rfl)) rfl
theorem w6_106 : Cond.methodLink RL 44 yX12_slip ∈ ALL := all_tbl (tb6 (List.mem_of_getElem? (i := 106) rfl)) rfl
theorem w6_107 : Cond.instanceMethod yX12_slip ∈ ALL := all_tbl (tb6 (List.mem_of_getElem? (i := 107) rfl)) rfl
theorem w6_108 : Cond.selects RX12 yX12_slip yX12_slip ∈ ALL := all_tbl (tb6 (List.mem_of_getElem? (i := 108) rfl)) rfl
theorem w3_91 : Cond.methodLink RL 45 yX11_spare ∈ ALL := all_tbl (tb3 (List.mem_of_getElem? (i := 91) rfl)) rfl
theorem w3_92 : Cond.instanceMethod yX11_spare ∈ ALL := all_tbl (tb3 (List.mem_of_getElem? (i := 92) rfl)) rfl
theorem w3_93 : Cond.selects RX11 yX11_spare yX11_spare ∈ ALL := all_tbl (tb3 (List.mem_of_getElem? (i := 93) rfl)) rfl
theorem w6_114 : Cond.methodLink RL 49 yX12_spare ∈ ALL := all_tbl (tb6 (List.mem_of_getElem? (i := 114) rfl)) rfl
theorem w6_115 : Cond.instanceMethod yX12_spare ∈ ALL := all_tbl (tb6 (List.mem_of_getElem? (i := 115) rfl)) rfl
theorem w6_116 : Cond.selects RX12 yX12_spare yX12_spare ∈ ALL := all_tbl (tb6 (List.mem_of_getElem? (i := 116) rfl)) rfl
theorem w3_99 : Cond.methodLink RL 50 yX11_means ∈ ALL := all_tbl (tb3 (List.mem_of_getElem? (i := 99) rfl)) rfl
theorem w3_100 : Cond.instanceMethod yX11_means ∈ ALL := all_tbl (tb3 (List.mem_of_getElem? (i := 100) rfl)) rfl
theorem w3_101 : Cond.selects RX11 yX11_means yX11_means ∈ ALL := all_tbl (tb3 (List.mem_of_getElem? (i := 101) rfl)) rfl
theorem w6_122 : Cond.methodLink RL 53 yX12_means ∈ ALL := all_tbl (tb6 (List.mem_of_getElem? (i := 122) rfl)) rfl
theorem w6_123 : Cond.instanceMethod yX12_means ∈ ALL := all_tbl (tb6 (List.mem_of_getElem? (i := 123) rfl)) rfl
theorem w6_124 : Cond.selects RX12 yX12_means yX12_means ∈ ALL := all_tbl (tb6 (List.mem_of_getElem? (i := 124) rfl)) rfl
theorem w3_107 : Cond.methodLink RL 54 yX11_row ∈ ALL := all_tbl (tb3 (List.mem_of_getElem? (i := 107) rfl)) rfl
theorem w3_108 : Cond.instanceMethod yX11_row ∈ ALL := all_tbl (tb3 (List.mem_of_getElem? (i := 108) rfl)) rfl
theorem w3_109 : Cond.selects RX11 yX11_row yX11_row ∈ ALL := all_tbl (tb3 (List.mem_of_getElem? (i := 109) rfl)) rfl
theorem w6_130 : Cond.methodLink RL 57 yX12_row ∈ ALL := all_tbl (tb6 (List.mem_of_getElem? (i := 130) rfl)) rfl
theorem w6_131 : Cond.instanceMethod yX12_row ∈ ALL := all_tbl (tb6 (List.mem_of_getElem? (i := 131) rfl)) rfl
theorem w6_132 : Cond.selects RX12 yX12_row yX12_row ∈ ALL := all_tbl (tb6 (List.mem_of_getElem? (i := 132) rfl)) rfl
theorem w3_115 : Cond.methodLink RL 58 yX11_unrow ∈ ALL := all_tbl (tb3 (List.mem_of_getElem? (i := 115) rfl)) rfl
theorem w3_116 : Cond.instanceMethod yX11_unrow ∈ ALL := all_tbl (tb3 (List.mem_of_getElem? (i := 116) rfl)) rfl
theorem w3_117 : Cond.selects RX11 yX11_unrow yX11_unrow ∈ ALL := all_tbl (tb3 (List.mem_of_getElem? (i := 117) rfl)) rfl
theorem w6_141 : Cond.methodLink RL 61 yX12_unrow ∈ ALL := all_tbl (tb6 (List.mem_of_getElem? (i := 141) rfl)) rfl
theorem w6_142 : Cond.instanceMethod yX12_unrow ∈ ALL := all_tbl (tb6 (List.mem_of_getElem? (i := 142) rfl)) rfl
theorem w6_143 : Cond.selects RX12 yX12_unrow yX12_unrow ∈ ALL := all_tbl (tb6 (List.mem_of_getElem? (i := 143) rfl)) rfl
theorem w3_123 : Cond.methodLink RL 62 yX11_put ∈ ALL := all_tbl (tb3 (List.mem_of_getElem? (i := 123) rfl)) rfl
theorem w3_124 : Cond.instanceMethod yX11_put ∈ ALL := all_tbl (tb3 (List.mem_of_getElem? (i := 124) rfl)) rfl
theorem w3_125 : Cond.selects RX11 yX11_put yX11_put ∈ ALL := all_tbl (tb3 (List.mem_of_getElem? (i := 125) rfl)) rfl
theorem w6_145 : Cond.methodLink RL 65 yX12_put ∈ ALL := all_tbl (tb6 (List.mem_of_getElem? (i := 145) rfl)) rfl
theorem w6_146 : Cond.instanceMethod yX12_put ∈ ALL := all_tbl (tb6 (List.mem_of_getElem? (i := 146) rfl)) rfl
theorem w6_147 : Cond.selects RX12 yX12_put yX12_put ∈ ALL := all_tbl (tb6 (List.mem_of_getElem? (i := 147) rfl)) rfl
theorem w7_213 : Cond.constantLong RL 66 (lN 4294967295) ∈ ALL := all_tbl (tb7 (List.mem_of_getElem? (i := 213) rfl)) rfl
theorem w3_136 : Cond.methodLink RL 68 yX11_type ∈ ALL := all_tbl (tb3 (List.mem_of_getElem? (i := 136) rfl)) rfl
theorem w3_137 : Cond.instanceMethod yX11_type ∈ ALL := all_tbl (tb3 (List.mem_of_getElem? (i := 137) rfl)) rfl
theorem w3_138 : Cond.selects RX11 yX11_type yX11_type ∈ ALL := all_tbl (tb3 (List.mem_of_getElem? (i := 138) rfl)) rfl
theorem w6_149 : Cond.methodLink RL 72 yX12_type ∈ ALL := all_tbl (tb6 (List.mem_of_getElem? (i := 149) rfl)) rfl
theorem w6_150 : Cond.instanceMethod yX12_type ∈ ALL := all_tbl (tb6 (List.mem_of_getElem? (i := 150) rfl)) rfl
theorem w6_151 : Cond.selects RX12 yX12_type yX12_type ∈ ALL := all_tbl (tb6 (List.mem_of_getElem? (i := 151) rfl)) rfl
theorem w3_145 : Cond.methodLink RL 73 yX11_clear ∈ ALL := all_tbl (tb3 (List.mem_of_getElem? (i := 145) rfl)) rfl
theorem w3_146 : Cond.instanceMethod yX11_clear ∈ ALL := all_tbl (tb3 (List.mem_of_getElem? (i := 146) rfl)) rfl
theorem w3_147 : Cond.selects RX11 yX11_clear yX11_clear ∈ ALL := all_tbl (tb3 (List.mem_of_getElem? (i := 147) rfl)) rfl
theorem w6_154 : Cond.methodLink RL 76 yX12_clear ∈ ALL := all_tbl (tb6 (List.mem_of_getElem? (i := 154) rfl)) rfl
theorem w6_155 : Cond.instanceMethod yX12_clear ∈ ALL := all_tbl (tb6 (List.mem_of_getElem? (i := 155) rfl)) rfl
theorem w6_156 : Cond.selects RX12 yX12_clear yX12_clear ∈ ALL := all_tbl (tb6 (List.mem_of_getElem? (i := 156) rfl)) rfl
theorem w3_153 : Cond.methodLink RL 77 yX11_house ∈ ALL := all_tbl (tb3 (List.mem_of_getElem? (i := 153) rfl)) rfl
theorem w3_154 : Cond.instanceMethod yX11_house ∈ ALL := all_tbl (tb3 (List.mem_of_getElem? (i := 154) rfl)) rfl
theorem w3_155 : Cond.selects RX11 yX11_house yX11_house ∈ ALL := all_tbl (tb3 (List.mem_of_getElem? (i := 155) rfl)) rfl
theorem w6_158 : Cond.methodLink RL 80 yX12_house ∈ ALL := all_tbl (tb6 (List.mem_of_getElem? (i := 158) rfl)) rfl
theorem w6_159 : Cond.instanceMethod yX12_house ∈ ALL := all_tbl (tb6 (List.mem_of_getElem? (i := 159) rfl)) rfl
theorem w6_160 : Cond.selects RX12 yX12_house yX12_house ∈ ALL := all_tbl (tb6 (List.mem_of_getElem? (i := 160) rfl)) rfl
theorem w4_39 : Cond.methodLink RL 81 yX11_walk ∈ ALL := all_tbl (tb4 (List.mem_of_getElem? (i := 39) rfl)) rfl
theorem w4_40 : Cond.instanceMethod yX11_walk ∈ ALL := all_tbl (tb4 (List.mem_of_getElem? (i := 40) rfl)) rfl
theorem w4_41 : Cond.selects RX11 yX11_walk yX11_walk ∈ ALL := all_tbl (tb4 (List.mem_of_getElem? (i := 41) rfl)) rfl
theorem w6_184 : Cond.methodLink RL 84 yX12_walk ∈ ALL := all_tbl (tb6 (List.mem_of_getElem? (i := 184) rfl)) rfl
theorem w6_185 : Cond.instanceMethod yX12_walk ∈ ALL := all_tbl (tb6 (List.mem_of_getElem? (i := 185) rfl)) rfl
theorem w6_186 : Cond.selects RX12 yX12_walk yX12_walk ∈ ALL := all_tbl (tb6 (List.mem_of_getElem? (i := 186) rfl)) rfl
theorem w4_67 : Cond.methodLink RL 85 yX11_riddles ∈ ALL := all_tbl (tb4 (List.mem_of_getElem? (i := 67) rfl)) rfl
theorem w4_68 : Cond.instanceMethod yX11_riddles ∈ ALL := all_tbl (tb4 (List.mem_of_getElem? (i := 68) rfl)) rfl
theorem w4_69 : Cond.selects RX11 yX11_riddles yX11_riddles ∈ ALL := all_tbl (tb4 (List.mem_of_getElem? (i := 69) rfl)) rfl
theorem w6_193 : Cond.methodLink RL 88 yX12_riddles ∈ ALL := all_tbl (tb6 (List.mem_of_getElem? (i := 193) rfl)) rfl
theorem w6_194 : Cond.instanceMethod yX12_riddles ∈ ALL := all_tbl (tb6 (List.mem_of_getElem? (i := 194) rfl)) rfl
theorem w6_195 : Cond.selects RX12 yX12_riddles yX12_riddles ∈ ALL := all_tbl (tb6 (List.mem_of_getElem? (i := 195) rfl)) rfl
theorem w4_151 : Cond.methodLink RL 89 yX11_length ∈ ALL := all_tbl (tb4 (List.mem_of_getElem? (i := 151) rfl)) rfl
theorem w4_152 : Cond.instanceMethod yX11_length ∈ ALL := all_tbl (tb4 (List.mem_of_getElem? (i := 152) rfl)) rfl
theorem w4_153 : Cond.selects RX11 yX11_length yX11_length ∈ ALL := all_tbl (tb4 (List.mem_of_getElem? (i := 153) rfl)) rfl
theorem w7_19 : Cond.methodLink RL 92 yX12_length ∈ ALL := all_tbl (tb7 (List.mem_of_getElem? (i := 19) rfl)) rfl
theorem w7_20 : Cond.instanceMethod yX12_length ∈ ALL := all_tbl (tb7 (List.mem_of_getElem? (i := 20) rfl)) rfl
theorem w7_21 : Cond.selects RX12 yX12_length yX12_length ∈ ALL := all_tbl (tb7 (List.mem_of_getElem? (i := 21) rfl)) rfl
theorem w4_178 : Cond.methodLink RL 93 yX11_ends ∈ ALL := all_tbl (tb4 (List.mem_of_getElem? (i := 178) rfl)) rfl
theorem w4_179 : Cond.instanceMethod yX11_ends ∈ ALL := all_tbl (tb4 (List.mem_of_getElem? (i := 179) rfl)) rfl
theorem w4_180 : Cond.selects RX11 yX11_ends yX11_ends ∈ ALL := all_tbl (tb4 (List.mem_of_getElem? (i := 180) rfl)) rfl
theorem w7_43 : Cond.methodLink RL 96 yX12_ends ∈ ALL := all_tbl (tb7 (List.mem_of_getElem? (i := 43) rfl)) rfl
theorem w7_44 : Cond.instanceMethod yX12_ends ∈ ALL := all_tbl (tb7 (List.mem_of_getElem? (i := 44) rfl)) rfl
theorem w7_45 : Cond.selects RX12 yX12_ends yX12_ends ∈ ALL := all_tbl (tb7 (List.mem_of_getElem? (i := 45) rfl)) rfl
theorem w4_209 : Cond.methodLink RL 97 yX11_guessed ∈ ALL := all_tbl (tb4 (List.mem_of_getElem? (i := 209) rfl)) rfl
theorem w4_210 : Cond.instanceMethod yX11_guessed ∈ ALL := all_tbl (tb4 (List.mem_of_getElem? (i := 210) rfl)) rfl
theorem w4_211 : Cond.selects RX11 yX11_guessed yX11_guessed ∈ ALL := all_tbl (tb4 (List.mem_of_getElem? (i := 211) rfl)) rfl
theorem w7_63 : Cond.methodLink RL 100 yX12_guessed ∈ ALL := all_tbl (tb7 (List.mem_of_getElem? (i := 63) rfl)) rfl
theorem w7_64 : Cond.instanceMethod yX12_guessed ∈ ALL := all_tbl (tb7 (List.mem_of_getElem? (i := 64) rfl)) rfl
theorem w7_65 : Cond.selects RX12 yX12_guessed yX12_guessed ∈ ALL := all_tbl (tb7 (List.mem_of_getElem? (i := 65) rfl)) rfl
theorem w4_219 : Cond.methodLink RL 101 yX11_fair ∈ ALL := all_tbl (tb4 (List.mem_of_getElem? (i := 219) rfl)) rfl
theorem w4_220 : Cond.instanceMethod yX11_fair ∈ ALL := all_tbl (tb4 (List.mem_of_getElem? (i := 220) rfl)) rfl
theorem w4_221 : Cond.selects RX11 yX11_fair yX11_fair ∈ ALL := all_tbl (tb4 (List.mem_of_getElem? (i := 221) rfl)) rfl
theorem w7_75 : Cond.methodLink RL 104 yX12_fair ∈ ALL := all_tbl (tb7 (List.mem_of_getElem? (i := 75) rfl)) rfl
theorem w7_76 : Cond.instanceMethod yX12_fair ∈ ALL := all_tbl (tb7 (List.mem_of_getElem? (i := 76) rfl)) rfl
theorem w7_77 : Cond.selects RX12 yX12_fair yX12_fair ∈ ALL := all_tbl (tb7 (List.mem_of_getElem? (i := 77) rfl)) rfl
theorem w4_238 : Cond.methodLink RL 105 yX11_order ∈ ALL := all_tbl (tb4 (List.mem_of_getElem? (i := 238) rfl)) rfl
theorem w4_239 : Cond.instanceMethod yX11_order ∈ ALL := all_tbl (tb4 (List.mem_of_getElem? (i := 239) rfl)) rfl
theorem w5_0 : Cond.selects RX11 yX11_order yX11_order ∈ ALL := all_tbl (tb5 (List.mem_of_getElem? (i := 0) rfl)) rfl
theorem w7_84 : Cond.methodLink RL 108 yX12_order ∈ ALL := all_tbl (tb7 (List.mem_of_getElem? (i := 84) rfl)) rfl
theorem w7_85 : Cond.instanceMethod yX12_order ∈ ALL := all_tbl (tb7 (List.mem_of_getElem? (i := 85) rfl)) rfl
theorem w7_86 : Cond.selects RX12 yX12_order yX12_order ∈ ALL := all_tbl (tb7 (List.mem_of_getElem? (i := 86) rfl)) rfl
theorem w5_28 : Cond.methodLink RL 109 yX11_kinds ∈ ALL := all_tbl (tb5 (List.mem_of_getElem? (i := 28) rfl)) rfl
theorem w5_29 : Cond.instanceMethod yX11_kinds ∈ ALL := all_tbl (tb5 (List.mem_of_getElem? (i := 29) rfl)) rfl
theorem w5_30 : Cond.selects RX11 yX11_kinds yX11_kinds ∈ ALL := all_tbl (tb5 (List.mem_of_getElem? (i := 30) rfl)) rfl
theorem w7_108 : Cond.methodLink RL 112 yX12_kinds ∈ ALL := all_tbl (tb7 (List.mem_of_getElem? (i := 108) rfl)) rfl
theorem w7_109 : Cond.instanceMethod yX12_kinds ∈ ALL := all_tbl (tb7 (List.mem_of_getElem? (i := 109) rfl)) rfl
theorem w7_110 : Cond.selects RX12 yX12_kinds yX12_kinds ∈ ALL := all_tbl (tb7 (List.mem_of_getElem? (i := 110) rfl)) rfl
theorem w5_63 : Cond.methodLink RL 113 yX11_meet ∈ ALL := all_tbl (tb5 (List.mem_of_getElem? (i := 63) rfl)) rfl
theorem w5_64 : Cond.instanceMethod yX11_meet ∈ ALL := all_tbl (tb5 (List.mem_of_getElem? (i := 64) rfl)) rfl
theorem w5_65 : Cond.selects RX11 yX11_meet yX11_meet ∈ ALL := all_tbl (tb5 (List.mem_of_getElem? (i := 65) rfl)) rfl
theorem w7_120 : Cond.methodLink RL 116 yX12_meet ∈ ALL := all_tbl (tb7 (List.mem_of_getElem? (i := 120) rfl)) rfl
theorem w7_121 : Cond.instanceMethod yX12_meet ∈ ALL := all_tbl (tb7 (List.mem_of_getElem? (i := 121) rfl)) rfl
theorem w7_122 : Cond.selects RX12 yX12_meet yX12_meet ∈ ALL := all_tbl (tb7 (List.mem_of_getElem? (i := 122) rfl)) rfl
theorem w5_71 : Cond.methodLink RL 117 yX11_apart ∈ ALL := all_tbl (tb5 (List.mem_of_getElem? (i := 71) rfl)) rfl
theorem w5_72 : Cond.instanceMethod yX11_apart ∈ ALL := all_tbl (tb5 (List.mem_of_getElem? (i := 72) rfl)) rfl
theorem w5_73 : Cond.selects RX11 yX11_apart yX11_apart ∈ ALL := all_tbl (tb5 (List.mem_of_getElem? (i := 73) rfl)) rfl
theorem w7_132 : Cond.methodLink RL 120 yX12_apart ∈ ALL := all_tbl (tb7 (List.mem_of_getElem? (i := 132) rfl)) rfl
theorem w7_133 : Cond.instanceMethod yX12_apart ∈ ALL := all_tbl (tb7 (List.mem_of_getElem? (i := 133) rfl)) rfl
theorem w7_134 : Cond.selects RX12 yX12_apart yX12_apart ∈ ALL := all_tbl (tb7 (List.mem_of_getElem? (i := 134) rfl)) rfl
theorem w5_80 : Cond.methodLink RL 121 yX11_sooner ∈ ALL := all_tbl (tb5 (List.mem_of_getElem? (i := 80) rfl)) rfl
theorem w5_81 : Cond.instanceMethod yX11_sooner ∈ ALL := all_tbl (tb5 (List.mem_of_getElem? (i := 81) rfl)) rfl
theorem w5_82 : Cond.selects RX11 yX11_sooner yX11_sooner ∈ ALL := all_tbl (tb5 (List.mem_of_getElem? (i := 82) rfl)) rfl
theorem w7_55 : Cond.methodLink RL 124 yX12_sooner ∈ ALL := all_tbl (tb7 (List.mem_of_getElem? (i := 55) rfl)) rfl
theorem w7_56 : Cond.instanceMethod yX12_sooner ∈ ALL := all_tbl (tb7 (List.mem_of_getElem? (i := 56) rfl)) rfl
theorem w7_57 : Cond.selects RX12 yX12_sooner yX12_sooner ∈ ALL := all_tbl (tb7 (List.mem_of_getElem? (i := 57) rfl)) rfl
theorem w5_86 : Cond.methodLink RL 125 yX11_hangs ∈ ALL := all_tbl (tb5 (List.mem_of_getElem? (i := 86) rfl)) rfl
theorem w5_87 : Cond.instanceMethod yX11_hangs ∈ ALL := all_tbl (tb5 (List.mem_of_getElem? (i := 87) rfl)) rfl
theorem w5_88 : Cond.selects RX11 yX11_hangs yX11_hangs ∈ ALL := all_tbl (tb5 (List.mem_of_getElem? (i := 88) rfl)) rfl
theorem w7_136 : Cond.methodLink RL 128 yX12_hangs ∈ ALL := all_tbl (tb7 (List.mem_of_getElem? (i := 136) rfl)) rfl
theorem w7_137 : Cond.instanceMethod yX12_hangs ∈ ALL := all_tbl (tb7 (List.mem_of_getElem? (i := 137) rfl)) rfl
theorem w7_138 : Cond.selects RX12 yX12_hangs yX12_hangs ∈ ALL := all_tbl (tb7 (List.mem_of_getElem? (i := 138) rfl)) rfl
theorem w5_94 : Cond.methodLink RL 129 yX11_bears ∈ ALL := all_tbl (tb5 (List.mem_of_getElem? (i := 94) rfl)) rfl
theorem w5_95 : Cond.instanceMethod yX11_bears ∈ ALL := all_tbl (tb5 (List.mem_of_getElem? (i := 95) rfl)) rfl
theorem w5_96 : Cond.selects RX11 yX11_bears yX11_bears ∈ ALL := all_tbl (tb5 (List.mem_of_getElem? (i := 96) rfl)) rfl
theorem w7_148 : Cond.methodLink RL 132 yX12_bears ∈ ALL := all_tbl (tb7 (List.mem_of_getElem? (i := 148) rfl)) rfl
theorem w7_149 : Cond.instanceMethod yX12_bears ∈ ALL := all_tbl (tb7 (List.mem_of_getElem? (i := 149) rfl)) rfl
theorem w7_150 : Cond.selects RX12 yX12_bears yX12_bears ∈ ALL := all_tbl (tb7 (List.mem_of_getElem? (i := 150) rfl)) rfl
theorem w5_98 : Cond.methodLink RL 133 yX11_soon ∈ ALL := all_tbl (tb5 (List.mem_of_getElem? (i := 98) rfl)) rfl
theorem w5_99 : Cond.instanceMethod yX11_soon ∈ ALL := all_tbl (tb5 (List.mem_of_getElem? (i := 99) rfl)) rfl
theorem w5_100 : Cond.selects RX11 yX11_soon yX11_soon ∈ ALL := all_tbl (tb5 (List.mem_of_getElem? (i := 100) rfl)) rfl
theorem w7_152 : Cond.methodLink RL 136 yX12_soon ∈ ALL := all_tbl (tb7 (List.mem_of_getElem? (i := 152) rfl)) rfl
theorem w7_153 : Cond.instanceMethod yX12_soon ∈ ALL := all_tbl (tb7 (List.mem_of_getElem? (i := 153) rfl)) rfl
theorem w7_154 : Cond.selects RX12 yX12_soon yX12_soon ∈ ALL := all_tbl (tb7 (List.mem_of_getElem? (i := 154) rfl)) rfl
theorem w5_110 : Cond.methodLink RL 137 yX11_report ∈ ALL := all_tbl (tb5 (List.mem_of_getElem? (i := 110) rfl)) rfl
theorem w5_111 : Cond.instanceMethod yX11_report ∈ ALL := all_tbl (tb5 (List.mem_of_getElem? (i := 111) rfl)) rfl
theorem w5_112 : Cond.selects RX11 yX11_report yX11_report ∈ ALL := all_tbl (tb5 (List.mem_of_getElem? (i := 112) rfl)) rfl
theorem w7_156 : Cond.methodLink RL 140 yX12_report ∈ ALL := all_tbl (tb7 (List.mem_of_getElem? (i := 156) rfl)) rfl
theorem w7_157 : Cond.instanceMethod yX12_report ∈ ALL := all_tbl (tb7 (List.mem_of_getElem? (i := 157) rfl)) rfl
theorem w7_158 : Cond.selects RX12 yX12_report yX12_report ∈ ALL := all_tbl (tb7 (List.mem_of_getElem? (i := 158) rfl)) rfl
theorem w5_118 : Cond.methodLink RL 141 yX11_hard ∈ ALL := all_tbl (tb5 (List.mem_of_getElem? (i := 118) rfl)) rfl
theorem w5_119 : Cond.instanceMethod yX11_hard ∈ ALL := all_tbl (tb5 (List.mem_of_getElem? (i := 119) rfl)) rfl
theorem w5_120 : Cond.selects RX11 yX11_hard yX11_hard ∈ ALL := all_tbl (tb5 (List.mem_of_getElem? (i := 120) rfl)) rfl
theorem w7_160 : Cond.methodLink RL 144 yX12_hard ∈ ALL := all_tbl (tb7 (List.mem_of_getElem? (i := 160) rfl)) rfl
theorem w7_161 : Cond.instanceMethod yX12_hard ∈ ALL := all_tbl (tb7 (List.mem_of_getElem? (i := 161) rfl)) rfl
theorem w7_162 : Cond.selects RX12 yX12_hard yX12_hard ∈ ALL := all_tbl (tb7 (List.mem_of_getElem? (i := 162) rfl)) rfl
theorem w5_128 : Cond.methodLink RL 145 yX11_sign ∈ ALL := all_tbl (tb5 (List.mem_of_getElem? (i := 128) rfl)) rfl
theorem w5_129 : Cond.instanceMethod yX11_sign ∈ ALL := all_tbl (tb5 (List.mem_of_getElem? (i := 129) rfl)) rfl
theorem w5_130 : Cond.selects RX11 yX11_sign yX11_sign ∈ ALL := all_tbl (tb5 (List.mem_of_getElem? (i := 130) rfl)) rfl
theorem w7_167 : Cond.methodLink RL 148 yX12_sign ∈ ALL := all_tbl (tb7 (List.mem_of_getElem? (i := 167) rfl)) rfl
theorem w7_168 : Cond.instanceMethod yX12_sign ∈ ALL := all_tbl (tb7 (List.mem_of_getElem? (i := 168) rfl)) rfl
theorem w7_169 : Cond.selects RX12 yX12_sign yX12_sign ∈ ALL := all_tbl (tb7 (List.mem_of_getElem? (i := 169) rfl)) rfl
theorem w5_136 : Cond.methodLink RL 149 yX11_limb ∈ ALL := all_tbl (tb5 (List.mem_of_getElem? (i := 136) rfl)) rfl
theorem w5_137 : Cond.instanceMethod yX11_limb ∈ ALL := all_tbl (tb5 (List.mem_of_getElem? (i := 137) rfl)) rfl
theorem w5_138 : Cond.selects RX11 yX11_limb yX11_limb ∈ ALL := all_tbl (tb5 (List.mem_of_getElem? (i := 138) rfl)) rfl
theorem w7_175 : Cond.methodLink RL 152 yX12_limb ∈ ALL := all_tbl (tb7 (List.mem_of_getElem? (i := 175) rfl)) rfl
theorem w7_176 : Cond.instanceMethod yX12_limb ∈ ALL := all_tbl (tb7 (List.mem_of_getElem? (i := 176) rfl)) rfl
theorem w7_177 : Cond.selects RX12 yX12_limb yX12_limb ∈ ALL := all_tbl (tb7 (List.mem_of_getElem? (i := 177) rfl)) rfl
theorem w5_140 : Cond.methodLink RL 153 yX11_image ∈ ALL := all_tbl (tb5 (List.mem_of_getElem? (i := 140) rfl)) rfl
theorem w5_141 : Cond.instanceMethod yX11_image ∈ ALL := all_tbl (tb5 (List.mem_of_getElem? (i := 141) rfl)) rfl
theorem w5_142 : Cond.selects RX11 yX11_image yX11_image ∈ ALL := all_tbl (tb5 (List.mem_of_getElem? (i := 142) rfl)) rfl
theorem w7_179 : Cond.methodLink RL 156 yX12_image ∈ ALL := all_tbl (tb7 (List.mem_of_getElem? (i := 179) rfl)) rfl
theorem w7_180 : Cond.instanceMethod yX12_image ∈ ALL := all_tbl (tb7 (List.mem_of_getElem? (i := 180) rfl)) rfl
theorem w7_181 : Cond.selects RX12 yX12_image yX12_image ∈ ALL := all_tbl (tb7 (List.mem_of_getElem? (i := 181) rfl)) rfl
theorem w5_149 : Cond.methodLink RL 157 yX11_from ∈ ALL := all_tbl (tb5 (List.mem_of_getElem? (i := 149) rfl)) rfl
theorem w5_150 : Cond.instanceMethod yX11_from ∈ ALL := all_tbl (tb5 (List.mem_of_getElem? (i := 150) rfl)) rfl
theorem w5_151 : Cond.selects RX11 yX11_from yX11_from ∈ ALL := all_tbl (tb5 (List.mem_of_getElem? (i := 151) rfl)) rfl
theorem w7_187 : Cond.methodLink RL 160 yX12_from ∈ ALL := all_tbl (tb7 (List.mem_of_getElem? (i := 187) rfl)) rfl
theorem w7_188 : Cond.instanceMethod yX12_from ∈ ALL := all_tbl (tb7 (List.mem_of_getElem? (i := 188) rfl)) rfl
theorem w7_189 : Cond.selects RX12 yX12_from yX12_from ∈ ALL := all_tbl (tb7 (List.mem_of_getElem? (i := 189) rfl)) rfl
theorem w5_153 : Cond.methodLink RL 161 yX11_status ∈ ALL := all_tbl (tb5 (List.mem_of_getElem? (i := 153) rfl)) rfl
theorem w5_154 : Cond.instanceMethod yX11_status ∈ ALL := all_tbl (tb5 (List.mem_of_getElem? (i := 154) rfl)) rfl
theorem w5_155 : Cond.selects RX11 yX11_status yX11_status ∈ ALL := all_tbl (tb5 (List.mem_of_getElem? (i := 155) rfl)) rfl
theorem w7_191 : Cond.methodLink RL 164 yX12_status ∈ ALL := all_tbl (tb7 (List.mem_of_getElem? (i := 191) rfl)) rfl
theorem w7_192 : Cond.instanceMethod yX12_status ∈ ALL := all_tbl (tb7 (List.mem_of_getElem? (i := 192) rfl)) rfl
theorem w7_193 : Cond.selects RX12 yX12_status yX12_status ∈ ALL := all_tbl (tb7 (List.mem_of_getElem? (i := 193) rfl)) rfl
theorem w5_157 : Cond.methodLink RL 165 yX11_count ∈ ALL := all_tbl (tb5 (List.mem_of_getElem? (i := 157) rfl)) rfl
theorem w5_158 : Cond.instanceMethod yX11_count ∈ ALL := all_tbl (tb5 (List.mem_of_getElem? (i := 158) rfl)) rfl
theorem w5_159 : Cond.selects RX11 yX11_count yX11_count ∈ ALL := all_tbl (tb5 (List.mem_of_getElem? (i := 159) rfl)) rfl
theorem w7_195 : Cond.methodLink RL 168 yX12_count ∈ ALL := all_tbl (tb7 (List.mem_of_getElem? (i := 195) rfl)) rfl
theorem w7_196 : Cond.instanceMethod yX12_count ∈ ALL := all_tbl (tb7 (List.mem_of_getElem? (i := 196) rfl)) rfl
theorem w7_197 : Cond.selects RX12 yX12_count yX12_count ∈ ALL := all_tbl (tb7 (List.mem_of_getElem? (i := 197) rfl)) rfl
theorem w5_165 : Cond.methodLink RL 169 yX11_digest ∈ ALL := all_tbl (tb5 (List.mem_of_getElem? (i := 165) rfl)) rfl
theorem w5_166 : Cond.instanceMethod yX11_digest ∈ ALL := all_tbl (tb5 (List.mem_of_getElem? (i := 166) rfl)) rfl
theorem w5_167 : Cond.selects RX11 yX11_digest yX11_digest ∈ ALL := all_tbl (tb5 (List.mem_of_getElem? (i := 167) rfl)) rfl
theorem w7_203 : Cond.methodLink RL 173 yX12_digest ∈ ALL := all_tbl (tb7 (List.mem_of_getElem? (i := 203) rfl)) rfl
theorem w7_204 : Cond.instanceMethod yX12_digest ∈ ALL := all_tbl (tb7 (List.mem_of_getElem? (i := 204) rfl)) rfl
theorem w7_205 : Cond.selects RX12 yX12_digest yX12_digest ∈ ALL := all_tbl (tb7 (List.mem_of_getElem? (i := 205) rfl)) rfl

section LAW
variable {Z : ZT} {X : XT} {nm : String} {rc rs n k sl pc b L i : Nat} {lv lv' : List (Nat × Value)} {st : List Value} {M : Mem} {μ : Mu} {xs : Nat → Int32}
theorem J_sld {mt : MT} (E : Ent Z X mt rc rs) (S : Scr Z X b L xs) {j : Int32} (hin : vp_in j L) (hd : decode mt.2.1 pc = .ok (.iaload, 1)) (kk : J Z X n k sl (pc + 1) lv (.int (xs j.toNatClampNeg) :: st) M) : J Z X n k sl pc lv (.int j :: .ref b :: st) M := by
  obtain ⟨p, e, R, s, m, args, below, meth, c, Q, nL⟩ := X
  intro H locs ls h1 h2 h3 h4
  exact va_sld E.1 E.2.1 S.1 S.2.1 S.2.2.1 h4 hin hd (kk H locs ls h1 h2 h3 h4)
theorem J_slen {mt : MT} (E : Ent Z X mt rc rs) (S : Scr Z X b L xs) (hd : decode mt.2.1 pc = .ok (.arraylength, 1)) (kk : J Z X n k sl (pc + 1) lv (.int (nI L) :: st) M) : J Z X n k sl pc lv (.ref b :: st) M := by
  obtain ⟨p, e, R, s, m, args, below, meth, c, Q, nL⟩ := X
  intro H locs ls h1 h2 h3 h4
  exact va_slen E.1 E.2.1 S.1 S.2.1 S.2.2.1 h4 hd (kk H locs ls h1 h2 h3 h4)
/-- an int of the call that begins at i -/
theorem L_arg (E : Ent Z X (mL nm) 600000 7302249) (S : Scr Z X b L xs) (hi : i + 6 ≤ L) {kc : Nat} {z : Int} (hk : kc < 6) (d0 : decode cL_law pc = .ok (.aload_n 0, 1)) (d1 : decode cL_law (pc + 1) = .ok (.iload_n 3, 1)) (d2 : decode cL_law (pc + 2) = .ok (.iconst z, 1)) (hz : Int32.ofInt z = nI kc) (d3 : decode cL_law (pc + 3) = .ok (.iadd, 1)) (d4 : decode cL_law (pc + 4) = .ok (.iaload, 1)) (kk : LJ Z X (pc + 5) (LV Z b i) (.int (xs (i + kc)) :: st) μ) : LJ Z X pc (LV Z b i) st μ := by
  have h3 : L ≤ 3072 := S.2.2.2
  refine J_aload_n E d0 rfl ?_
  refine J_iload_n E d1 rfl ?_
  refine J_iconst E d2 hz ?_
  refine J_iadd E d3 ?_
  rw [nI_add]
  refine J_sld E S (vin (by omega) (by omega)) d4 ?_
  rw [show (nI (i + kc)).toNatClampNeg = i + kc from ix_nI (by omega)]
  exact kk
theorem L_call (E : Ent Z X (mL nm) 600000 7302249) {m2 : MT} {na o ci j : Nat} {As rest : List Value} {Q : Option Value → Mu → Prop} (hd : decode cL_law pc = .ok (.invokevirtual j, 3)) (hC : CtrS Z m2 (.ref (Z.2.2.1 + o) :: As) μ Q) (ok : okM m2 na) (rm : okR (mL nm) m2) (hn : As.length = na) (hW : (rest.map fun v => v.category).sum ≤ 8) {C : String} {T : u_T} {N : Nat} (hs : SH o = .inl ci) (hcl : vwCl[ci]? = some (C, T, N)) (hCl : C = m2.1.cls) (hw : Cond.methodLink RL j m2.1 ∈ ALL) (hi : Cond.instanceMethod m2.1 ∈ ALL) (hse : Cond.selects m2.1.cls m2.1 m2.1 ∈ ALL) (kk : ∀ (r : Option Value) (μ' : Mu), Q r μ' → LJ Z X (pc + 3) lv (r.toList ++ rest) μ') : LJ Z X pc lv (As.reverse ++ .ref (Z.2.2.1 + o) :: rest) μ :=
  J_callV E hd hC ok rm hn hW (Nat.le_of_ble_eq_true rfl) (Nat.le_of_ble_eq_true rfl) (Nat.le_refl NW) (SH_lto hs) (WM_obj hs) (by rw [hcl, hCl]) hw hi hse fun r M' ⟨μ', e, hp⟩ => by subst e; exact kk r μ' hp
theorem lcmp_self {x : Int64} : lg_cmp x x = 0 := by simp [lg_cmp]
end LAW
/-! what every call keeps -/
section OKS
variable {D : DD} {im : Nat → Option DD} {tx : TX}
theorem OkS.d {D' : DD} (O : OkS D im tx) (h1 : WF D') (h2 : WN D') : OkS D' im tx := ⟨⟨h1, h2⟩, O.2⟩
theorem k_put {a b : Int32} (O : OkS D im tx) : OkS (oPut D a b).2 im tx := O.d (O.1.1.congrD fun k h => oPut_D k h) (WN_oPut O.1.2)
theorem k_report {a b : Int32} (O : OkS D im tx) : OkS (oReport D a b).2 im tx := O.d (O.1.1.congrD fun k h => oReport_D k h) (WN_oReport O.1.2)
theorem k_clear (O : OkS D im tx) : OkS D im (0, tx.2) := ⟨O.1, O.2.1, Nat.zero_le _, fun i hi => absurd hi (Nat.not_lt_zero i)⟩
theorem bt_lt' {w : Int64} {k : Nat} : bt w k < 256 := by
  unfold bt
  omega
theorem k_type {w : Int64} {n : Int32} (O : OkS D im tx) : OkS D im (oType tx w n).2 := by
  unfold oType
  split
  · split
    · rename_i h
      refine ⟨O.1, O.2.1, h, fun i hi => ?_⟩
      show (if i < tx.1 then tx.2 i else bt w (ix n - 1 - (i - tx.1))) < 256
      split
      · rename_i h2; exact O.2.2.2 i h2
      · exact bt_lt'
    · exact O
  · exact O
theorem k_house (O : OkS D im tx) : OkS (oHouse D tx).2 im tx := by
  unfold oHouse
  split
  · exact O
  · split
    · exact O
    · rename_i E h
      have hE : WF E := WF_tF _ _ _ _ WF_0 h
      exact O.d (hE.congrD fun k hk => if_pos hk) (O.1.2.congrD fun k hk _ => if_neg (by omega))
theorem k_image {a : Int32} (O : OkS D im tx) : OkS D (oImage D im a).2 tx := by
  unfold oImage
  split
  · refine ⟨O.1, fun i E hi hE => ?_, O.2.2⟩
    by_cases e : i = ix a
    · subst e
      have hE : sIm im (ix a) D (ix a) = some E := hE
      rw [sIm_s] at hE
      cases hE
      exact O.1
    · have hE : sIm im (ix a) D i = some E := hE
      rw [sIm_n e] at hE
      exact O.2.1 i E hi hE
  · exact O
theorem k_from {a : Int32} (O : OkS D im tx) : OkS (oFrom D im a).2 im tx := by
  unfold oFrom
  split
  · rename_i h
    split
    · rename_i E hE
      have := O.2.1 _ E (inN_of h (by decide)).1 hE
      exact O.d this.1 this.2
    · exact O
  · exact O
theorem k_place (O : OkS D im tx) : OkS (oPlace D).2 im tx := O.d (WF_oPlace O.1.1) (O.1.2.congrD fun k h _ => oPlace_D k h)
theorem k_way {a b n : Int32} (O : OkS D im tx) : OkS (oWay D a b n).2 im tx := O.d (WF_oWay O.1.1) (O.1.2.congrD fun k h _ => oWay_D k h)
theorem k_sees {a b : Int32} (O : OkS D im tx) : OkS (oSees D a b).2 im tx := O.d (WF_oSees O.1.1) (O.1.2.congrD fun k h _ => oSees_D k h)
theorem k_child {r q0 q1 q2 q3 : Int32} (O : OkS D im tx) : OkS (oChild D r q0 q1 q2 q3).2 im tx := O.d (WF_oChild O.1.1) (O.1.2.congrD fun k h _ => oChild_D k h)
theorem k_bar {a b : Int32} (O : OkS D im tx) : OkS (oBar D a b).2 im tx := O.d (WF_oBar O.1.1) (O.1.2.congrD fun k h _ => oBar_D k h)
theorem k_join {a b : Int32} (O : OkS D im tx) : OkS (oJoin D a b).2 im tx := O.d (WF_oJoin O.1.1) (O.1.2.congrD fun k h _ => oJoin_D k h)
theorem k_slip {a b : Int32} (O : OkS D im tx) : OkS (oSlip D a b).2 im tx := O.d (WF_oSlip O.1.1) (O.1.2.congrD fun k h _ => oSlip_D k h)
theorem k_spare {a : Int32} (O : OkS D im tx) : OkS (oSpare D a).2 im tx := O.d (WF_oSpare O.1.1) (O.1.2.congrD fun k h _ => oSpare_D k h)
theorem k_means {a b : Int32} (O : OkS D im tx) : OkS (oMeans D a b).2 im tx := O.d (WF_oMeans O.1.1) (O.1.2.congrD fun k h _ => oMeans_D k h)
theorem k_row {a b : Int32} (O : OkS D im tx) : OkS (oRow D a b).2 im tx := O.d (WF_oRow O.1.1) (O.1.2.congrD fun k h _ => oRow_D k h)
theorem k_unrow {a : Int32} (O : OkS D im tx) : OkS (oUnrow D a).2 im tx := O.d (WF_oUnrow O.1.1) (O.1.2.congrD fun k h _ => oUnrow_D k h)
end OKS
