/-! ===== the law: its cases ===== -/
/-- the law's own method, with the room that it itself uses -/
abbrev f_law2 : mI := (⟨"StuckRecordLaw", "law", "([I)Z"⟩, code, 4, some .boolean, 344, 26090)
abbrev lsL (i : Nat) : List Value := [.ref 100002, .ref 0, .ref 312, .int (nI i)]
theorem ro_some {B : Type} {f : mM → Option B} {M M1 : mM} {v : B} (h : ro f M = some (v, M1)) : f M = some v ∧ M1 = M := by
  unfold ro at h
  obtain ⟨w, e, h⟩ := ob1_some h
  cases h
  exact ⟨e, rfl⟩
theorem and63 (x : Int32) : ∃ k, k < 64 ∧ x &&& nI 63 = nI k := by
  refine ⟨(x.toBitVec &&& BitVec.ofNat 32 63).toNat, ?_, ?_⟩
  · rw [BitVec.toNat_and]
    have h : (BitVec.ofNat 32 63).toNat < 2 ^ 6 := by decide
    exact Nat.and_lt_two_pow _ h
  · apply Int32.toBitVec_inj.mp
    rw [Int32.toBitVec_and, nI_bv, nI_bv]
    rw [BitVec.ofNat_toNat, BitVec.setWidth_eq]
section LAW
variable {X : mXs} {d : Nat} {kn : Nat × Nat} {pc : Nat} {st : List Value} {Q : Option Value → mH → Prop} {M : mM} {i c : Nat}
theorem law_arg {j : Nat} {n : Int} (hL : X.1 ≤ 3072) (h0 : decode (ib f_law2) pc = .ok (.aload_n 0, 1)) (h1 : decode (ib f_law2) (pc + 1) = .ok (.iload_n 3, 1)) (h2 : decode (ib f_law2) (pc + 1 + 1) = .ok (.iconst n, 1)) (hv : Int32.ofInt n = nI j) (h3 : decode (ib f_law2) (pc + 1 + 1 + 1) = .ok (.iadd, 1)) (h4 : decode (ib f_law2) (pc + 1 + 1 + 1 + 1) = .ok (.iaload, 1)) (hj : i + j < X.1)
    (k : wp X d f_law2 kn (pc + 1 + 1 + 1 + 1 + 1) (lsL i) (.int (X.2 (i + j)) :: st) (lay M) Q) : wp X d f_law2 kn pc (lsL i) st (lay M) Q := by
  refine wp_aload_n h0 rfl rfl ?_
  refine wp_iload_n h1 rfl rfl ?_
  refine wp_iconst (v := nI j) h2 hv ?_
  refine wn_iadd h3 ?_
  exact wp_xald (k := 2) (j := i + j) h4 (by decide) (ix_nI (by omega)) hj rfl k
/-- what a case must do -/
def LawCase (k : Nat) (pc : Nat) : Prop := ∀ (X : mXs) (d i c : Nat) (M : mM) (Q : Option Value → mH → Prop), X.1 ≤ 3072 → i + 6 ≤ X.1 → c + 1000 < 2147483648 → Iv c M M → (∀ M', Iv (c + 1000) M' M' → wp X (d + 50) f_law2 (344, 26090) 1219 (lsL i) [] (lay M') Q) → wp X (d + 50) f_law2 (344, 26090) pc (lsL i) [] (lay M) Q
theorem law_case_0 : LawCase 0 188 := by
  intro X d i c M Q hL hi hc hI K
  obtain ⟨v, M1, M2, e1, e2, hI2⟩ := call_one (ok_state (z := 20000000) (Nat.le_refl _) (X.2 (i + 1))) hc hI
  refine wp_aload_n d_law_188 rfl rfl ?_
  refine law_arg (j := 1) hL d_law_189 d_law_190 d_law_191 rfl d_law_192 d_law_193 (by omega) ?_
  refine wl_callV1 d_law_194 lc_Rec_state lv_law_13 rfl sh_0 rfl rfl ⟨rfl, rfl⟩ ⟨by decide, by decide⟩ ?_
  refine s_Rec_state e1 ?_
  refine wp_aload_n d_law_197 rfl rfl ?_
  refine law_arg (j := 1) hL d_law_198 d_law_199 d_law_200 rfl d_law_201 d_law_202 (by omega) ?_
  refine wl_callV1 d_law_203 lc_Mod_state lv_law_17 rfl sh_312 rfl rfl ⟨rfl, rfl⟩ ⟨by decide, by decide⟩ ?_
  refine s_Mod_state e2 ?_
  exact wp_icmp_eq 1219 d_law_206 rfl (fun _ => K _ hI2) (fun h => absurd rfl h)
theorem law_case_1 : LawCase 1 211 := by
  intro X d i c M Q hL hi hc hI K
  obtain ⟨v, M1, M2, e1, e2, hI2⟩ := call_one (ok_set (z := 20000000) (Nat.le_refl _) (X.2 (i + 1)) (X.2 (i + 2)) (X.2 (i + 3))) hc hI
  refine wp_aload_n d_law_211 rfl rfl ?_
  refine law_arg (j := 1) hL d_law_212 d_law_213 d_law_214 rfl d_law_215 d_law_216 (by omega) ?_
  refine law_arg (j := 2) hL d_law_217 d_law_218 d_law_219 rfl d_law_220 d_law_221 (by omega) ?_
  refine law_arg (j := 3) hL d_law_222 d_law_223 d_law_224 rfl d_law_225 d_law_226 (by omega) ?_
  refine wl_callV3 d_law_227 lc_Rec_set lv_law_18 rfl sh_0 rfl rfl ⟨rfl, rfl⟩ ⟨by decide, by decide⟩ ?_
  refine s_Rec_set e1 ?_
  refine wp_aload_n d_law_230 rfl rfl ?_
  refine law_arg (j := 1) hL d_law_231 d_law_232 d_law_233 rfl d_law_234 d_law_235 (by omega) ?_
  refine law_arg (j := 2) hL d_law_236 d_law_237 d_law_238 rfl d_law_239 d_law_240 (by omega) ?_
  refine law_arg (j := 3) hL d_law_241 d_law_242 d_law_243 rfl d_law_244 d_law_245 (by omega) ?_
  refine wl_callV3 d_law_246 lc_Mod_set lv_law_22 rfl sh_312 rfl rfl ⟨rfl, rfl⟩ ⟨by decide, by decide⟩ ?_
  refine s_Mod_set e2 ?_
  exact wp_icmp_eq 1219 d_law_249 rfl (fun _ => K _ hI2) (fun h => absurd rfl h)
theorem law_case_2 : LawCase 2 254 := by
  intro X d i c M Q hL hi hc hI K
  obtain ⟨v, M1, M2, e1, e2, hI2⟩ := call_one (ok_put (z := 20000000) (Nat.le_refl _) (X.2 (i + 1)) (X.2 (i + 2)) (X.2 (i + 3)) (X.2 (i + 4))) hc hI
  refine wp_aload_n d_law_254 rfl rfl ?_
  refine law_arg (j := 1) hL d_law_255 d_law_256 d_law_257 rfl d_law_258 d_law_259 (by omega) ?_
  refine law_arg (j := 2) hL d_law_260 d_law_261 d_law_262 rfl d_law_263 d_law_264 (by omega) ?_
  refine law_arg (j := 3) hL d_law_265 d_law_266 d_law_267 rfl d_law_268 d_law_269 (by omega) ?_
  refine law_arg (j := 4) hL d_law_270 d_law_271 d_law_272 rfl d_law_273 d_law_274 (by omega) ?_
  refine wl_callV4 d_law_275 lc_Rec_put lv_law_23 rfl sh_0 rfl rfl ⟨rfl, rfl⟩ ⟨by decide, by decide⟩ ?_
  refine s_Rec_put e1 ?_
  refine wp_aload_n d_law_278 rfl rfl ?_
  refine law_arg (j := 1) hL d_law_279 d_law_280 d_law_281 rfl d_law_282 d_law_283 (by omega) ?_
  refine law_arg (j := 2) hL d_law_284 d_law_285 d_law_286 rfl d_law_287 d_law_288 (by omega) ?_
  refine law_arg (j := 3) hL d_law_289 d_law_290 d_law_291 rfl d_law_292 d_law_293 (by omega) ?_
  refine law_arg (j := 4) hL d_law_294 d_law_295 d_law_296 rfl d_law_297 d_law_298 (by omega) ?_
  refine wl_callV4 d_law_299 lc_Mod_put lv_law_27 rfl sh_312 rfl rfl ⟨rfl, rfl⟩ ⟨by decide, by decide⟩ ?_
  refine s_Mod_put e2 ?_
  exact wp_icmp_eq 1219 d_law_302 rfl (fun _ => K _ hI2) (fun h => absurd rfl h)
theorem law_case_3 : LawCase 3 307 := by
  intro X d i c M Q hL hi hc hI K
  obtain ⟨v, M1, M2, e1, e2, hI2⟩ := call_one (ok_act (z := 20000000) (Nat.le_refl _) (X.2 (i + 1)) (X.2 (i + 2)) (X.2 (i + 3))) hc hI
  refine wp_aload_n d_law_307 rfl rfl ?_
  refine law_arg (j := 1) hL d_law_308 d_law_309 d_law_310 rfl d_law_311 d_law_312 (by omega) ?_
  refine law_arg (j := 2) hL d_law_313 d_law_314 d_law_315 rfl d_law_316 d_law_317 (by omega) ?_
  refine law_arg (j := 3) hL d_law_318 d_law_319 d_law_320 rfl d_law_321 d_law_322 (by omega) ?_
  refine wl_callV3 d_law_323 lc_Rec_act lv_law_28 rfl sh_0 rfl rfl ⟨rfl, rfl⟩ ⟨by decide, by decide⟩ ?_
  refine s_Rec_act e1 ?_
  refine wp_aload_n d_law_326 rfl rfl ?_
  refine law_arg (j := 1) hL d_law_327 d_law_328 d_law_329 rfl d_law_330 d_law_331 (by omega) ?_
  refine law_arg (j := 2) hL d_law_332 d_law_333 d_law_334 rfl d_law_335 d_law_336 (by omega) ?_
  refine law_arg (j := 3) hL d_law_337 d_law_338 d_law_339 rfl d_law_340 d_law_341 (by omega) ?_
  refine wl_callV3 d_law_342 lc_Mod_act lv_law_31 rfl sh_312 rfl rfl ⟨rfl, rfl⟩ ⟨by decide, by decide⟩ ?_
  refine s_Mod_act e2 ?_
  exact wp_icmp_eq 1219 d_law_345 rfl (fun _ => K _ hI2) (fun h => absurd rfl h)
theorem law_case_4 : LawCase 4 350 := by
  intro X d i c M Q hL hi hc hI K
  obtain ⟨v, M1, M2, e1, e2, hI2⟩ := call_one (ok_days (z := 20000000) (Nat.le_refl _) (X.2 (i + 1))) hc hI
  refine wp_aload_n d_law_350 rfl rfl ?_
  refine law_arg (j := 1) hL d_law_351 d_law_352 d_law_353 rfl d_law_354 d_law_355 (by omega) ?_
  refine wl_callV1 d_law_356 lc_Rec_days lv_law_32 rfl sh_0 rfl rfl ⟨rfl, rfl⟩ ⟨by decide, by decide⟩ ?_
  refine s_Rec_days e1 ?_
  refine wp_aload_n d_law_359 rfl rfl ?_
  refine law_arg (j := 1) hL d_law_360 d_law_361 d_law_362 rfl d_law_363 d_law_364 (by omega) ?_
  refine wl_callV1 d_law_365 lc_Mod_days lv_law_35 rfl sh_312 rfl rfl ⟨rfl, rfl⟩ ⟨by decide, by decide⟩ ?_
  refine s_Mod_days e2 ?_
  exact wp_icmp_eq 1219 d_law_368 rfl (fun _ => K _ hI2) (fun h => absurd rfl h)
theorem law_case_5 : LawCase 5 373 := by
  intro X d i c M Q hL hi hc hI K
  obtain ⟨v, M1, M2, e1, e2, hI2⟩ := call_one (ok_feed (z := 20000000) (Nat.le_refl _) (X.2 (i + 1)) (X.2 (i + 2)) (X.2 (i + 3)) (X.2 (i + 4)) (X.2 (i + 5))) hc hI
  refine wp_aload_n d_law_373 rfl rfl ?_
  refine law_arg (j := 1) hL d_law_374 d_law_375 d_law_376 rfl d_law_377 d_law_378 (by omega) ?_
  refine law_arg (j := 2) hL d_law_379 d_law_380 d_law_381 rfl d_law_382 d_law_383 (by omega) ?_
  refine law_arg (j := 3) hL d_law_384 d_law_385 d_law_386 rfl d_law_387 d_law_388 (by omega) ?_
  refine law_arg (j := 4) hL d_law_389 d_law_390 d_law_391 rfl d_law_392 d_law_393 (by omega) ?_
  refine law_arg (j := 5) hL d_law_394 d_law_395 d_law_396 rfl d_law_397 d_law_398 (by omega) ?_
  refine wl_callV5 d_law_399 lc_Rec_feed lv_law_36 rfl sh_0 rfl rfl ⟨rfl, rfl⟩ ⟨by decide, by decide⟩ ?_
  refine s_Rec_feed e1 ?_
  refine wp_aload_n d_law_402 rfl rfl ?_
  refine law_arg (j := 1) hL d_law_403 d_law_404 d_law_405 rfl d_law_406 d_law_407 (by omega) ?_
  refine law_arg (j := 2) hL d_law_408 d_law_409 d_law_410 rfl d_law_411 d_law_412 (by omega) ?_
  refine law_arg (j := 3) hL d_law_413 d_law_414 d_law_415 rfl d_law_416 d_law_417 (by omega) ?_
  refine law_arg (j := 4) hL d_law_418 d_law_419 d_law_420 rfl d_law_421 d_law_422 (by omega) ?_
  refine law_arg (j := 5) hL d_law_423 d_law_424 d_law_425 rfl d_law_426 d_law_427 (by omega) ?_
  refine wl_callV5 d_law_428 lc_Mod_feed lv_law_40 rfl sh_312 rfl rfl ⟨rfl, rfl⟩ ⟨by decide, by decide⟩ ?_
  refine s_Mod_feed e2 ?_
  exact wp_icmp_eq 1219 d_law_431 rfl (fun _ => K _ hI2) (fun h => absurd rfl h)
theorem law_case_6 : LawCase 6 436 := by
  intro X d i c M Q hL hi hc hI K
  obtain ⟨v, M1, M2, e1, e2, hI2⟩ := call_one (ok_end (X.2 (i + 1))) hc hI
  refine wp_aload_n d_law_436 rfl rfl ?_
  refine law_arg (j := 1) hL d_law_437 d_law_438 d_law_439 rfl d_law_440 d_law_441 (by omega) ?_
  refine wl_callV1 d_law_442 lc_Rec_end lv_law_41 rfl sh_0 rfl rfl ⟨rfl, rfl⟩ ⟨by decide, by decide⟩ ?_
  refine s_Rec_end e1 ?_
  refine wp_aload_n d_law_445 rfl rfl ?_
  refine law_arg (j := 1) hL d_law_446 d_law_447 d_law_448 rfl d_law_449 d_law_450 (by omega) ?_
  refine wl_callV1 d_law_451 lc_Mod_end lv_law_45 rfl sh_312 rfl rfl ⟨rfl, rfl⟩ ⟨by decide, by decide⟩ ?_
  refine s_Mod_end e2 ?_
  exact wp_icmp_eq 1219 d_law_454 rfl (fun _ => K _ hI2) (fun h => absurd rfl h)
theorem law_case_7 : LawCase 7 459 := by
  intro X d i c M Q hL hi hc hI K
  obtain ⟨v, M1, M2, e1, e2, hI2⟩ := call_one (ok_text (z := 20000000) (by decide) (X.2 (i + 1))) hc hI
  refine wp_aload_n d_law_459 rfl rfl ?_
  refine law_arg (j := 1) hL d_law_460 d_law_461 d_law_462 rfl d_law_463 d_law_464 (by omega) ?_
  refine wl_callV1 d_law_465 lc_Rec_text lv_law_46 rfl sh_0 rfl rfl ⟨rfl, rfl⟩ ⟨by decide, by decide⟩ ?_
  refine s_Rec_text e1 ?_
  refine wp_aload_n d_law_468 rfl rfl ?_
  refine law_arg (j := 1) hL d_law_469 d_law_470 d_law_471 rfl d_law_472 d_law_473 (by omega) ?_
  refine wl_callV1 d_law_474 lc_Mod_text lv_law_49 rfl sh_312 rfl rfl ⟨rfl, rfl⟩ ⟨by decide, by decide⟩ ?_
  refine s_Mod_text e2 ?_
  exact wp_icmp_eq 1219 d_law_477 rfl (fun _ => K _ hI2) (fun h => absurd rfl h)
theorem law_case_8 : LawCase 8 482 := by
  intro X d i c M Q hL hi hc hI K
  obtain ⟨v, M1, M2, e1, e2, hI2⟩ := call_one (ok_fault (X.2 (i + 1))) hc hI
  obtain ⟨e1, rfl⟩ := ro_some e1
  obtain ⟨e2, rfl⟩ := ro_some e2
  replace e1 := Option.some.inj e1
  replace e2 := Option.some.inj e2
  refine wp_aload_n d_law_482 rfl rfl ?_
  refine law_arg (j := 1) hL d_law_483 d_law_484 d_law_485 rfl d_law_486 d_law_487 (by omega) ?_
  refine wl_callV1 d_law_488 lc_Rec_fault lv_law_50 rfl sh_0 rfl rfl ⟨rfl, rfl⟩ ⟨by decide, by decide⟩ ?_
  refine s_Rec_fault e1 ?_
  refine wp_aload_n d_law_491 rfl rfl ?_
  refine law_arg (j := 1) hL d_law_492 d_law_493 d_law_494 rfl d_law_495 d_law_496 (by omega) ?_
  refine wl_callV1 d_law_497 lc_Mod_fault lv_law_53 rfl sh_312 rfl rfl ⟨rfl, rfl⟩ ⟨by decide, by decide⟩ ?_
  refine s_Mod_fault e2 ?_
  exact wp_icmp_eq 1219 d_law_500 rfl (fun _ => K _ hI2) (fun h => absurd rfl h)
theorem law_case_9 : LawCase 9 505 := by
  intro X d i c M Q hL hi hc hI K
  obtain ⟨v, M1, M2, e1, e2, hI2⟩ := call_one (ok_inch (z := 20000000) (Nat.le_refl _) (X.2 (i + 1)) (X.2 (i + 2))) hc hI
  obtain ⟨e1, rfl⟩ := ro_some e1
  obtain ⟨e2, rfl⟩ := ro_some e2
  refine wp_aload_n d_law_505 rfl rfl ?_
  refine law_arg (j := 1) hL d_law_506 d_law_507 d_law_508 rfl d_law_509 d_law_510 (by omega) ?_
  refine law_arg (j := 2) hL d_law_511 d_law_512 d_law_513 rfl d_law_514 d_law_515 (by omega) ?_
  refine wl_callV2 d_law_516 lc_Rec_inch lv_law_54 rfl sh_0 rfl rfl ⟨rfl, rfl⟩ ⟨by decide, by decide⟩ ?_
  refine s_Rec_inch e1 ?_
  refine wp_aload_n d_law_519 rfl rfl ?_
  refine law_arg (j := 1) hL d_law_520 d_law_521 d_law_522 rfl d_law_523 d_law_524 (by omega) ?_
  refine law_arg (j := 2) hL d_law_525 d_law_526 d_law_527 rfl d_law_528 d_law_529 (by omega) ?_
  refine wl_callV2 d_law_530 lc_Mod_inch lv_law_58 rfl sh_312 rfl rfl ⟨rfl, rfl⟩ ⟨by decide, by decide⟩ ?_
  refine s_Mod_inch e2 ?_
  exact wp_icmp_eq 1219 d_law_533 rfl (fun _ => K _ hI2) (fun h => absurd rfl h)
theorem law_case_10 : LawCase 10 538 := by
  intro X d i c M Q hL hi hc hI K
  obtain ⟨v, M1, M2, e1, e2, hI2⟩ := call_one (ok_of (z := 20000000) (Nat.le_refl _) (X.2 (i + 1)) (X.2 (i + 2))) hc hI
  refine wp_aload_n d_law_538 rfl rfl ?_
  refine law_arg (j := 1) hL d_law_539 d_law_540 d_law_541 rfl d_law_542 d_law_543 (by omega) ?_
  refine law_arg (j := 2) hL d_law_544 d_law_545 d_law_546 rfl d_law_547 d_law_548 (by omega) ?_
  refine wl_callV2 d_law_549 lc_Rec_of lv_law_59 rfl sh_0 rfl rfl ⟨rfl, rfl⟩ ⟨by decide, by decide⟩ ?_
  refine s_Rec_of e1 ?_
  refine wp_aload_n d_law_552 rfl rfl ?_
  refine law_arg (j := 1) hL d_law_553 d_law_554 d_law_555 rfl d_law_556 d_law_557 (by omega) ?_
  refine law_arg (j := 2) hL d_law_558 d_law_559 d_law_560 rfl d_law_561 d_law_562 (by omega) ?_
  refine wl_callV2 d_law_563 lc_Mod_of lv_law_62 rfl sh_312 rfl rfl ⟨rfl, rfl⟩ ⟨by decide, by decide⟩ ?_
  refine s_Mod_of e2 ?_
  exact wp_icmp_eq 1219 d_law_566 rfl (fun _ => K _ hI2) (fun h => absurd rfl h)
theorem law_case_11 : LawCase 11 571 := by
  intro X d i c M Q hL hi hc hI K
  obtain ⟨v, M1, M2, e1, e2, hI2⟩ := call_one (ok_book (z := 20000000) (Nat.le_refl _) (X.2 (i + 1)) (X.2 (i + 2))) hc hI
  obtain ⟨e1, rfl⟩ := ro_some e1
  obtain ⟨e2, rfl⟩ := ro_some e2
  refine wp_aload_n d_law_571 rfl rfl ?_
  refine law_arg (j := 1) hL d_law_572 d_law_573 d_law_574 rfl d_law_575 d_law_576 (by omega) ?_
  refine law_arg (j := 2) hL d_law_577 d_law_578 d_law_579 rfl d_law_580 d_law_581 (by omega) ?_
  refine wl_callV2 d_law_582 lc_Rec_book lv_law_63 rfl sh_0 rfl rfl ⟨rfl, rfl⟩ ⟨by decide, by decide⟩ ?_
  refine s_Rec_book e1 ?_
  refine wp_aload_n d_law_585 rfl rfl ?_
  refine law_arg (j := 1) hL d_law_586 d_law_587 d_law_588 rfl d_law_589 d_law_590 (by omega) ?_
  refine law_arg (j := 2) hL d_law_591 d_law_592 d_law_593 rfl d_law_594 d_law_595 (by omega) ?_
  refine wl_callV2 d_law_596 lc_Mod_book lv_law_66 rfl sh_312 rfl rfl ⟨rfl, rfl⟩ ⟨by decide, by decide⟩ ?_
  refine s_Mod_book e2 ?_
  exact wp_icmp_eq 1219 d_law_599 rfl (fun _ => K _ hI2) (fun h => absurd rfl h)
theorem law_case_12 : LawCase 12 604 := by
  intro X d i c M Q hL hi hc hI K
  obtain ⟨v, M1, M2, e1, e2, hI2⟩ := call_one (ok_goes (z := 20000000) (Nat.le_refl _) (X.2 (i + 1)) (X.2 (i + 2))) hc hI
  refine wp_aload_n d_law_604 rfl rfl ?_
  refine law_arg (j := 1) hL d_law_605 d_law_606 d_law_607 rfl d_law_608 d_law_609 (by omega) ?_
  refine law_arg (j := 2) hL d_law_610 d_law_611 d_law_612 rfl d_law_613 d_law_614 (by omega) ?_
  refine wl_callV2 d_law_615 lc_Rec_goes lv_law_67 rfl sh_0 rfl rfl ⟨rfl, rfl⟩ ⟨by decide, by decide⟩ ?_
  refine s_Rec_goes e1 ?_
  refine wp_aload_n d_law_618 rfl rfl ?_
  refine law_arg (j := 1) hL d_law_619 d_law_620 d_law_621 rfl d_law_622 d_law_623 (by omega) ?_
  refine law_arg (j := 2) hL d_law_624 d_law_625 d_law_626 rfl d_law_627 d_law_628 (by omega) ?_
  refine wl_callV2 d_law_629 lc_Mod_goes lv_law_70 rfl sh_312 rfl rfl ⟨rfl, rfl⟩ ⟨by decide, by decide⟩ ?_
  refine s_Mod_goes e2 ?_
  exact wp_icmp_eq 1219 d_law_632 rfl (fun _ => K _ hI2) (fun h => absurd rfl h)
theorem law_case_13 : LawCase 13 637 := by
  intro X d i c M Q hL hi hc hI K
  obtain ⟨v, M1, M2, e1, e2, hI2⟩ := call_one (ok_nearest (z := 20000000) (Nat.le_refl _) (X.2 (i + 1))) hc hI
  obtain ⟨e1, rfl⟩ := ro_some e1
  obtain ⟨e2, rfl⟩ := ro_some e2
  refine wp_aload_n d_law_637 rfl rfl ?_
  refine law_arg (j := 1) hL d_law_638 d_law_639 d_law_640 rfl d_law_641 d_law_642 (by omega) ?_
  refine wl_callV1 d_law_643 lc_Rec_nearest lv_law_71 rfl sh_0 rfl rfl ⟨rfl, rfl⟩ ⟨by decide, by decide⟩ ?_
  refine s_Rec_nearest e1 ?_
  refine wp_aload_n d_law_646 rfl rfl ?_
  refine law_arg (j := 1) hL d_law_647 d_law_648 d_law_649 rfl d_law_650 d_law_651 (by omega) ?_
  refine wl_callV1 d_law_652 lc_Mod_nearest lv_law_74 rfl sh_312 rfl rfl ⟨rfl, rfl⟩ ⟨by decide, by decide⟩ ?_
  refine s_Mod_nearest e2 ?_
  exact wp_icmp_eq 1219 d_law_655 rfl (fun _ => K _ hI2) (fun h => absurd rfl h)
theorem law_case_14 : LawCase 14 660 := by
  intro X d i c M Q hL hi hc hI K
  obtain ⟨v, M1, M2, e1, e2, hI2⟩ := call_one (ok_heaps (z := 20000000) (Nat.le_refl _) (X.2 (i + 1))) hc hI
  refine wp_aload_n d_law_660 rfl rfl ?_
  refine law_arg (j := 1) hL d_law_661 d_law_662 d_law_663 rfl d_law_664 d_law_665 (by omega) ?_
  refine wl_callV1 d_law_666 lc_Rec_heaps lv_law_75 rfl sh_0 rfl rfl ⟨rfl, rfl⟩ ⟨by decide, by decide⟩ ?_
  refine s_Rec_heaps e1 ?_
  refine wp_aload_n d_law_669 rfl rfl ?_
  refine law_arg (j := 1) hL d_law_670 d_law_671 d_law_672 rfl d_law_673 d_law_674 (by omega) ?_
  refine wl_callV1 d_law_675 lc_Mod_heaps lv_law_78 rfl sh_312 rfl rfl ⟨rfl, rfl⟩ ⟨by decide, by decide⟩ ?_
  refine s_Mod_heaps e2 ?_
  exact wp_icmp_eq 1219 d_law_678 rfl (fun _ => K _ hI2) (fun h => absurd rfl h)
theorem law_case_15 : LawCase 15 683 := by
  intro X d i c M Q hL hi hc hI K
  obtain ⟨v, M1, M2, e1, e2, hI2⟩ := call_one (ok_kind (z := 20000000) (Nat.le_refl _) (X.2 (i + 1))) hc hI
  refine wp_aload_n d_law_683 rfl rfl ?_
  refine law_arg (j := 1) hL d_law_684 d_law_685 d_law_686 rfl d_law_687 d_law_688 (by omega) ?_
  refine wl_callV1 d_law_689 lc_Rec_kind lv_law_79 rfl sh_0 rfl rfl ⟨rfl, rfl⟩ ⟨by decide, by decide⟩ ?_
  refine s_Rec_kind e1 ?_
  refine wp_aload_n d_law_692 rfl rfl ?_
  refine law_arg (j := 1) hL d_law_693 d_law_694 d_law_695 rfl d_law_696 d_law_697 (by omega) ?_
  refine wl_callV1 d_law_698 lc_Mod_kind lv_law_82 rfl sh_312 rfl rfl ⟨rfl, rfl⟩ ⟨by decide, by decide⟩ ?_
  refine s_Mod_kind e2 ?_
  exact wp_icmp_eq 1219 d_law_701 rfl (fun _ => K _ hI2) (fun h => absurd rfl h)
theorem law_case_16 : LawCase 16 706 := by
  intro X d i c M Q hL hi hc hI K
  obtain ⟨v, M1, M2, e1, e2, hI2⟩ := call_one (ok_says (z := 20000000) (Nat.le_refl _) (X.2 (i + 1))) hc hI
  refine wp_aload_n d_law_706 rfl rfl ?_
  refine law_arg (j := 1) hL d_law_707 d_law_708 d_law_709 rfl d_law_710 d_law_711 (by omega) ?_
  refine wl_callV1 d_law_712 lc_Rec_says lv_law_83 rfl sh_0 rfl rfl ⟨rfl, rfl⟩ ⟨by decide, by decide⟩ ?_
  refine s_Rec_says e1 ?_
  refine wp_aload_n d_law_715 rfl rfl ?_
  refine law_arg (j := 1) hL d_law_716 d_law_717 d_law_718 rfl d_law_719 d_law_720 (by omega) ?_
  refine wl_callV1 d_law_721 lc_Mod_says lv_law_86 rfl sh_312 rfl rfl ⟨rfl, rfl⟩ ⟨by decide, by decide⟩ ?_
  refine s_Mod_says e2 ?_
  exact wp_icmp_eq 1219 d_law_724 rfl (fun _ => K _ hI2) (fun h => absurd rfl h)
theorem law_case_17 : LawCase 17 729 := by
  intro X d i c M Q hL hi hc hI K
  obtain ⟨v, M1, M2, e1, e2, hI2⟩ := call_one (ok_pass (z := 20000000) (Nat.le_refl _) (X.2 (i + 1)) (X.2 (i + 2))) hc hI
  obtain ⟨e1, rfl⟩ := ro_some e1
  obtain ⟨e2, rfl⟩ := ro_some e2
  refine wp_aload_n d_law_729 rfl rfl ?_
  refine law_arg (j := 1) hL d_law_730 d_law_731 d_law_732 rfl d_law_733 d_law_734 (by omega) ?_
  refine law_arg (j := 2) hL d_law_735 d_law_736 d_law_737 rfl d_law_738 d_law_739 (by omega) ?_
  refine wl_callV2 d_law_740 lc_Rec_pass lv_law_87 rfl sh_0 rfl rfl ⟨rfl, rfl⟩ ⟨by decide, by decide⟩ ?_
  refine s_Rec_pass e1 ?_
  refine wp_aload_n d_law_743 rfl rfl ?_
  refine law_arg (j := 1) hL d_law_744 d_law_745 d_law_746 rfl d_law_747 d_law_748 (by omega) ?_
  refine law_arg (j := 2) hL d_law_749 d_law_750 d_law_751 rfl d_law_752 d_law_753 (by omega) ?_
  refine wl_callV2 d_law_754 lc_Mod_pass lv_law_90 rfl sh_312 rfl rfl ⟨rfl, rfl⟩ ⟨by decide, by decide⟩ ?_
  refine s_Mod_pass e2 ?_
  exact wp_icmp_eq 1219 d_law_757 rfl (fun _ => K _ hI2) (fun h => absurd rfl h)
theorem law_case_18 : LawCase 18 762 := by
  intro X d i c M Q hL hi hc hI K
  obtain ⟨v, M1, M2, e1, e2, hI2⟩ := call_one (ok_words (z := 20000000) (Nat.le_refl _) (X.2 (i + 1)) (X.2 (i + 2))) hc hI
  refine wp_aload_n d_law_762 rfl rfl ?_
  refine law_arg (j := 1) hL d_law_763 d_law_764 d_law_765 rfl d_law_766 d_law_767 (by omega) ?_
  refine law_arg (j := 2) hL d_law_768 d_law_769 d_law_770 rfl d_law_771 d_law_772 (by omega) ?_
  refine wl_callV2 d_law_773 lc_Rec_words lv_law_91 rfl sh_0 rfl rfl ⟨rfl, rfl⟩ ⟨by decide, by decide⟩ ?_
  refine s_Rec_words e1 ?_
  refine wp_aload_n d_law_776 rfl rfl ?_
  refine law_arg (j := 1) hL d_law_777 d_law_778 d_law_779 rfl d_law_780 d_law_781 (by omega) ?_
  refine law_arg (j := 2) hL d_law_782 d_law_783 d_law_784 rfl d_law_785 d_law_786 (by omega) ?_
  refine wl_callV2 d_law_787 lc_Mod_words lv_law_94 rfl sh_312 rfl rfl ⟨rfl, rfl⟩ ⟨by decide, by decide⟩ ?_
  refine s_Mod_words e2 ?_
  exact wp_icmp_eq 1219 d_law_790 rfl (fun _ => K _ hI2) (fun h => absurd rfl h)
theorem law_case_19 : LawCase 19 795 := by
  intro X d i c M Q hL hi hc hI K
  obtain ⟨v, M1, M2, e1, e2, hI2⟩ := call_one (ok_legs (z := 20000000) (Nat.le_refl _) (X.2 (i + 1))) hc hI
  obtain ⟨e1, rfl⟩ := ro_some e1
  obtain ⟨e2, rfl⟩ := ro_some e2
  refine wp_aload_n d_law_795 rfl rfl ?_
  refine law_arg (j := 1) hL d_law_796 d_law_797 d_law_798 rfl d_law_799 d_law_800 (by omega) ?_
  refine wl_callV1 d_law_801 lc_Rec_legs lv_law_95 rfl sh_0 rfl rfl ⟨rfl, rfl⟩ ⟨by decide, by decide⟩ ?_
  refine s_Rec_legs e1 ?_
  refine wp_aload_n d_law_804 rfl rfl ?_
  refine law_arg (j := 1) hL d_law_805 d_law_806 d_law_807 rfl d_law_808 d_law_809 (by omega) ?_
  refine wl_callV1 d_law_810 lc_Mod_legs lv_law_98 rfl sh_312 rfl rfl ⟨rfl, rfl⟩ ⟨by decide, by decide⟩ ?_
  refine s_Mod_legs e2 ?_
  exact wp_icmp_eq 1219 d_law_813 rfl (fun _ => K _ hI2) (fun h => absurd rfl h)
theorem law_case_20 : LawCase 20 818 := by
  intro X d i c M Q hL hi hc hI K
  obtain ⟨v, M1, M2, e1, e2, hI2⟩ := call_one (ok_order (z := 20000000) (Nat.le_refl _) (X.2 (i + 1))) hc hI
  obtain ⟨e2, rfl⟩ := ro_some e2
  refine wp_aload_n d_law_818 rfl rfl ?_
  refine law_arg (j := 1) hL d_law_819 d_law_820 d_law_821 rfl d_law_822 d_law_823 (by omega) ?_
  refine wl_callV1 d_law_824 lc_Rec_order lv_law_99 rfl sh_0 rfl rfl ⟨rfl, rfl⟩ ⟨by decide, by decide⟩ ?_
  refine s_Rec_order e1 ?_
  refine wp_aload_n d_law_827 rfl rfl ?_
  refine law_arg (j := 1) hL d_law_828 d_law_829 d_law_830 rfl d_law_831 d_law_832 (by omega) ?_
  refine wl_callV1 d_law_833 lc_Mod_order lv_law_102 rfl sh_312 rfl rfl ⟨rfl, rfl⟩ ⟨by decide, by decide⟩ ?_
  refine s_Mod_order e2 ?_
  exact wp_icmp_eq 1219 d_law_836 rfl (fun _ => K _ hI2) (fun h => absurd rfl h)
theorem law_case_21 : LawCase 21 841 := by
  intro X d i c M Q hL hi hc hI K
  obtain ⟨v, M1, M2, e1, e2, hI2⟩ := call_one (ok_sight (z := 20000000) (Nat.le_refl _) (X.2 (i + 1))) hc hI
  refine wp_aload_n d_law_841 rfl rfl ?_
  refine law_arg (j := 1) hL d_law_842 d_law_843 d_law_844 rfl d_law_845 d_law_846 (by omega) ?_
  refine wl_callV1 d_law_847 lc_Rec_sight lv_law_103 rfl sh_0 rfl rfl ⟨rfl, rfl⟩ ⟨by decide, by decide⟩ ?_
  refine s_Rec_sight e1 ?_
  refine wp_aload_n d_law_850 rfl rfl ?_
  refine law_arg (j := 1) hL d_law_851 d_law_852 d_law_853 rfl d_law_854 d_law_855 (by omega) ?_
  refine wl_callV1 d_law_856 lc_Mod_sight lv_law_106 rfl sh_312 rfl rfl ⟨rfl, rfl⟩ ⟨by decide, by decide⟩ ?_
  refine s_Mod_sight e2 ?_
  exact wp_icmp_eq 1219 d_law_859 rfl (fun _ => K _ hI2) (fun h => absurd rfl h)
theorem law_case_22 : LawCase 22 864 := by
  intro X d i c M Q hL hi hc hI K
  obtain ⟨v, M1, M2, e1, e2, hI2⟩ := call_one (ok_cover (z := 20000000) (Nat.le_refl _) (X.2 (i + 1))) hc hI
  obtain ⟨e1, rfl⟩ := ro_some e1
  obtain ⟨e2, rfl⟩ := ro_some e2
  refine wp_aload_n d_law_864 rfl rfl ?_
  refine law_arg (j := 1) hL d_law_865 d_law_866 d_law_867 rfl d_law_868 d_law_869 (by omega) ?_
  refine wl_callV1 d_law_870 lc_Rec_cover lv_law_107 rfl sh_0 rfl rfl ⟨rfl, rfl⟩ ⟨by decide, by decide⟩ ?_
  refine s_Rec_cover e1 ?_
  refine wp_aload_n d_law_873 rfl rfl ?_
  refine law_arg (j := 1) hL d_law_874 d_law_875 d_law_876 rfl d_law_877 d_law_878 (by omega) ?_
  refine wl_callV1 d_law_879 lc_Mod_cover lv_law_110 rfl sh_312 rfl rfl ⟨rfl, rfl⟩ ⟨by decide, by decide⟩ ?_
  refine s_Mod_cover e2 ?_
  exact wp_icmp_eq 1219 d_law_882 rfl (fun _ => K _ hI2) (fun h => absurd rfl h)
theorem law_case_23 : LawCase 23 887 := by
  intro X d i c M Q hL hi hc hI K
  obtain ⟨v, M1, M2, e1, e2, hI2⟩ := call_one (ok_vein (z := 20000000) (Nat.le_refl _) (X.2 (i + 1)) (X.2 (i + 2)) (X.2 (i + 3))) hc hI
  refine wp_aload_n d_law_887 rfl rfl ?_
  refine law_arg (j := 1) hL d_law_888 d_law_889 d_law_890 rfl d_law_891 d_law_892 (by omega) ?_
  refine law_arg (j := 2) hL d_law_893 d_law_894 d_law_895 rfl d_law_896 d_law_897 (by omega) ?_
  refine law_arg (j := 3) hL d_law_898 d_law_899 d_law_900 rfl d_law_901 d_law_902 (by omega) ?_
  refine wl_callV3 d_law_903 lc_Rec_vein lv_law_111 rfl sh_0 rfl rfl ⟨rfl, rfl⟩ ⟨by decide, by decide⟩ ?_
  refine s_Rec_vein e1 ?_
  refine wp_aload_n d_law_906 rfl rfl ?_
  refine law_arg (j := 1) hL d_law_907 d_law_908 d_law_909 rfl d_law_910 d_law_911 (by omega) ?_
  refine law_arg (j := 2) hL d_law_912 d_law_913 d_law_914 rfl d_law_915 d_law_916 (by omega) ?_
  refine law_arg (j := 3) hL d_law_917 d_law_918 d_law_919 rfl d_law_920 d_law_921 (by omega) ?_
  refine wl_callV3 d_law_922 lc_Mod_vein lv_law_115 rfl sh_312 rfl rfl ⟨rfl, rfl⟩ ⟨by decide, by decide⟩ ?_
  refine s_Mod_vein e2 ?_
  exact wp_icmp_eq 1219 d_law_925 rfl (fun _ => K _ hI2) (fun h => absurd rfl h)
theorem law_case_24 : LawCase 24 930 := by
  intro X d i c M Q hL hi hc hI K
  obtain ⟨v, M1, M2, e1, e2, hI2⟩ := call_one (ok_wings (z := 20000000) (Nat.le_refl _) (X.2 (i + 1))) hc hI
  refine wp_aload_n d_law_930 rfl rfl ?_
  refine law_arg (j := 1) hL d_law_931 d_law_932 d_law_933 rfl d_law_934 d_law_935 (by omega) ?_
  refine wl_callV1 d_law_936 lc_Rec_wings lv_law_116 rfl sh_0 rfl rfl ⟨rfl, rfl⟩ ⟨by decide, by decide⟩ ?_
  refine s_Rec_wings e1 ?_
  refine wp_aload_n d_law_939 rfl rfl ?_
  refine law_arg (j := 1) hL d_law_940 d_law_941 d_law_942 rfl d_law_943 d_law_944 (by omega) ?_
  refine wl_callV1 d_law_945 lc_Mod_wings lv_law_119 rfl sh_312 rfl rfl ⟨rfl, rfl⟩ ⟨by decide, by decide⟩ ?_
  refine s_Mod_wings e2 ?_
  exact wp_icmp_eq 1219 d_law_948 rfl (fun _ => K _ hI2) (fun h => absurd rfl h)
theorem law_case_25 : LawCase 25 953 := by
  intro X d i c M Q hL hi hc hI K
  obtain ⟨v, M1, M2, e1, e2, hI2⟩ := call_one (ok_weekday (z := 20000000) (Nat.le_refl _) (X.2 (i + 1))) hc hI
  obtain ⟨e1, rfl⟩ := ro_some e1
  obtain ⟨e2, rfl⟩ := ro_some e2
  refine wp_aload_n d_law_953 rfl rfl ?_
  refine law_arg (j := 1) hL d_law_954 d_law_955 d_law_956 rfl d_law_957 d_law_958 (by omega) ?_
  refine wl_callV1 d_law_959 lc_Rec_weekday lv_law_120 rfl sh_0 rfl rfl ⟨rfl, rfl⟩ ⟨by decide, by decide⟩ ?_
  refine s_Rec_weekday e1 ?_
  refine wp_aload_n d_law_962 rfl rfl ?_
  refine law_arg (j := 1) hL d_law_963 d_law_964 d_law_965 rfl d_law_966 d_law_967 (by omega) ?_
  refine wl_callV1 d_law_968 lc_Mod_weekday lv_law_123 rfl sh_312 rfl rfl ⟨rfl, rfl⟩ ⟨by decide, by decide⟩ ?_
  refine s_Mod_weekday e2 ?_
  exact wp_icmp_eq 1219 d_law_971 rfl (fun _ => K _ hI2) (fun h => absurd rfl h)
theorem law_case_26 : LawCase 26 976 := by
  intro X d i c M Q hL hi hc hI K
  obtain ⟨v, M1, M2, e1, e2, hI2⟩ := call_one (ok_between (z := 20000000) (Nat.le_refl _) (X.2 (i + 1)) (X.2 (i + 2))) hc hI
  obtain ⟨e1, rfl⟩ := ro_some e1
  obtain ⟨e2, rfl⟩ := ro_some e2
  refine wp_aload_n d_law_976 rfl rfl ?_
  refine law_arg (j := 1) hL d_law_977 d_law_978 d_law_979 rfl d_law_980 d_law_981 (by omega) ?_
  refine law_arg (j := 2) hL d_law_982 d_law_983 d_law_984 rfl d_law_985 d_law_986 (by omega) ?_
  refine wl_callV2 d_law_987 lc_Rec_between lv_law_124 rfl sh_0 rfl rfl ⟨rfl, rfl⟩ ⟨by decide, by decide⟩ ?_
  refine s_Rec_between e1 ?_
  refine wp_aload_n d_law_990 rfl rfl ?_
  refine law_arg (j := 1) hL d_law_991 d_law_992 d_law_993 rfl d_law_994 d_law_995 (by omega) ?_
  refine law_arg (j := 2) hL d_law_996 d_law_997 d_law_998 rfl d_law_999 d_law_1000 (by omega) ?_
  refine wl_callV2 d_law_1001 lc_Mod_between lv_law_127 rfl sh_312 rfl rfl ⟨rfl, rfl⟩ ⟨by decide, by decide⟩ ?_
  refine s_Mod_between e2 ?_
  exact wp_icmp_eq 1219 d_law_1004 rfl (fun _ => K _ hI2) (fun h => absurd rfl h)
theorem law_case_27 : LawCase 27 1009 := by
  intro X d i c M Q hL hi hc hI K
  obtain ⟨v, M1, M2, e1, e2, hI2⟩ := call_one (ok_leans (z := 20000000) (Nat.le_refl _) (X.2 (i + 1))) hc hI
  obtain ⟨e1, rfl⟩ := ro_some e1
  obtain ⟨e2, rfl⟩ := ro_some e2
  refine wp_aload_n d_law_1009 rfl rfl ?_
  refine law_arg (j := 1) hL d_law_1010 d_law_1011 d_law_1012 rfl d_law_1013 d_law_1014 (by omega) ?_
  refine wl_callV1 d_law_1015 lc_Rec_leans lv_law_128 rfl sh_0 rfl rfl ⟨rfl, rfl⟩ ⟨by decide, by decide⟩ ?_
  refine s_Rec_leans e1 ?_
  refine wp_aload_n d_law_1018 rfl rfl ?_
  refine law_arg (j := 1) hL d_law_1019 d_law_1020 d_law_1021 rfl d_law_1022 d_law_1023 (by omega) ?_
  refine wl_callV1 d_law_1024 lc_Mod_leans lv_law_131 rfl sh_312 rfl rfl ⟨rfl, rfl⟩ ⟨by decide, by decide⟩ ?_
  refine s_Mod_leans e2 ?_
  exact wp_icmp_eq 1219 d_law_1027 rfl (fun _ => K _ hI2) (fun h => absurd rfl h)
theorem law_case_28 : LawCase 28 1032 := by
  intro X d i c M Q hL hi hc hI K
  obtain ⟨v, M1, M2, e1, e2, hI2⟩ := call_one (ok_go (z := 20000000) (Nat.le_refl _) (X.2 (i + 1))) hc hI
  refine wp_aload_n d_law_1032 rfl rfl ?_
  refine law_arg (j := 1) hL d_law_1033 d_law_1034 d_law_1035 rfl d_law_1036 d_law_1037 (by omega) ?_
  refine wl_callV1 d_law_1038 lc_Rec_go lv_law_132 rfl sh_0 rfl rfl ⟨rfl, rfl⟩ ⟨by decide, by decide⟩ ?_
  refine s_Rec_go e1 ?_
  refine wp_aload_n d_law_1041 rfl rfl ?_
  refine law_arg (j := 1) hL d_law_1042 d_law_1043 d_law_1044 rfl d_law_1045 d_law_1046 (by omega) ?_
  refine wl_callV1 d_law_1047 lc_Mod_go lv_law_135 rfl sh_312 rfl rfl ⟨rfl, rfl⟩ ⟨by decide, by decide⟩ ?_
  refine s_Mod_go e2 ?_
  exact wp_icmp_eq 1219 d_law_1050 rfl (fun _ => K _ hI2) (fun h => absurd rfl h)
theorem law_case_29 : LawCase 29 1055 := by
  intro X d i c M Q hL hi hc hI K
  obtain ⟨v, M1, M2, e1, e2, hI2⟩ := call_one (ok_squires (z := 20000000) (Nat.le_refl _) (X.2 (i + 1))) hc hI
  refine wp_aload_n d_law_1055 rfl rfl ?_
  refine law_arg (j := 1) hL d_law_1056 d_law_1057 d_law_1058 rfl d_law_1059 d_law_1060 (by omega) ?_
  refine wl_callV1 d_law_1061 lc_Rec_squires lv_law_136 rfl sh_0 rfl rfl ⟨rfl, rfl⟩ ⟨by decide, by decide⟩ ?_
  refine s_Rec_squires e1 ?_
  refine wp_aload_n d_law_1064 rfl rfl ?_
  refine law_arg (j := 1) hL d_law_1065 d_law_1066 d_law_1067 rfl d_law_1068 d_law_1069 (by omega) ?_
  refine wl_callV1 d_law_1070 lc_Mod_squires lv_law_139 rfl sh_312 rfl rfl ⟨rfl, rfl⟩ ⟨by decide, by decide⟩ ?_
  refine s_Mod_squires e2 ?_
  exact wp_icmp_eq 1219 d_law_1073 rfl (fun _ => K _ hI2) (fun h => absurd rfl h)
theorem law_case_30 : LawCase 30 1078 := by
  intro X d i c M Q hL hi hc hI K
  obtain ⟨v, M1, M2, e1, e2, hI2⟩ := call_one (ok_held (z := 20000000) (Nat.le_refl _) (X.2 (i + 1)) (X.2 (i + 2)) (X.2 (i + 3))) hc hI
  refine wp_aload_n d_law_1078 rfl rfl ?_
  refine law_arg (j := 1) hL d_law_1079 d_law_1080 d_law_1081 rfl d_law_1082 d_law_1083 (by omega) ?_
  refine law_arg (j := 2) hL d_law_1084 d_law_1085 d_law_1086 rfl d_law_1087 d_law_1088 (by omega) ?_
  refine law_arg (j := 3) hL d_law_1089 d_law_1090 d_law_1091 rfl d_law_1092 d_law_1093 (by omega) ?_
  refine wl_callV3 d_law_1094 lc_Rec_held lv_law_140 rfl sh_0 rfl rfl ⟨rfl, rfl⟩ ⟨by decide, by decide⟩ ?_
  refine s_Rec_held e1 ?_
  refine wp_aload_n d_law_1097 rfl rfl ?_
  refine law_arg (j := 1) hL d_law_1098 d_law_1099 d_law_1100 rfl d_law_1101 d_law_1102 (by omega) ?_
  refine law_arg (j := 2) hL d_law_1103 d_law_1104 d_law_1105 rfl d_law_1106 d_law_1107 (by omega) ?_
  refine law_arg (j := 3) hL d_law_1108 d_law_1109 d_law_1110 rfl d_law_1111 d_law_1112 (by omega) ?_
  refine wl_callV3 d_law_1113 lc_Mod_held lv_law_143 rfl sh_312 rfl rfl ⟨rfl, rfl⟩ ⟨by decide, by decide⟩ ?_
  refine s_Mod_held e2 ?_
  exact wp_icmp_eq 1219 d_law_1116 rfl (fun _ => K _ hI2) (fun h => absurd rfl h)
theorem law_case_31 : LawCase 31 1121 := by
  intro X d i c M Q hL hi hc hI K
  obtain ⟨v, M1, M2, e1, e2, hI2⟩ := call_one (ok_game (z := 20000000) (Nat.le_refl _) (X.2 (i + 1))) hc hI
  obtain ⟨e1, rfl⟩ := ro_some e1
  obtain ⟨e2, rfl⟩ := ro_some e2
  refine wp_aload_n d_law_1121 rfl rfl ?_
  refine law_arg (j := 1) hL d_law_1122 d_law_1123 d_law_1124 rfl d_law_1125 d_law_1126 (by omega) ?_
  refine wl_callV1 d_law_1127 lc_Rec_game lv_law_144 rfl sh_0 rfl rfl ⟨rfl, rfl⟩ ⟨by decide, by decide⟩ ?_
  refine s_Rec_game e1 ?_
  refine wp_aload_n d_law_1130 rfl rfl ?_
  refine law_arg (j := 1) hL d_law_1131 d_law_1132 d_law_1133 rfl d_law_1134 d_law_1135 (by omega) ?_
  refine wl_callV1 d_law_1136 lc_Mod_game lv_law_147 rfl sh_312 rfl rfl ⟨rfl, rfl⟩ ⟨by decide, by decide⟩ ?_
  refine s_Mod_game e2 ?_
  exact wp_icmp_eq 1219 d_law_1139 rfl (fun _ => K _ hI2) (fun h => absurd rfl h)
theorem law_case_32 : LawCase 32 1144 := by
  intro X d i c M Q hL hi hc hI K
  obtain ⟨v, M1, M2, e1, e2, hI2⟩ := call_one (ok_undo (z := 20000000) (Nat.le_refl _) ) hc hI
  refine wp_aload_n d_law_1144 rfl rfl ?_
  refine wl_callV0 d_law_1145 lc_Rec_undo lv_law_148 rfl sh_0 rfl rfl ⟨rfl, rfl⟩ ⟨by decide, by decide⟩ ?_
  refine s_Rec_undo e1 ?_
  refine wp_aload_n d_law_1148 rfl rfl ?_
  refine wl_callV0 d_law_1149 lc_Mod_undo lv_law_152 rfl sh_312 rfl rfl ⟨rfl, rfl⟩ ⟨by decide, by decide⟩ ?_
  refine s_Mod_undo e2 ?_
  exact wp_icmp_eq 1219 d_law_1152 rfl (fun _ => K _ hI2) (fun h => absurd rfl h)
theorem law_case_33 : LawCase 33 1157 := by
  intro X d i c M Q hL hi hc hI K
  by_cases hx : X.2 (i + 1) = 0
  · obtain ⟨v, M1, M2, e1, e2, hI2⟩ := call_one (ok_image (z := 20000000) (by decide) false) hc hI
    refine wp_aload_n d_law_1157 rfl rfl ?_
    refine law_arg (j := 1) hL d_law_1158 d_law_1159 d_law_1160 rfl d_law_1161 d_law_1162 (by omega) ?_
    refine wp_if_eq 1170 d_law_1163 rfl (fun _ => ?_) (fun h => absurd hx h)
    refine wp_iconst (v := bI false) d_law_1170 rfl ?_
    refine wl_callV1 d_law_1171 lc_Rec_image lv_law_153 rfl sh_0 rfl rfl ⟨rfl, rfl⟩ ⟨by decide, by decide⟩ ?_
    refine s_Rec_image e1 ?_
    refine wp_aload_n d_law_1174 rfl rfl ?_
    refine law_arg (j := 1) hL d_law_1175 d_law_1176 d_law_1177 rfl d_law_1178 d_law_1179 (by omega) ?_
    refine wp_if_eq 1187 d_law_1180 rfl (fun _ => ?_) (fun h => absurd hx h)
    refine wp_iconst (v := bI false) d_law_1187 rfl ?_
    refine wl_callV1 d_law_1188 lc_Mod_image lv_law_157 rfl sh_312 rfl rfl ⟨rfl, rfl⟩ ⟨by decide, by decide⟩ ?_
    refine s_Mod_image e2 ?_
    exact wp_icmp_eq 1219 d_law_1191 rfl (fun _ => K _ hI2) (fun h => absurd rfl h)
  · obtain ⟨v, M1, M2, e1, e2, hI2⟩ := call_one (ok_image (z := 20000000) (by decide) true) hc hI
    refine wp_aload_n d_law_1157 rfl rfl ?_
    refine law_arg (j := 1) hL d_law_1158 d_law_1159 d_law_1160 rfl d_law_1161 d_law_1162 (by omega) ?_
    refine wp_if_eq 1170 d_law_1163 rfl (fun h => absurd h hx) (fun _ => ?_)
    refine wp_iconst (v := bI true) d_law_1166 rfl ?_
    refine wp_goto 1171 d_law_1167 rfl ?_
    refine wl_callV1 d_law_1171 lc_Rec_image lv_law_153 rfl sh_0 rfl rfl ⟨rfl, rfl⟩ ⟨by decide, by decide⟩ ?_
    refine s_Rec_image e1 ?_
    refine wp_aload_n d_law_1174 rfl rfl ?_
    refine law_arg (j := 1) hL d_law_1175 d_law_1176 d_law_1177 rfl d_law_1178 d_law_1179 (by omega) ?_
    refine wp_if_eq 1187 d_law_1180 rfl (fun h => absurd h hx) (fun _ => ?_)
    refine wp_iconst (v := bI true) d_law_1183 rfl ?_
    refine wp_goto 1188 d_law_1184 rfl ?_
    refine wl_callV1 d_law_1188 lc_Mod_image lv_law_157 rfl sh_312 rfl rfl ⟨rfl, rfl⟩ ⟨by decide, by decide⟩ ?_
    refine s_Mod_image e2 ?_
    exact wp_icmp_eq 1219 d_law_1191 rfl (fun _ => K _ hI2) (fun h => absurd rfl h)
theorem law_case_34 : LawCase 34 1196 := by
  intro X d i c M Q hL hi hc hI K
  obtain ⟨v, M1, M2, e1, e2, hI2⟩ := call_one (ok_look (z := 20000000) (Nat.le_refl _) (X.2 (i + 1))) hc hI
  obtain ⟨e1, rfl⟩ := ro_some e1
  obtain ⟨e2, rfl⟩ := ro_some e2
  refine wp_aload_n d_law_1196 rfl rfl ?_
  refine law_arg (j := 1) hL d_law_1197 d_law_1198 d_law_1199 rfl d_law_1200 d_law_1201 (by omega) ?_
  refine wl_callV1 d_law_1202 lc_Rec_look lv_law_158 rfl sh_0 rfl rfl ⟨rfl, rfl⟩ ⟨by decide, by decide⟩ ?_
  refine s_Rec_look e1 ?_
  refine wp_aload_n d_law_1205 rfl rfl ?_
  refine law_arg (j := 1) hL d_law_1206 d_law_1207 d_law_1208 rfl d_law_1209 d_law_1210 (by omega) ?_
  refine wl_callV1 d_law_1211 lc_Mod_look lv_law_161 rfl sh_312 rfl rfl ⟨rfl, rfl⟩ ⟨by decide, by decide⟩ ?_
  refine s_Mod_look e2 ?_
  exact wp_icmp_eq 1219 d_law_1214 rfl (fun _ => K _ hI2) (fun h => absurd rfl h)
end LAW
