/-! the law, call by call (by gen_law.py) -/
section LWC
variable {b L : Nat} {xs : Nat → Int32} {n : Nat} {M : am_M}
theorem lc_0 (hn : n + 4 ≤ L) (hM : INV M) (kk : ∀ M2, INV M2 → LW b L xs 611 n [] M2) : LW b L xs 124 n [] M := by
  refine ls_x1 dL_124 ?_
  refine ls_arg (k := 1) (by omega) dL_125 dL_126 dL_127 dL_128 dL_129 ?_
  refine ls_inv (bb := 0) (as := [.inl (lw_v xs (n + 1))]) (rest := []) (d' := 10) dL_130 cv_L_13 (by decide) rfl rfl rfl rfl rfl (Nat.le_of_ble_eq_true rfl) (AC.mono ?_ (s_type (d := 0) lw_r M hM))
  rintro r M1 ⟨z, rfl, h2⟩
  refine ls_x2 dL_133 ?_
  refine ls_arg (k := 1) (by omega) dL_134 dL_135 dL_136 dL_137 dL_138 ?_
  refine ls_inv (bb := 62) (as := [.inl (lw_v xs (n + 1))]) (rest := [.inl z]) (d' := 10) dL_139 cv_L_17 (by decide) rfl rfl rfl rfl rfl (Nat.le_of_ble_eq_true rfl) (AC.mono ?_ h2)
  rintro r M2 ⟨rfl, hM2⟩
  exact ls_eq dL_142 (by decide) (kk M2 hM2)
theorem lc_1 (hn : n + 4 ≤ L) (hM : INV M) (kk : ∀ M2, INV M2 → LW b L xs 611 n [] M2) : LW b L xs 147 n [] M := by
  refine ls_x1 dL_147 ?_
  refine ls_inv (bb := 0) (as := []) (rest := []) (d' := 10) dL_148 cv_L_18 (by decide) rfl rfl rfl rfl rfl (Nat.le_of_ble_eq_true rfl) (AC.mono ?_ (s_clear (d := 0) M hM))
  rintro r M1 ⟨z, rfl, h2⟩
  refine ls_x2 dL_151 ?_
  refine ls_inv (bb := 62) (as := []) (rest := [.inl z]) (d' := 10) dL_152 cv_L_22 (by decide) rfl rfl rfl rfl rfl (Nat.le_of_ble_eq_true rfl) (AC.mono ?_ h2)
  rintro r M2 ⟨rfl, hM2⟩
  exact ls_eq dL_155 (by decide) (kk M2 hM2)
theorem lc_2 (hn : n + 4 ≤ L) (hM : INV M) (kk : ∀ M2, INV M2 → LW b L xs 611 n [] M2) : LW b L xs 160 n [] M := by
  refine ls_x1 dL_160 ?_
  refine ls_inv (bb := 0) (as := []) (rest := []) (d' := 10) dL_161 cv_L_23 (by decide) rfl rfl rfl rfl rfl (Nat.le_of_ble_eq_true rfl) (AC.mono ?_ (s_tells (d := 0) M hM))
  rintro r M1 ⟨z, rfl, h2⟩
  refine ls_x2 dL_164 ?_
  refine ls_inv (bb := 62) (as := []) (rest := [.inl z]) (d' := 10) dL_165 cv_L_26 (by decide) rfl rfl rfl rfl rfl (Nat.le_of_ble_eq_true rfl) (AC.mono ?_ h2)
  rintro r M2 ⟨rfl, hM2⟩
  exact ls_eq dL_168 (by decide) (kk M2 hM2)
theorem lc_3 (hn : n + 4 ≤ L) (hM : INV M) (kk : ∀ M2, INV M2 → LW b L xs 611 n [] M2) : LW b L xs 173 n [] M := by
  refine ls_x1 dL_173 ?_
  refine ls_arg (k := 1) (by omega) dL_174 dL_175 dL_176 dL_177 dL_178 ?_
  refine ls_arg (k := 2) (by omega) dL_179 dL_180 dL_181 dL_182 dL_183 ?_
  refine ls_arg (k := 3) (by omega) dL_184 dL_185 dL_186 dL_187 dL_188 ?_
  refine ls_inv (bb := 0) (as := [.inl (lw_v xs (n + 1)), .inl (lw_v xs (n + 2)), .inl (lw_v xs (n + 3))]) (rest := []) (d' := 10) dL_189 cv_L_27 (by decide) rfl rfl rfl rfl rfl (Nat.le_of_ble_eq_true rfl) (AC.mono ?_ (s_levels (d := 0) lw_r lw_r lw_r M hM))
  rintro r M1 ⟨z, rfl, h2⟩
  refine ls_x2 dL_192 ?_
  refine ls_arg (k := 1) (by omega) dL_193 dL_194 dL_195 dL_196 dL_197 ?_
  refine ls_arg (k := 2) (by omega) dL_198 dL_199 dL_200 dL_201 dL_202 ?_
  refine ls_arg (k := 3) (by omega) dL_203 dL_204 dL_205 dL_206 dL_207 ?_
  refine ls_inv (bb := 62) (as := [.inl (lw_v xs (n + 1)), .inl (lw_v xs (n + 2)), .inl (lw_v xs (n + 3))]) (rest := [.inl z]) (d' := 10) dL_208 cv_L_31 (by decide) rfl rfl rfl rfl rfl (Nat.le_of_ble_eq_true rfl) (AC.mono ?_ h2)
  rintro r M2 ⟨rfl, hM2⟩
  exact ls_eq dL_211 (by decide) (kk M2 hM2)
theorem lc_4 (hn : n + 4 ≤ L) (hM : INV M) (kk : ∀ M2, INV M2 → LW b L xs 611 n [] M2) : LW b L xs 216 n [] M := by
  refine ls_x1 dL_216 ?_
  refine ls_arg (k := 1) (by omega) dL_217 dL_218 dL_219 dL_220 dL_221 ?_
  refine ls_arg (k := 2) (by omega) dL_222 dL_223 dL_224 dL_225 dL_226 ?_
  refine ls_inv (bb := 0) (as := [.inl (lw_v xs (n + 1)), .inl (lw_v xs (n + 2))]) (rest := []) (d' := 10) dL_227 cv_L_32 (by decide) rfl rfl rfl rfl rfl (Nat.le_of_ble_eq_true rfl) (AC.mono ?_ (s_sets (d := 0) lw_r lw_r M hM))
  rintro r M1 ⟨z, rfl, h2⟩
  refine ls_x2 dL_230 ?_
  refine ls_arg (k := 1) (by omega) dL_231 dL_232 dL_233 dL_234 dL_235 ?_
  refine ls_arg (k := 2) (by omega) dL_236 dL_237 dL_238 dL_239 dL_240 ?_
  refine ls_inv (bb := 62) (as := [.inl (lw_v xs (n + 1)), .inl (lw_v xs (n + 2))]) (rest := [.inl z]) (d' := 10) dL_241 cv_L_36 (by decide) rfl rfl rfl rfl rfl (Nat.le_of_ble_eq_true rfl) (AC.mono ?_ h2)
  rintro r M2 ⟨rfl, hM2⟩
  exact ls_eq dL_244 (by decide) (kk M2 hM2)
theorem lc_5 (hn : n + 4 ≤ L) (hM : INV M) (kk : ∀ M2, INV M2 → LW b L xs 611 n [] M2) : LW b L xs 249 n [] M := by
  refine ls_x1 dL_249 ?_
  refine ls_inv (bb := 0) (as := []) (rest := []) (d' := 10) dL_250 cv_L_37 (by decide) rfl rfl rfl rfl rfl (Nat.le_of_ble_eq_true rfl) (AC.mono ?_ (s_undo (d := 0) M hM))
  rintro r M1 ⟨z, rfl, h2⟩
  refine ls_x2 dL_253 ?_
  refine ls_inv (bb := 62) (as := []) (rest := [.inl z]) (d' := 10) dL_254 cv_L_40 (by decide) rfl rfl rfl rfl rfl (Nat.le_of_ble_eq_true rfl) (AC.mono ?_ h2)
  rintro r M2 ⟨rfl, hM2⟩
  exact ls_eq dL_257 (by decide) (kk M2 hM2)
theorem lc_6 (hn : n + 4 ≤ L) (hM : INV M) (kk : ∀ M2, INV M2 → LW b L xs 611 n [] M2) : LW b L xs 262 n [] M := by
  refine ls_x1 dL_262 ?_
  refine ls_arg (k := 1) (by omega) dL_263 dL_264 dL_265 dL_266 dL_267 ?_
  refine ls_arg (k := 2) (by omega) dL_268 dL_269 dL_270 dL_271 dL_272 ?_
  refine ls_inv (bb := 0) (as := [.inl (lw_v xs (n + 1)), .inl (lw_v xs (n + 2))]) (rest := []) (d' := 10) dL_273 cv_L_41 (by decide) rfl rfl rfl rfl rfl (Nat.le_of_ble_eq_true rfl) (AC.mono ?_ (s_level (d := 0) lw_r lw_r M hM))
  rintro r M1 ⟨z, rfl, h2⟩
  refine ls_x2 dL_276 ?_
  refine ls_arg (k := 1) (by omega) dL_277 dL_278 dL_279 dL_280 dL_281 ?_
  refine ls_arg (k := 2) (by omega) dL_282 dL_283 dL_284 dL_285 dL_286 ?_
  refine ls_inv (bb := 62) (as := [.inl (lw_v xs (n + 1)), .inl (lw_v xs (n + 2))]) (rest := [.inl z]) (d' := 10) dL_287 cv_L_44 (by decide) rfl rfl rfl rfl rfl (Nat.le_of_ble_eq_true rfl) (AC.mono ?_ h2)
  rintro r M2 ⟨rfl, hM2⟩
  exact ls_eq dL_290 (by decide) (kk M2 hM2)
theorem lc_7 (hn : n + 4 ≤ L) (hM : INV M) (kk : ∀ M2, INV M2 → LW b L xs 611 n [] M2) : LW b L xs 295 n [] M := by
  refine ls_x1 dL_295 ?_
  refine ls_arg (k := 1) (by omega) dL_296 dL_297 dL_298 dL_299 dL_300 ?_
  refine ls_arg (k := 2) (by omega) dL_301 dL_302 dL_303 dL_304 dL_305 ?_
  refine ls_arg (k := 3) (by omega) dL_306 dL_307 dL_308 dL_309 dL_310 ?_
  refine ls_inv (bb := 0) (as := [.inl (lw_v xs (n + 1)), .inl (lw_v xs (n + 2)), .inl (lw_v xs (n + 3))]) (rest := []) (d' := 10) dL_311 cv_L_45 (by decide) rfl rfl rfl rfl rfl (Nat.le_of_ble_eq_true rfl) (AC.mono ?_ (s_peak (d := 0) lw_r lw_r lw_r M hM))
  rintro r M1 ⟨z, rfl, h2⟩
  refine ls_x2 dL_314 ?_
  refine ls_arg (k := 1) (by omega) dL_315 dL_316 dL_317 dL_318 dL_319 ?_
  refine ls_arg (k := 2) (by omega) dL_320 dL_321 dL_322 dL_323 dL_324 ?_
  refine ls_arg (k := 3) (by omega) dL_325 dL_326 dL_327 dL_328 dL_329 ?_
  refine ls_inv (bb := 62) (as := [.inl (lw_v xs (n + 1)), .inl (lw_v xs (n + 2)), .inl (lw_v xs (n + 3))]) (rest := [.inl z]) (d' := 10) dL_330 cv_L_48 (by decide) rfl rfl rfl rfl rfl (Nat.le_of_ble_eq_true rfl) (AC.mono ?_ h2)
  rintro r M2 ⟨rfl, hM2⟩
  exact ls_eq dL_333 (by decide) (kk M2 hM2)
theorem lc_8 (hn : n + 4 ≤ L) (hM : INV M) (kk : ∀ M2, INV M2 → LW b L xs 611 n [] M2) : LW b L xs 338 n [] M := by
  refine ls_x1 dL_338 ?_
  refine ls_arg (k := 1) (by omega) dL_339 dL_340 dL_341 dL_342 dL_343 ?_
  refine ls_arg (k := 2) (by omega) dL_344 dL_345 dL_346 dL_347 dL_348 ?_
  refine ls_inv (bb := 0) (as := [.inl (lw_v xs (n + 1)), .inl (lw_v xs (n + 2))]) (rest := []) (d' := 10) dL_349 cv_L_49 (by decide) rfl rfl rfl rfl rfl (Nat.le_of_ble_eq_true rfl) (AC.mono ?_ (s_frame (d := 0) lw_r lw_r M hM))
  rintro r M1 ⟨z, rfl, h2⟩
  refine ls_x2 dL_352 ?_
  refine ls_arg (k := 1) (by omega) dL_353 dL_354 dL_355 dL_356 dL_357 ?_
  refine ls_arg (k := 2) (by omega) dL_358 dL_359 dL_360 dL_361 dL_362 ?_
  refine ls_inv (bb := 62) (as := [.inl (lw_v xs (n + 1)), .inl (lw_v xs (n + 2))]) (rest := [.inl z]) (d' := 10) dL_363 cv_L_52 (by decide) rfl rfl rfl rfl rfl (Nat.le_of_ble_eq_true rfl) (AC.mono ?_ h2)
  rintro r M2 ⟨rfl, hM2⟩
  exact ls_eq dL_366 (by decide) (kk M2 hM2)
theorem lc_9 (hn : n + 4 ≤ L) (hM : INV M) (kk : ∀ M2, INV M2 → LW b L xs 611 n [] M2) : LW b L xs 371 n [] M := by
  refine ls_x1 dL_371 ?_
  refine ls_arg (k := 1) (by omega) dL_372 dL_373 dL_374 dL_375 dL_376 ?_
  refine ls_arg (k := 2) (by omega) dL_377 dL_378 dL_379 dL_380 dL_381 ?_
  refine ls_inv (bb := 0) (as := [.inl (lw_v xs (n + 1)), .inl (lw_v xs (n + 2))]) (rest := []) (d' := 10) dL_382 cv_L_53 (by decide) rfl rfl rfl rfl rfl (Nat.le_of_ble_eq_true rfl) (AC.mono ?_ (s_track (d := 0) lw_r lw_r M hM))
  rintro r M1 ⟨z, rfl, h2⟩
  refine ls_x2 dL_385 ?_
  refine ls_arg (k := 1) (by omega) dL_386 dL_387 dL_388 dL_389 dL_390 ?_
  refine ls_arg (k := 2) (by omega) dL_391 dL_392 dL_393 dL_394 dL_395 ?_
  refine ls_inv (bb := 62) (as := [.inl (lw_v xs (n + 1)), .inl (lw_v xs (n + 2))]) (rest := [.inl z]) (d' := 10) dL_396 cv_L_56 (by decide) rfl rfl rfl rfl rfl (Nat.le_of_ble_eq_true rfl) (AC.mono ?_ h2)
  rintro r M2 ⟨rfl, hM2⟩
  exact ls_eq dL_399 (by decide) (kk M2 hM2)
theorem lc_10 (hn : n + 4 ≤ L) (hM : INV M) (kk : ∀ M2, INV M2 → LW b L xs 611 n [] M2) : LW b L xs 404 n [] M := by
  refine ls_x1 dL_404 ?_
  refine ls_arg (k := 1) (by omega) dL_405 dL_406 dL_407 dL_408 dL_409 ?_
  refine ls_arg (k := 2) (by omega) dL_410 dL_411 dL_412 dL_413 dL_414 ?_
  refine ls_inv (bb := 0) (as := [.inl (lw_v xs (n + 1)), .inl (lw_v xs (n + 2))]) (rest := []) (d' := 10) dL_415 cv_L_57 (by decide) rfl rfl rfl rfl rfl (Nat.le_of_ble_eq_true rfl) (AC.mono ?_ (s_pitch (d := 0) lw_r lw_r M hM))
  rintro r M1 ⟨z, rfl, h2⟩
  refine ls_x2 dL_418 ?_
  refine ls_arg (k := 1) (by omega) dL_419 dL_420 dL_421 dL_422 dL_423 ?_
  refine ls_arg (k := 2) (by omega) dL_424 dL_425 dL_426 dL_427 dL_428 ?_
  refine ls_inv (bb := 62) (as := [.inl (lw_v xs (n + 1)), .inl (lw_v xs (n + 2))]) (rest := [.inl z]) (d' := 10) dL_429 cv_L_60 (by decide) rfl rfl rfl rfl rfl (Nat.le_of_ble_eq_true rfl) (AC.mono ?_ h2)
  rintro r M2 ⟨rfl, hM2⟩
  exact ls_eq dL_432 (by decide) (kk M2 hM2)
theorem lc_11 (hn : n + 4 ≤ L) (hM : INV M) (kk : ∀ M2, INV M2 → LW b L xs 611 n [] M2) : LW b L xs 437 n [] M := by
  refine ls_x1 dL_437 ?_
  refine ls_arg (k := 1) (by omega) dL_438 dL_439 dL_440 dL_441 dL_442 ?_
  refine ls_inv (bb := 0) (as := [.inl (lw_v xs (n + 1))]) (rest := []) (d' := 10) dL_443 cv_L_61 (by decide) rfl rfl rfl rfl rfl (Nat.le_of_ble_eq_true rfl) (AC.mono ?_ (s_best (d := 0) lw_r M hM))
  rintro r M1 ⟨z, rfl, h2⟩
  refine ls_x2 dL_446 ?_
  refine ls_arg (k := 1) (by omega) dL_447 dL_448 dL_449 dL_450 dL_451 ?_
  refine ls_inv (bb := 62) (as := [.inl (lw_v xs (n + 1))]) (rest := [.inl z]) (d' := 10) dL_452 cv_L_64 (by decide) rfl rfl rfl rfl rfl (Nat.le_of_ble_eq_true rfl) (AC.mono ?_ h2)
  rintro r M2 ⟨rfl, hM2⟩
  exact ls_eq dL_455 (by decide) (kk M2 hM2)
theorem lc_12 (hn : n + 4 ≤ L) (hM : INV M) (kk : ∀ M2, INV M2 → LW b L xs 611 n [] M2) : LW b L xs 460 n [] M := by
  refine ls_x1 dL_460 ?_
  refine ls_arg (k := 1) (by omega) dL_461 dL_462 dL_463 dL_464 dL_465 ?_
  refine ls_arg (k := 2) (by omega) dL_466 dL_467 dL_468 dL_469 dL_470 ?_
  refine ls_inv (bb := 0) (as := [.inl (lw_v xs (n + 1)), .inl (lw_v xs (n + 2))]) (rest := []) (d' := 10) dL_471 cv_L_65 (by decide) rfl rfl rfl rfl rfl (Nat.le_of_ble_eq_true rfl) (AC.mono ?_ (s_sees (d := 0) lw_r lw_r M hM))
  rintro r M1 ⟨z, rfl, h2⟩
  refine ls_x2 dL_474 ?_
  refine ls_arg (k := 1) (by omega) dL_475 dL_476 dL_477 dL_478 dL_479 ?_
  refine ls_arg (k := 2) (by omega) dL_480 dL_481 dL_482 dL_483 dL_484 ?_
  refine ls_inv (bb := 62) (as := [.inl (lw_v xs (n + 1)), .inl (lw_v xs (n + 2))]) (rest := [.inl z]) (d' := 10) dL_485 cv_L_68 (by decide) rfl rfl rfl rfl rfl (Nat.le_of_ble_eq_true rfl) (AC.mono ?_ h2)
  rintro r M2 ⟨rfl, hM2⟩
  exact ls_eq dL_488 (by decide) (kk M2 hM2)
theorem lc_13 (hn : n + 4 ≤ L) (hM : INV M) (kk : ∀ M2, INV M2 → LW b L xs 611 n [] M2) : LW b L xs 493 n [] M := by
  refine ls_x1 dL_493 ?_
  refine ls_inv (bb := 0) (as := []) (rest := []) (d' := 10) dL_494 cv_L_69 (by decide) rfl rfl rfl rfl rfl (Nat.le_of_ble_eq_true rfl) (AC.mono ?_ (s_forget (d := 0) M hM))
  rintro r M1 ⟨z, rfl, h2⟩
  refine ls_x2 dL_497 ?_
  refine ls_inv (bb := 62) (as := []) (rest := [.inl z]) (d' := 10) dL_498 cv_L_72 (by decide) rfl rfl rfl rfl rfl (Nat.le_of_ble_eq_true rfl) (AC.mono ?_ h2)
  rintro r M2 ⟨rfl, hM2⟩
  exact ls_eq dL_501 (by decide) (kk M2 hM2)
theorem lc_14 (hn : n + 4 ≤ L) (hM : INV M) (kk : ∀ M2, INV M2 → LW b L xs 611 n [] M2) : LW b L xs 506 n [] M := by
  refine ls_x1 dL_506 ?_
  refine ls_arg (k := 1) (by omega) dL_507 dL_508 dL_509 dL_510 dL_511 ?_
  refine ls_inv (bb := 0) (as := [.inl (lw_v xs (n + 1))]) (rest := []) (d' := 10) dL_512 cv_L_73 (by decide) rfl rfl rfl rfl rfl (Nat.le_of_ble_eq_true rfl) (AC.mono ?_ (s_which (d := 0) lw_r M hM))
  rintro r M1 ⟨z, rfl, h2⟩
  refine ls_x2 dL_515 ?_
  refine ls_arg (k := 1) (by omega) dL_516 dL_517 dL_518 dL_519 dL_520 ?_
  refine ls_inv (bb := 62) (as := [.inl (lw_v xs (n + 1))]) (rest := [.inl z]) (d' := 10) dL_521 cv_L_76 (by decide) rfl rfl rfl rfl rfl (Nat.le_of_ble_eq_true rfl) (AC.mono ?_ h2)
  rintro r M2 ⟨rfl, hM2⟩
  exact ls_eq dL_524 (by decide) (kk M2 hM2)
theorem lc_15 (hn : n + 4 ≤ L) (hM : INV M) (kk : ∀ M2, INV M2 → LW b L xs 611 n [] M2) : LW b L xs 529 n [] M := by
  refine ls_x1 dL_529 ?_
  refine ls_inv (bb := 0) (as := []) (rest := []) (d' := 10) dL_530 cv_L_77 (by decide) rfl rfl rfl rfl rfl (Nat.le_of_ble_eq_true rfl) (AC.mono ?_ (s_listen (d := 0) M hM))
  rintro r M1 ⟨z, rfl, h2⟩
  refine ls_x2 dL_533 ?_
  refine ls_inv (bb := 62) (as := []) (rest := [.inl z]) (d' := 10) dL_534 cv_L_80 (by decide) rfl rfl rfl rfl rfl (Nat.le_of_ble_eq_true rfl) (AC.mono ?_ h2)
  rintro r M2 ⟨rfl, hM2⟩
  exact ls_eq dL_537 (by decide) (kk M2 hM2)
theorem lc_16 (hn : n + 4 ≤ L) (hM : INV M) (kk : ∀ M2, INV M2 → LW b L xs 611 n [] M2) : LW b L xs 542 n [] M := by
  refine ls_x1 dL_542 ?_
  refine ls_arg (k := 1) (by omega) dL_543 dL_544 dL_545 dL_546 dL_547 ?_
  refine ls_inv (bb := 0) (as := [.inl (lw_v xs (n + 1))]) (rest := []) (d' := 10) dL_548 cv_L_81 (by decide) rfl rfl rfl rfl rfl (Nat.le_of_ble_eq_true rfl) (AC.mono ?_ (s_keep (d := 0) lw_r M hM))
  rintro r M1 ⟨z, rfl, h2⟩
  refine ls_x2 dL_551 ?_
  refine ls_arg (k := 1) (by omega) dL_552 dL_553 dL_554 dL_555 dL_556 ?_
  refine ls_inv (bb := 62) (as := [.inl (lw_v xs (n + 1))]) (rest := [.inl z]) (d' := 10) dL_557 cv_L_84 (by decide) rfl rfl rfl rfl rfl (Nat.le_of_ble_eq_true rfl) (AC.mono ?_ h2)
  rintro r M2 ⟨rfl, hM2⟩
  exact ls_eq dL_560 (by decide) (kk M2 hM2)
theorem lc_17 (hn : n + 4 ≤ L) (hM : INV M) (kk : ∀ M2, INV M2 → LW b L xs 611 n [] M2) : LW b L xs 565 n [] M := by
  refine ls_x1 dL_565 ?_
  refine ls_arg (k := 1) (by omega) dL_566 dL_567 dL_568 dL_569 dL_570 ?_
  refine ls_inv (bb := 0) (as := [.inl (lw_v xs (n + 1))]) (rest := []) (d' := 10) dL_571 cv_L_85 (by decide) rfl rfl rfl rfl rfl (Nat.le_of_ble_eq_true rfl) (AC.mono ?_ (s_back (d := 0) lw_r M hM))
  rintro r M1 ⟨z, rfl, h2⟩
  refine ls_x2 dL_574 ?_
  refine ls_arg (k := 1) (by omega) dL_575 dL_576 dL_577 dL_578 dL_579 ?_
  refine ls_inv (bb := 62) (as := [.inl (lw_v xs (n + 1))]) (rest := [.inl z]) (d' := 10) dL_580 cv_L_88 (by decide) rfl rfl rfl rfl rfl (Nat.le_of_ble_eq_true rfl) (AC.mono ?_ h2)
  rintro r M2 ⟨rfl, hM2⟩
  exact ls_eq dL_583 (by decide) (kk M2 hM2)
theorem lc_18 (hn : n + 4 ≤ L) (hM : INV M) (kk : ∀ M2, INV M2 → LW b L xs 611 n [] M2) : LW b L xs 588 n [] M := by
  refine ls_x1 dL_588 ?_
  refine ls_arg (k := 1) (by omega) dL_589 dL_590 dL_591 dL_592 dL_593 ?_
  refine ls_inv (bb := 0) (as := [.inl (lw_v xs (n + 1))]) (rest := []) (d' := 10) dL_594 cv_L_89 (by decide) rfl rfl rfl rfl rfl (Nat.le_of_ble_eq_true rfl) (AC.mono ?_ (s_count (d := 0) lw_r M hM))
  rintro r M1 ⟨z, rfl, h2⟩
  refine ls_x2 dL_597 ?_
  refine ls_arg (k := 1) (by omega) dL_598 dL_599 dL_600 dL_601 dL_602 ?_
  refine ls_inv (bb := 62) (as := [.inl (lw_v xs (n + 1))]) (rest := [.inl z]) (d' := 10) dL_603 cv_L_92 (by decide) rfl rfl rfl rfl rfl (Nat.le_of_ble_eq_true rfl) (AC.mono ?_ h2)
  rintro r M2 ⟨rfl, hM2⟩
  exact ls_eq dL_606 (by decide) (kk M2 hM2)
theorem lw_case (hn : n + 4 ≤ L) (hM : INV M) (kk : ∀ M2, INV M2 → LW b L xs 611 n [] M2) : ∀ k, k < 19 → LW b L xs (lw_tgt.getD k 0) n [] M := by
  intro k hk
  match k, hk with
  | 0, _ => exact lc_0 hn hM kk
  | 1, _ => exact lc_1 hn hM kk
  | 2, _ => exact lc_2 hn hM kk
  | 3, _ => exact lc_3 hn hM kk
  | 4, _ => exact lc_4 hn hM kk
  | 5, _ => exact lc_5 hn hM kk
  | 6, _ => exact lc_6 hn hM kk
  | 7, _ => exact lc_7 hn hM kk
  | 8, _ => exact lc_8 hn hM kk
  | 9, _ => exact lc_9 hn hM kk
  | 10, _ => exact lc_10 hn hM kk
  | 11, _ => exact lc_11 hn hM kk
  | 12, _ => exact lc_12 hn hM kk
  | 13, _ => exact lc_13 hn hM kk
  | 14, _ => exact lc_14 hn hM kk
  | 15, _ => exact lc_15 hn hM kk
  | 16, _ => exact lc_16 hn hM kk
  | 17, _ => exact lc_17 hn hM kk
  | 18, _ => exact lc_18 hn hM kk
  | k + 19, hk => exact absurd hk (by omega)
theorem lw_loop : ∀ (t n : Nat) (M : am_M), n ≤ L → L ≤ n + t → INV M → LW b L xs 18 n [] M := by
  intro t
  induction t with
  | zero =>
    intro n M h0 ht hM
    exact ls_head h0 (fun hn => absurd hn (by omega))
  | succ t ih =>
    intro n M h0 ht hM
    refine ls_head h0 (fun hn => ?_)
    have kk : ∀ M2, INV M2 → LW b L xs 611 n [] M2 := fun M2 hM2 => ls_next (ih (n + 4) M2 hn (by omega) hM2)
    exact ⟨lw_case hn hM kk, kk M hM⟩
end LWC
