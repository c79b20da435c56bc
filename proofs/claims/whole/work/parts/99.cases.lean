/-! the 32 cases of the law (by program: wip/whole/gen_law1.py) -/
section ZLC
variable {g : ZG} {A : Nat → Prop} {Q : ZE → State → Prop} {E : ZE} {μ : ZMem} {b L : Nat} {xs : Nat → Int32} {i : Int32}
theorem zcase_0 (G : zLG g A E) (hX : zSX b L xs E) (hI : Inv μ) (h1 : vp_in (i + 1) L) (h2 : vp_in (i + 2) L) (h3 : vp_in (i + 3) L) (h4 : vp_in (i + 4) L) (h5 : vp_in (i + 5) L) (kk : ∀ μ2, Inv μ2 → zL g A Q E μ2 1262 [some (.ref b), some (.ref (g.2.1 0 0)), some (.ref (g.2.1 12 0)), some (.int i)] []) : zL g A Q E μ 176 [some (.ref b), some (.ref (g.2.1 0 0)), some (.ref (g.2.1 12 0)), some (.int i)] [] := by
  obtain ⟨r, μ1, μ2, e1, e2, hI2⟩ := ag_think 100000 (xs (i + 1).toNatClampNeg) (xs (i + 2).toNatClampNeg) (xs (i + 3).toNatClampNeg) (xs (i + 4).toNatClampNeg) μ hI
  refine zl_aload G dl_176 rfl ?_
  refine zl_arg (v := 1) G hX rfl rfl dl_177 dl_178 dl_179 dl_180 dl_181 rfl h1 ?_
  refine zl_arg (v := 2) G hX rfl rfl dl_182 dl_183 dl_184 dl_185 dl_186 rfl h2 ?_
  refine zl_arg (v := 3) G hX rfl rfl dl_187 dl_188 dl_189 dl_190 dl_191 rfl h3 ?_
  refine zl_arg (v := 4) G hX rfl rfl dl_192 dl_193 dl_194 dl_195 dl_196 rfl h4 ?_
  refine zl_callV (k := 0) (i := 0) (as := [.int (xs (i + 1).toNatClampNeg), .int (xs (i + 2).toNatClampNeg), .int (xs (i + 3).toNatClampNeg), .int (xs (i + 4).toNatClampNeg)]) (st := []) (ρ2 := (some (.int r), μ1)) G dl_197 zm_Law_13 zo_0 (List.mem_of_getElem? (i := 0) rfl) (fun l => t_A_think e1) rfl rfl (Nat.le_of_ble_eq_true rfl) (Nat.le_of_ble_eq_true rfl) ?_
  refine zl_aload G dl_200 rfl ?_
  refine zl_arg (v := 1) G hX rfl rfl dl_201 dl_202 dl_203 dl_204 dl_205 rfl h1 ?_
  refine zl_arg (v := 2) G hX rfl rfl dl_206 dl_207 dl_208 dl_209 dl_210 rfl h2 ?_
  refine zl_arg (v := 3) G hX rfl rfl dl_211 dl_212 dl_213 dl_214 dl_215 rfl h3 ?_
  refine zl_arg (v := 4) G hX rfl rfl dl_216 dl_217 dl_218 dl_219 dl_220 rfl h4 ?_
  refine zl_callV (k := 12) (i := 0) (as := [.int (xs (i + 1).toNatClampNeg), .int (xs (i + 2).toNatClampNeg), .int (xs (i + 3).toNatClampNeg), .int (xs (i + 4).toNatClampNeg)]) (st := [.int r]) (ρ2 := (some (.int r), μ2)) G dl_221 zm_Law_17 zo_12 (List.mem_of_getElem? (i := 28) rfl) (fun l => t_M_think e2) rfl rfl (Nat.le_of_ble_eq_true rfl) (Nat.le_of_ble_eq_true rfl) ?_
  exact zl_icmp_eq (tgt := 1262) G dl_224 rfl (fun _ => kk μ2 hI2) (fun h => absurd rfl h)
theorem zcase_1 (G : zLG g A E) (hX : zSX b L xs E) (hI : Inv μ) (h1 : vp_in (i + 1) L) (h2 : vp_in (i + 2) L) (h3 : vp_in (i + 3) L) (h4 : vp_in (i + 4) L) (h5 : vp_in (i + 5) L) (kk : ∀ μ2, Inv μ2 → zL g A Q E μ2 1262 [some (.ref b), some (.ref (g.2.1 0 0)), some (.ref (g.2.1 12 0)), some (.int i)] []) : zL g A Q E μ 229 [some (.ref b), some (.ref (g.2.1 0 0)), some (.ref (g.2.1 12 0)), some (.int i)] [] := by
  obtain ⟨r, μ1, μ2, e1, e2, hI2⟩ := ag_feed 100000 (Nat.le_of_ble_eq_true rfl) (xs (i + 1).toNatClampNeg) (xs (i + 2).toNatClampNeg) (xs (i + 3).toNatClampNeg) (xs (i + 4).toNatClampNeg) (xs (i + 5).toNatClampNeg) μ hI
  refine zl_aload G dl_229 rfl ?_
  refine zl_arg (v := 1) G hX rfl rfl dl_230 dl_231 dl_232 dl_233 dl_234 rfl h1 ?_
  refine zl_arg (v := 2) G hX rfl rfl dl_235 dl_236 dl_237 dl_238 dl_239 rfl h2 ?_
  refine zl_arg (v := 3) G hX rfl rfl dl_240 dl_241 dl_242 dl_243 dl_244 rfl h3 ?_
  refine zl_arg (v := 4) G hX rfl rfl dl_245 dl_246 dl_247 dl_248 dl_249 rfl h4 ?_
  refine zl_arg (v := 5) G hX rfl rfl dl_250 dl_251 dl_252 dl_253 dl_254 rfl h5 ?_
  refine zl_callV (k := 0) (i := 0) (as := [.int (xs (i + 1).toNatClampNeg), .int (xs (i + 2).toNatClampNeg), .int (xs (i + 3).toNatClampNeg), .int (xs (i + 4).toNatClampNeg), .int (xs (i + 5).toNatClampNeg)]) (st := []) (ρ2 := (some (.int r), μ1)) G dl_255 zm_Law_18 zo_0 (List.mem_of_getElem? (i := 0) rfl) (fun l => t_A_feed e1) rfl rfl (Nat.le_of_ble_eq_true rfl) (Nat.le_of_ble_eq_true rfl) ?_
  refine zl_aload G dl_258 rfl ?_
  refine zl_arg (v := 1) G hX rfl rfl dl_259 dl_260 dl_261 dl_262 dl_263 rfl h1 ?_
  refine zl_arg (v := 2) G hX rfl rfl dl_264 dl_265 dl_266 dl_267 dl_268 rfl h2 ?_
  refine zl_arg (v := 3) G hX rfl rfl dl_269 dl_270 dl_271 dl_272 dl_273 rfl h3 ?_
  refine zl_arg (v := 4) G hX rfl rfl dl_274 dl_275 dl_276 dl_277 dl_278 rfl h4 ?_
  refine zl_arg (v := 5) G hX rfl rfl dl_279 dl_280 dl_281 dl_282 dl_283 rfl h5 ?_
  refine zl_callV (k := 12) (i := 0) (as := [.int (xs (i + 1).toNatClampNeg), .int (xs (i + 2).toNatClampNeg), .int (xs (i + 3).toNatClampNeg), .int (xs (i + 4).toNatClampNeg), .int (xs (i + 5).toNatClampNeg)]) (st := [.int r]) (ρ2 := (some (.int r), μ2)) G dl_284 zm_Law_22 zo_12 (List.mem_of_getElem? (i := 28) rfl) (fun l => t_M_feed e2) rfl rfl (Nat.le_of_ble_eq_true rfl) (Nat.le_of_ble_eq_true rfl) ?_
  exact zl_icmp_eq (tgt := 1262) G dl_287 rfl (fun _ => kk μ2 hI2) (fun h => absurd rfl h)
theorem zcase_2 (G : zLG g A E) (hX : zSX b L xs E) (hI : Inv μ) (h1 : vp_in (i + 1) L) (h2 : vp_in (i + 2) L) (h3 : vp_in (i + 3) L) (h4 : vp_in (i + 4) L) (h5 : vp_in (i + 5) L) (kk : ∀ μ2, Inv μ2 → zL g A Q E μ2 1262 [some (.ref b), some (.ref (g.2.1 0 0)), some (.ref (g.2.1 12 0)), some (.int i)] []) : zL g A Q E μ 292 [some (.ref b), some (.ref (g.2.1 0 0)), some (.ref (g.2.1 12 0)), some (.int i)] [] := by
  obtain ⟨r, μ1, μ2, e1, e2, hI2⟩ := ag_end 100000 (xs (i + 1).toNatClampNeg) μ hI
  refine zl_aload G dl_292 rfl ?_
  refine zl_arg (v := 1) G hX rfl rfl dl_293 dl_294 dl_295 dl_296 dl_297 rfl h1 ?_
  refine zl_callV (k := 0) (i := 0) (as := [.int (xs (i + 1).toNatClampNeg)]) (st := []) (ρ2 := (some (.int r), μ1)) G dl_298 zm_Law_23 zo_0 (List.mem_of_getElem? (i := 0) rfl) (fun l => t_A_end e1) rfl rfl (Nat.le_of_ble_eq_true rfl) (Nat.le_of_ble_eq_true rfl) ?_
  refine zl_aload G dl_301 rfl ?_
  refine zl_arg (v := 1) G hX rfl rfl dl_302 dl_303 dl_304 dl_305 dl_306 rfl h1 ?_
  refine zl_callV (k := 12) (i := 0) (as := [.int (xs (i + 1).toNatClampNeg)]) (st := [.int r]) (ρ2 := (some (.int r), μ2)) G dl_307 zm_Law_27 zo_12 (List.mem_of_getElem? (i := 28) rfl) (fun l => t_M_end e2) rfl rfl (Nat.le_of_ble_eq_true rfl) (Nat.le_of_ble_eq_true rfl) ?_
  exact zl_icmp_eq (tgt := 1262) G dl_310 rfl (fun _ => kk μ2 hI2) (fun h => absurd rfl h)
theorem zcase_3 (G : zLG g A E) (hX : zSX b L xs E) (hI : Inv μ) (h1 : vp_in (i + 1) L) (h2 : vp_in (i + 2) L) (h3 : vp_in (i + 3) L) (h4 : vp_in (i + 4) L) (h5 : vp_in (i + 5) L) (kk : ∀ μ2, Inv μ2 → zL g A Q E μ2 1262 [some (.ref b), some (.ref (g.2.1 0 0)), some (.ref (g.2.1 12 0)), some (.int i)] []) : zL g A Q E μ 315 [some (.ref b), some (.ref (g.2.1 0 0)), some (.ref (g.2.1 12 0)), some (.int i)] [] := by
  obtain ⟨r, μ1, μ2, e1, e2, hI2⟩ := ag_table 100000 (Nat.le_of_ble_eq_true rfl)  μ hI
  refine zl_aload G dl_315 rfl ?_
  refine zl_callV (k := 0) (i := 0) (as := []) (st := []) (ρ2 := (some (.int r), μ1)) G dl_316 zm_Law_28 zo_0 (List.mem_of_getElem? (i := 0) rfl) (fun l => t_A_table e1) rfl rfl (Nat.le_of_ble_eq_true rfl) (Nat.le_of_ble_eq_true rfl) ?_
  refine zl_aload G dl_319 rfl ?_
  refine zl_callV (k := 12) (i := 0) (as := []) (st := [.int r]) (ρ2 := (some (.int r), μ2)) G dl_320 zm_Law_32 zo_12 (List.mem_of_getElem? (i := 28) rfl) (fun l => t_M_table e2) rfl rfl (Nat.le_of_ble_eq_true rfl) (Nat.le_of_ble_eq_true rfl) ?_
  exact zl_icmp_eq (tgt := 1262) G dl_323 rfl (fun _ => kk μ2 hI2) (fun h => absurd rfl h)
theorem zcase_4 (G : zLG g A E) (hX : zSX b L xs E) (hI : Inv μ) (h1 : vp_in (i + 1) L) (h2 : vp_in (i + 2) L) (h3 : vp_in (i + 3) L) (h4 : vp_in (i + 4) L) (h5 : vp_in (i + 5) L) (kk : ∀ μ2, Inv μ2 → zL g A Q E μ2 1262 [some (.ref b), some (.ref (g.2.1 0 0)), some (.ref (g.2.1 12 0)), some (.int i)] []) : zL g A Q E μ 328 [some (.ref b), some (.ref (g.2.1 0 0)), some (.ref (g.2.1 12 0)), some (.int i)] [] := by
  obtain ⟨r, μ1, μ2, e1, e2, hI2⟩ := ag_fault 100000 (xs (i + 1).toNatClampNeg) μ hI
  refine zl_aload G dl_328 rfl ?_
  refine zl_arg (v := 1) G hX rfl rfl dl_329 dl_330 dl_331 dl_332 dl_333 rfl h1 ?_
  refine zl_callV (k := 0) (i := 0) (as := [.int (xs (i + 1).toNatClampNeg)]) (st := []) (ρ2 := (some (.int r), μ1)) G dl_334 zm_Law_33 zo_0 (List.mem_of_getElem? (i := 0) rfl) (fun l => t_A_fault e1) rfl rfl (Nat.le_of_ble_eq_true rfl) (Nat.le_of_ble_eq_true rfl) ?_
  refine zl_aload G dl_337 rfl ?_
  refine zl_arg (v := 1) G hX rfl rfl dl_338 dl_339 dl_340 dl_341 dl_342 rfl h1 ?_
  refine zl_callV (k := 12) (i := 0) (as := [.int (xs (i + 1).toNatClampNeg)]) (st := [.int r]) (ρ2 := (some (.int r), μ2)) G dl_343 zm_Law_36 zo_12 (List.mem_of_getElem? (i := 28) rfl) (fun l => t_M_fault e2) rfl rfl (Nat.le_of_ble_eq_true rfl) (Nat.le_of_ble_eq_true rfl) ?_
  exact zl_icmp_eq (tgt := 1262) G dl_346 rfl (fun _ => kk μ2 hI2) (fun h => absurd rfl h)
theorem zcase_5 (G : zLG g A E) (hX : zSX b L xs E) (hI : Inv μ) (h1 : vp_in (i + 1) L) (h2 : vp_in (i + 2) L) (h3 : vp_in (i + 3) L) (h4 : vp_in (i + 4) L) (h5 : vp_in (i + 5) L) (kk : ∀ μ2, Inv μ2 → zL g A Q E μ2 1262 [some (.ref b), some (.ref (g.2.1 0 0)), some (.ref (g.2.1 12 0)), some (.int i)] []) : zL g A Q E μ 351 [some (.ref b), some (.ref (g.2.1 0 0)), some (.ref (g.2.1 12 0)), some (.int i)] [] := by
  obtain ⟨r, μ1, μ2, e1, e2, hI2⟩ := ag_order 100000 (xs (i + 1).toNatClampNeg) (xs (i + 2).toNatClampNeg) (if (xs (i + 3).toNatClampNeg) = 0 then 0 else 1) μ hI
  refine zl_aload G dl_351 rfl ?_
  refine zl_arg (v := 1) G hX rfl rfl dl_352 dl_353 dl_354 dl_355 dl_356 rfl h1 ?_
  refine zl_arg (v := 2) G hX rfl rfl dl_357 dl_358 dl_359 dl_360 dl_361 rfl h2 ?_
  refine zl_arg (v := 3) G hX rfl rfl dl_362 dl_363 dl_364 dl_365 dl_366 rfl h3 ?_
  refine zl_bool (t1 := 374) (t2 := 375) G dl_367 rfl dl_370 dl_371 rfl dl_374 rfl ?_
  refine zl_callV (k := 0) (i := 0) (as := [.int (xs (i + 1).toNatClampNeg), .int (xs (i + 2).toNatClampNeg), .int (if (xs (i + 3).toNatClampNeg) = 0 then 0 else 1)]) (st := []) (ρ2 := (some (.int r), μ1)) G dl_375 zm_Law_37 zo_0 (List.mem_of_getElem? (i := 0) rfl) (fun l => t_A_order e1) rfl rfl (Nat.le_of_ble_eq_true rfl) (Nat.le_of_ble_eq_true rfl) ?_
  refine zl_aload G dl_378 rfl ?_
  refine zl_arg (v := 1) G hX rfl rfl dl_379 dl_380 dl_381 dl_382 dl_383 rfl h1 ?_
  refine zl_arg (v := 2) G hX rfl rfl dl_384 dl_385 dl_386 dl_387 dl_388 rfl h2 ?_
  refine zl_arg (v := 3) G hX rfl rfl dl_389 dl_390 dl_391 dl_392 dl_393 rfl h3 ?_
  refine zl_bool (t1 := 401) (t2 := 402) G dl_394 rfl dl_397 dl_398 rfl dl_401 rfl ?_
  refine zl_callV (k := 12) (i := 0) (as := [.int (xs (i + 1).toNatClampNeg), .int (xs (i + 2).toNatClampNeg), .int (if (xs (i + 3).toNatClampNeg) = 0 then 0 else 1)]) (st := [.int r]) (ρ2 := (some (.int r), μ2)) G dl_402 zm_Law_41 zo_12 (List.mem_of_getElem? (i := 28) rfl) (fun l => t_M_order e2) rfl rfl (Nat.le_of_ble_eq_true rfl) (Nat.le_of_ble_eq_true rfl) ?_
  exact zl_icmp_eq (tgt := 1262) G dl_405 rfl (fun _ => kk μ2 hI2) (fun h => absurd rfl h)
theorem zcase_6 (G : zLG g A E) (hX : zSX b L xs E) (hI : Inv μ) (h1 : vp_in (i + 1) L) (h2 : vp_in (i + 2) L) (h3 : vp_in (i + 3) L) (h4 : vp_in (i + 4) L) (h5 : vp_in (i + 5) L) (kk : ∀ μ2, Inv μ2 → zL g A Q E μ2 1262 [some (.ref b), some (.ref (g.2.1 0 0)), some (.ref (g.2.1 12 0)), some (.int i)] []) : zL g A Q E μ 410 [some (.ref b), some (.ref (g.2.1 0 0)), some (.ref (g.2.1 12 0)), some (.int i)] [] := by
  obtain ⟨r, μ1, μ2, e1, e2, hI2⟩ := ag_span 100000 (xs (i + 1).toNatClampNeg) (xs (i + 2).toNatClampNeg) (if (xs (i + 3).toNatClampNeg) = 0 then 0 else 1) μ hI
  refine zl_aload G dl_410 rfl ?_
  refine zl_arg (v := 1) G hX rfl rfl dl_411 dl_412 dl_413 dl_414 dl_415 rfl h1 ?_
  refine zl_arg (v := 2) G hX rfl rfl dl_416 dl_417 dl_418 dl_419 dl_420 rfl h2 ?_
  refine zl_arg (v := 3) G hX rfl rfl dl_421 dl_422 dl_423 dl_424 dl_425 rfl h3 ?_
  refine zl_bool (t1 := 433) (t2 := 434) G dl_426 rfl dl_429 dl_430 rfl dl_433 rfl ?_
  refine zl_callV (k := 0) (i := 0) (as := [.int (xs (i + 1).toNatClampNeg), .int (xs (i + 2).toNatClampNeg), .int (if (xs (i + 3).toNatClampNeg) = 0 then 0 else 1)]) (st := []) (ρ2 := (some (.int r), μ1)) G dl_434 zm_Law_42 zo_0 (List.mem_of_getElem? (i := 0) rfl) (fun l => t_A_span e1) rfl rfl (Nat.le_of_ble_eq_true rfl) (Nat.le_of_ble_eq_true rfl) ?_
  refine zl_aload G dl_437 rfl ?_
  refine zl_arg (v := 1) G hX rfl rfl dl_438 dl_439 dl_440 dl_441 dl_442 rfl h1 ?_
  refine zl_arg (v := 2) G hX rfl rfl dl_443 dl_444 dl_445 dl_446 dl_447 rfl h2 ?_
  refine zl_arg (v := 3) G hX rfl rfl dl_448 dl_449 dl_450 dl_451 dl_452 rfl h3 ?_
  refine zl_bool (t1 := 460) (t2 := 461) G dl_453 rfl dl_456 dl_457 rfl dl_460 rfl ?_
  refine zl_callV (k := 12) (i := 0) (as := [.int (xs (i + 1).toNatClampNeg), .int (xs (i + 2).toNatClampNeg), .int (if (xs (i + 3).toNatClampNeg) = 0 then 0 else 1)]) (st := [.int r]) (ρ2 := (some (.int r), μ2)) G dl_461 zm_Law_45 zo_12 (List.mem_of_getElem? (i := 28) rfl) (fun l => t_M_span e2) rfl rfl (Nat.le_of_ble_eq_true rfl) (Nat.le_of_ble_eq_true rfl) ?_
  exact zl_icmp_eq (tgt := 1262) G dl_464 rfl (fun _ => kk μ2 hI2) (fun h => absurd rfl h)
theorem zcase_7 (G : zLG g A E) (hX : zSX b L xs E) (hI : Inv μ) (h1 : vp_in (i + 1) L) (h2 : vp_in (i + 2) L) (h3 : vp_in (i + 3) L) (h4 : vp_in (i + 4) L) (h5 : vp_in (i + 5) L) (kk : ∀ μ2, Inv μ2 → zL g A Q E μ2 1262 [some (.ref b), some (.ref (g.2.1 0 0)), some (.ref (g.2.1 12 0)), some (.int i)] []) : zL g A Q E μ 469 [some (.ref b), some (.ref (g.2.1 0 0)), some (.ref (g.2.1 12 0)), some (.int i)] [] := by
  obtain ⟨r, μ1, μ2, e1, e2, hI2⟩ := ag_comes 100000 (Nat.le_of_ble_eq_true rfl) (xs (i + 1).toNatClampNeg) (xs (i + 2).toNatClampNeg) (if (xs (i + 3).toNatClampNeg) = 0 then 0 else 1) μ hI
  refine zl_aload G dl_469 rfl ?_
  refine zl_arg (v := 1) G hX rfl rfl dl_470 dl_471 dl_472 dl_473 dl_474 rfl h1 ?_
  refine zl_arg (v := 2) G hX rfl rfl dl_475 dl_476 dl_477 dl_478 dl_479 rfl h2 ?_
  refine zl_arg (v := 3) G hX rfl rfl dl_480 dl_481 dl_482 dl_483 dl_484 rfl h3 ?_
  refine zl_bool (t1 := 492) (t2 := 493) G dl_485 rfl dl_488 dl_489 rfl dl_492 rfl ?_
  refine zl_callV (k := 0) (i := 0) (as := [.int (xs (i + 1).toNatClampNeg), .int (xs (i + 2).toNatClampNeg), .int (if (xs (i + 3).toNatClampNeg) = 0 then 0 else 1)]) (st := []) (ρ2 := (some (.long r), μ1)) G dl_493 zm_Law_46 zo_0 (List.mem_of_getElem? (i := 0) rfl) (fun l => t_A_comes e1) rfl rfl (Nat.le_of_ble_eq_true rfl) (Nat.le_of_ble_eq_true rfl) ?_
  refine zl_aload G dl_496 rfl ?_
  refine zl_arg (v := 1) G hX rfl rfl dl_497 dl_498 dl_499 dl_500 dl_501 rfl h1 ?_
  refine zl_arg (v := 2) G hX rfl rfl dl_502 dl_503 dl_504 dl_505 dl_506 rfl h2 ?_
  refine zl_arg (v := 3) G hX rfl rfl dl_507 dl_508 dl_509 dl_510 dl_511 rfl h3 ?_
  refine zl_bool (t1 := 519) (t2 := 520) G dl_512 rfl dl_515 dl_516 rfl dl_519 rfl ?_
  refine zl_callV (k := 12) (i := 0) (as := [.int (xs (i + 1).toNatClampNeg), .int (xs (i + 2).toNatClampNeg), .int (if (xs (i + 3).toNatClampNeg) = 0 then 0 else 1)]) (st := [.long r]) (ρ2 := (some (.long r), μ2)) G dl_520 zm_Law_50 zo_12 (List.mem_of_getElem? (i := 28) rfl) (fun l => t_M_comes e2) rfl rfl (Nat.le_of_ble_eq_true rfl) (Nat.le_of_ble_eq_true rfl) ?_
  refine zl_lcmp G dl_523 ?_
  exact zl_if_eq (tgt := 1262) G dl_524 rfl (fun _ => kk μ2 hI2) (fun h => absurd ((lg_cmp_eq r r).mpr rfl) h)
theorem zcase_8 (G : zLG g A E) (hX : zSX b L xs E) (hI : Inv μ) (h1 : vp_in (i + 1) L) (h2 : vp_in (i + 2) L) (h3 : vp_in (i + 3) L) (h4 : vp_in (i + 4) L) (h5 : vp_in (i + 5) L) (kk : ∀ μ2, Inv μ2 → zL g A Q E μ2 1262 [some (.ref b), some (.ref (g.2.1 0 0)), some (.ref (g.2.1 12 0)), some (.int i)] []) : zL g A Q E μ 529 [some (.ref b), some (.ref (g.2.1 0 0)), some (.ref (g.2.1 12 0)), some (.int i)] [] := by
  obtain ⟨r, μ1, μ2, e1, e2, hI2⟩ := ag_fails 100000 (Nat.le_of_ble_eq_true rfl) (xs (i + 1).toNatClampNeg) μ hI
  refine zl_aload G dl_529 rfl ?_
  refine zl_arg (v := 1) G hX rfl rfl dl_530 dl_531 dl_532 dl_533 dl_534 rfl h1 ?_
  refine zl_callV (k := 0) (i := 0) (as := [.int (xs (i + 1).toNatClampNeg)]) (st := []) (ρ2 := (some (.int r), μ1)) G dl_535 zm_Law_51 zo_0 (List.mem_of_getElem? (i := 0) rfl) (fun l => t_A_fails e1) rfl rfl (Nat.le_of_ble_eq_true rfl) (Nat.le_of_ble_eq_true rfl) ?_
  refine zl_aload G dl_538 rfl ?_
  refine zl_arg (v := 1) G hX rfl rfl dl_539 dl_540 dl_541 dl_542 dl_543 rfl h1 ?_
  refine zl_callV (k := 12) (i := 0) (as := [.int (xs (i + 1).toNatClampNeg)]) (st := [.int r]) (ρ2 := (some (.int r), μ2)) G dl_544 zm_Law_54 zo_12 (List.mem_of_getElem? (i := 28) rfl) (fun l => t_M_fails e2) rfl rfl (Nat.le_of_ble_eq_true rfl) (Nat.le_of_ble_eq_true rfl) ?_
  exact zl_icmp_eq (tgt := 1262) G dl_547 rfl (fun _ => kk μ2 hI2) (fun h => absurd rfl h)
theorem zcase_9 (G : zLG g A E) (hX : zSX b L xs E) (hI : Inv μ) (h1 : vp_in (i + 1) L) (h2 : vp_in (i + 2) L) (h3 : vp_in (i + 3) L) (h4 : vp_in (i + 4) L) (h5 : vp_in (i + 5) L) (kk : ∀ μ2, Inv μ2 → zL g A Q E μ2 1262 [some (.ref b), some (.ref (g.2.1 0 0)), some (.ref (g.2.1 12 0)), some (.int i)] []) : zL g A Q E μ 552 [some (.ref b), some (.ref (g.2.1 0 0)), some (.ref (g.2.1 12 0)), some (.int i)] [] := by
  obtain ⟨r, μ1, μ2, e1, e2, hI2⟩ := ag_said 100000 (Nat.le_of_ble_eq_true rfl) (xs (i + 1).toNatClampNeg) (xs (i + 2).toNatClampNeg) (if (xs (i + 3).toNatClampNeg) = 0 then 0 else 1) μ hI
  refine zl_aload G dl_552 rfl ?_
  refine zl_arg (v := 1) G hX rfl rfl dl_553 dl_554 dl_555 dl_556 dl_557 rfl h1 ?_
  refine zl_arg (v := 2) G hX rfl rfl dl_558 dl_559 dl_560 dl_561 dl_562 rfl h2 ?_
  refine zl_arg (v := 3) G hX rfl rfl dl_563 dl_564 dl_565 dl_566 dl_567 rfl h3 ?_
  refine zl_bool (t1 := 575) (t2 := 576) G dl_568 rfl dl_571 dl_572 rfl dl_575 rfl ?_
  refine zl_callV (k := 0) (i := 0) (as := [.int (xs (i + 1).toNatClampNeg), .int (xs (i + 2).toNatClampNeg), .int (if (xs (i + 3).toNatClampNeg) = 0 then 0 else 1)]) (st := []) (ρ2 := (some (.long r), μ1)) G dl_576 zm_Law_55 zo_0 (List.mem_of_getElem? (i := 0) rfl) (fun l => t_A_said e1) rfl rfl (Nat.le_of_ble_eq_true rfl) (Nat.le_of_ble_eq_true rfl) ?_
  refine zl_aload G dl_579 rfl ?_
  refine zl_arg (v := 1) G hX rfl rfl dl_580 dl_581 dl_582 dl_583 dl_584 rfl h1 ?_
  refine zl_arg (v := 2) G hX rfl rfl dl_585 dl_586 dl_587 dl_588 dl_589 rfl h2 ?_
  refine zl_arg (v := 3) G hX rfl rfl dl_590 dl_591 dl_592 dl_593 dl_594 rfl h3 ?_
  refine zl_bool (t1 := 602) (t2 := 603) G dl_595 rfl dl_598 dl_599 rfl dl_602 rfl ?_
  refine zl_callV (k := 12) (i := 0) (as := [.int (xs (i + 1).toNatClampNeg), .int (xs (i + 2).toNatClampNeg), .int (if (xs (i + 3).toNatClampNeg) = 0 then 0 else 1)]) (st := [.long r]) (ρ2 := (some (.long r), μ2)) G dl_603 zm_Law_58 zo_12 (List.mem_of_getElem? (i := 28) rfl) (fun l => t_M_said e2) rfl rfl (Nat.le_of_ble_eq_true rfl) (Nat.le_of_ble_eq_true rfl) ?_
  refine zl_lcmp G dl_606 ?_
  exact zl_if_eq (tgt := 1262) G dl_607 rfl (fun _ => kk μ2 hI2) (fun h => absurd ((lg_cmp_eq r r).mpr rfl) h)
theorem zcase_10 (G : zLG g A E) (hX : zSX b L xs E) (hI : Inv μ) (h1 : vp_in (i + 1) L) (h2 : vp_in (i + 2) L) (h3 : vp_in (i + 3) L) (h4 : vp_in (i + 4) L) (h5 : vp_in (i + 5) L) (kk : ∀ μ2, Inv μ2 → zL g A Q E μ2 1262 [some (.ref b), some (.ref (g.2.1 0 0)), some (.ref (g.2.1 12 0)), some (.int i)] []) : zL g A Q E μ 612 [some (.ref b), some (.ref (g.2.1 0 0)), some (.ref (g.2.1 12 0)), some (.int i)] [] := by
  obtain ⟨r, μ1, μ2, e1, e2, hI2⟩ := ag_claim 100000 (Nat.le_of_ble_eq_true rfl) (xs (i + 1).toNatClampNeg) (xs (i + 2).toNatClampNeg) μ hI
  refine zl_aload G dl_612 rfl ?_
  refine zl_arg (v := 1) G hX rfl rfl dl_613 dl_614 dl_615 dl_616 dl_617 rfl h1 ?_
  refine zl_arg (v := 2) G hX rfl rfl dl_618 dl_619 dl_620 dl_621 dl_622 rfl h2 ?_
  refine zl_callV (k := 0) (i := 0) (as := [.int (xs (i + 1).toNatClampNeg), .int (xs (i + 2).toNatClampNeg)]) (st := []) (ρ2 := (some (.int r), μ1)) G dl_623 zm_Law_59 zo_0 (List.mem_of_getElem? (i := 0) rfl) (fun l => t_A_claim e1) rfl rfl (Nat.le_of_ble_eq_true rfl) (Nat.le_of_ble_eq_true rfl) ?_
  refine zl_aload G dl_626 rfl ?_
  refine zl_arg (v := 1) G hX rfl rfl dl_627 dl_628 dl_629 dl_630 dl_631 rfl h1 ?_
  refine zl_arg (v := 2) G hX rfl rfl dl_632 dl_633 dl_634 dl_635 dl_636 rfl h2 ?_
  refine zl_callV (k := 12) (i := 0) (as := [.int (xs (i + 1).toNatClampNeg), .int (xs (i + 2).toNatClampNeg)]) (st := [.int r]) (ρ2 := (some (.int r), μ2)) G dl_637 zm_Law_63 zo_12 (List.mem_of_getElem? (i := 28) rfl) (fun l => t_M_claim e2) rfl rfl (Nat.le_of_ble_eq_true rfl) (Nat.le_of_ble_eq_true rfl) ?_
  exact zl_icmp_eq (tgt := 1262) G dl_640 rfl (fun _ => kk μ2 hI2) (fun h => absurd rfl h)
theorem zcase_11 (G : zLG g A E) (hX : zSX b L xs E) (hI : Inv μ) (h1 : vp_in (i + 1) L) (h2 : vp_in (i + 2) L) (h3 : vp_in (i + 3) L) (h4 : vp_in (i + 4) L) (h5 : vp_in (i + 5) L) (kk : ∀ μ2, Inv μ2 → zL g A Q E μ2 1262 [some (.ref b), some (.ref (g.2.1 0 0)), some (.ref (g.2.1 12 0)), some (.int i)] []) : zL g A Q E μ 645 [some (.ref b), some (.ref (g.2.1 0 0)), some (.ref (g.2.1 12 0)), some (.int i)] [] := by
  obtain ⟨r, μ1, μ2, e1, e2, hI2⟩ := ag_judge 100000 (Nat.le_of_ble_eq_true rfl) (xs (i + 1).toNatClampNeg) μ hI
  refine zl_aload G dl_645 rfl ?_
  refine zl_arg (v := 1) G hX rfl rfl dl_646 dl_647 dl_648 dl_649 dl_650 rfl h1 ?_
  refine zl_callV (k := 0) (i := 0) (as := [.int (xs (i + 1).toNatClampNeg)]) (st := []) (ρ2 := (some (.int r), μ1)) G dl_651 zm_Law_64 zo_0 (List.mem_of_getElem? (i := 0) rfl) (fun l => t_A_judge e1) rfl rfl (Nat.le_of_ble_eq_true rfl) (Nat.le_of_ble_eq_true rfl) ?_
  refine zl_aload G dl_654 rfl ?_
  refine zl_arg (v := 1) G hX rfl rfl dl_655 dl_656 dl_657 dl_658 dl_659 rfl h1 ?_
  refine zl_callV (k := 12) (i := 0) (as := [.int (xs (i + 1).toNatClampNeg)]) (st := [.int r]) (ρ2 := (some (.int r), μ2)) G dl_660 zm_Law_67 zo_12 (List.mem_of_getElem? (i := 28) rfl) (fun l => t_M_judge e2) rfl rfl (Nat.le_of_ble_eq_true rfl) (Nat.le_of_ble_eq_true rfl) ?_
  exact zl_icmp_eq (tgt := 1262) G dl_663 rfl (fun _ => kk μ2 hI2) (fun h => absurd rfl h)
theorem zcase_12 (G : zLG g A E) (hX : zSX b L xs E) (hI : Inv μ) (h1 : vp_in (i + 1) L) (h2 : vp_in (i + 2) L) (h3 : vp_in (i + 3) L) (h4 : vp_in (i + 4) L) (h5 : vp_in (i + 5) L) (kk : ∀ μ2, Inv μ2 → zL g A Q E μ2 1262 [some (.ref b), some (.ref (g.2.1 0 0)), some (.ref (g.2.1 12 0)), some (.int i)] []) : zL g A Q E μ 668 [some (.ref b), some (.ref (g.2.1 0 0)), some (.ref (g.2.1 12 0)), some (.int i)] [] := by
  obtain ⟨r, μ1, μ2, e1, e2, hI2⟩ := ag_same 100000 (Nat.le_of_ble_eq_true rfl) (xs (i + 1).toNatClampNeg) μ hI
  refine zl_aload G dl_668 rfl ?_
  refine zl_arg (v := 1) G hX rfl rfl dl_669 dl_670 dl_671 dl_672 dl_673 rfl h1 ?_
  refine zl_callV (k := 0) (i := 0) (as := [.int (xs (i + 1).toNatClampNeg)]) (st := []) (ρ2 := (some (.int r), μ1)) G dl_674 zm_Law_68 zo_0 (List.mem_of_getElem? (i := 0) rfl) (fun l => t_A_same e1) rfl rfl (Nat.le_of_ble_eq_true rfl) (Nat.le_of_ble_eq_true rfl) ?_
  refine zl_aload G dl_677 rfl ?_
  refine zl_arg (v := 1) G hX rfl rfl dl_678 dl_679 dl_680 dl_681 dl_682 rfl h1 ?_
  refine zl_callV (k := 12) (i := 0) (as := [.int (xs (i + 1).toNatClampNeg)]) (st := [.int r]) (ρ2 := (some (.int r), μ2)) G dl_683 zm_Law_71 zo_12 (List.mem_of_getElem? (i := 28) rfl) (fun l => t_M_same e2) rfl rfl (Nat.le_of_ble_eq_true rfl) (Nat.le_of_ble_eq_true rfl) ?_
  exact zl_icmp_eq (tgt := 1262) G dl_686 rfl (fun _ => kk μ2 hI2) (fun h => absurd rfl h)
theorem zcase_13 (G : zLG g A E) (hX : zSX b L xs E) (hI : Inv μ) (h1 : vp_in (i + 1) L) (h2 : vp_in (i + 2) L) (h3 : vp_in (i + 3) L) (h4 : vp_in (i + 4) L) (h5 : vp_in (i + 5) L) (kk : ∀ μ2, Inv μ2 → zL g A Q E μ2 1262 [some (.ref b), some (.ref (g.2.1 0 0)), some (.ref (g.2.1 12 0)), some (.int i)] []) : zL g A Q E μ 691 [some (.ref b), some (.ref (g.2.1 0 0)), some (.ref (g.2.1 12 0)), some (.int i)] [] := by
  obtain ⟨r, μ1, μ2, e1, e2, hI2⟩ := ag_unlike 100000 (Nat.le_of_ble_eq_true rfl) (xs (i + 1).toNatClampNeg) (xs (i + 2).toNatClampNeg) μ hI
  refine zl_aload G dl_691 rfl ?_
  refine zl_arg (v := 1) G hX rfl rfl dl_692 dl_693 dl_694 dl_695 dl_696 rfl h1 ?_
  refine zl_arg (v := 2) G hX rfl rfl dl_697 dl_698 dl_699 dl_700 dl_701 rfl h2 ?_
  refine zl_callV (k := 0) (i := 0) (as := [.int (xs (i + 1).toNatClampNeg), .int (xs (i + 2).toNatClampNeg)]) (st := []) (ρ2 := (some (.int r), μ1)) G dl_702 zm_Law_72 zo_0 (List.mem_of_getElem? (i := 0) rfl) (fun l => t_A_unlike e1) rfl rfl (Nat.le_of_ble_eq_true rfl) (Nat.le_of_ble_eq_true rfl) ?_
  refine zl_aload G dl_705 rfl ?_
  refine zl_arg (v := 1) G hX rfl rfl dl_706 dl_707 dl_708 dl_709 dl_710 rfl h1 ?_
  refine zl_arg (v := 2) G hX rfl rfl dl_711 dl_712 dl_713 dl_714 dl_715 rfl h2 ?_
  refine zl_callV (k := 12) (i := 0) (as := [.int (xs (i + 1).toNatClampNeg), .int (xs (i + 2).toNatClampNeg)]) (st := [.int r]) (ρ2 := (some (.int r), μ2)) G dl_716 zm_Law_75 zo_12 (List.mem_of_getElem? (i := 28) rfl) (fun l => t_M_unlike e2) rfl rfl (Nat.le_of_ble_eq_true rfl) (Nat.le_of_ble_eq_true rfl) ?_
  exact zl_icmp_eq (tgt := 1262) G dl_719 rfl (fun _ => kk μ2 hI2) (fun h => absurd rfl h)
theorem zcase_14 (G : zLG g A E) (hX : zSX b L xs E) (hI : Inv μ) (h1 : vp_in (i + 1) L) (h2 : vp_in (i + 2) L) (h3 : vp_in (i + 3) L) (h4 : vp_in (i + 4) L) (h5 : vp_in (i + 5) L) (kk : ∀ μ2, Inv μ2 → zL g A Q E μ2 1262 [some (.ref b), some (.ref (g.2.1 0 0)), some (.ref (g.2.1 12 0)), some (.int i)] []) : zL g A Q E μ 724 [some (.ref b), some (.ref (g.2.1 0 0)), some (.ref (g.2.1 12 0)), some (.int i)] [] := by
  obtain ⟨r, μ1, μ2, e1, e2, hI2⟩ := ag_proof 100000 (Nat.le_of_ble_eq_true rfl) (xs (i + 1).toNatClampNeg) (xs (i + 2).toNatClampNeg) μ hI
  refine zl_aload G dl_724 rfl ?_
  refine zl_arg (v := 1) G hX rfl rfl dl_725 dl_726 dl_727 dl_728 dl_729 rfl h1 ?_
  refine zl_arg (v := 2) G hX rfl rfl dl_730 dl_731 dl_732 dl_733 dl_734 rfl h2 ?_
  refine zl_callV (k := 0) (i := 0) (as := [.int (xs (i + 1).toNatClampNeg), .int (xs (i + 2).toNatClampNeg)]) (st := []) (ρ2 := (some (.long r), μ1)) G dl_735 zm_Law_76 zo_0 (List.mem_of_getElem? (i := 0) rfl) (fun l => t_A_proof e1) rfl rfl (Nat.le_of_ble_eq_true rfl) (Nat.le_of_ble_eq_true rfl) ?_
  refine zl_aload G dl_738 rfl ?_
  refine zl_arg (v := 1) G hX rfl rfl dl_739 dl_740 dl_741 dl_742 dl_743 rfl h1 ?_
  refine zl_arg (v := 2) G hX rfl rfl dl_744 dl_745 dl_746 dl_747 dl_748 rfl h2 ?_
  refine zl_callV (k := 12) (i := 0) (as := [.int (xs (i + 1).toNatClampNeg), .int (xs (i + 2).toNatClampNeg)]) (st := [.long r]) (ρ2 := (some (.long r), μ2)) G dl_749 zm_Law_80 zo_12 (List.mem_of_getElem? (i := 28) rfl) (fun l => t_M_proof e2) rfl rfl (Nat.le_of_ble_eq_true rfl) (Nat.le_of_ble_eq_true rfl) ?_
  refine zl_lcmp G dl_752 ?_
  exact zl_if_eq (tgt := 1262) G dl_753 rfl (fun _ => kk μ2 hI2) (fun h => absurd ((lg_cmp_eq r r).mpr rfl) h)
theorem zcase_15 (G : zLG g A E) (hX : zSX b L xs E) (hI : Inv μ) (h1 : vp_in (i + 1) L) (h2 : vp_in (i + 2) L) (h3 : vp_in (i + 3) L) (h4 : vp_in (i + 4) L) (h5 : vp_in (i + 5) L) (kk : ∀ μ2, Inv μ2 → zL g A Q E μ2 1262 [some (.ref b), some (.ref (g.2.1 0 0)), some (.ref (g.2.1 12 0)), some (.int i)] []) : zL g A Q E μ 758 [some (.ref b), some (.ref (g.2.1 0 0)), some (.ref (g.2.1 12 0)), some (.int i)] [] := by
  obtain ⟨r, μ1, μ2, e1, e2, hI2⟩ := ag_hear 100000 (Nat.le_of_ble_eq_true rfl) (xs (i + 1).toNatClampNeg) (xs (i + 2).toNatClampNeg) μ hI
  refine zl_aload G dl_758 rfl ?_
  refine zl_arg (v := 1) G hX rfl rfl dl_759 dl_760 dl_761 dl_762 dl_763 rfl h1 ?_
  refine zl_arg (v := 2) G hX rfl rfl dl_764 dl_765 dl_766 dl_767 dl_768 rfl h2 ?_
  refine zl_callV (k := 0) (i := 0) (as := [.int (xs (i + 1).toNatClampNeg), .int (xs (i + 2).toNatClampNeg)]) (st := []) (ρ2 := (some (.int r), μ1)) G dl_769 zm_Law_81 zo_0 (List.mem_of_getElem? (i := 0) rfl) (fun l => t_A_hear e1) rfl rfl (Nat.le_of_ble_eq_true rfl) (Nat.le_of_ble_eq_true rfl) ?_
  refine zl_aload G dl_772 rfl ?_
  refine zl_arg (v := 1) G hX rfl rfl dl_773 dl_774 dl_775 dl_776 dl_777 rfl h1 ?_
  refine zl_arg (v := 2) G hX rfl rfl dl_778 dl_779 dl_780 dl_781 dl_782 rfl h2 ?_
  refine zl_callV (k := 12) (i := 0) (as := [.int (xs (i + 1).toNatClampNeg), .int (xs (i + 2).toNatClampNeg)]) (st := [.int r]) (ρ2 := (some (.int r), μ2)) G dl_783 zm_Law_84 zo_12 (List.mem_of_getElem? (i := 28) rfl) (fun l => t_M_hear e2) rfl rfl (Nat.le_of_ble_eq_true rfl) (Nat.le_of_ble_eq_true rfl) ?_
  exact zl_icmp_eq (tgt := 1262) G dl_786 rfl (fun _ => kk μ2 hI2) (fun h => absurd rfl h)
theorem zcase_16 (G : zLG g A E) (hX : zSX b L xs E) (hI : Inv μ) (h1 : vp_in (i + 1) L) (h2 : vp_in (i + 2) L) (h3 : vp_in (i + 3) L) (h4 : vp_in (i + 4) L) (h5 : vp_in (i + 5) L) (kk : ∀ μ2, Inv μ2 → zL g A Q E μ2 1262 [some (.ref b), some (.ref (g.2.1 0 0)), some (.ref (g.2.1 12 0)), some (.int i)] []) : zL g A Q E μ 791 [some (.ref b), some (.ref (g.2.1 0 0)), some (.ref (g.2.1 12 0)), some (.int i)] [] := by
  obtain ⟨r, μ1, μ2, e1, e2, hI2⟩ := ag_fits 100000 (Nat.le_of_ble_eq_true rfl) (xs (i + 1).toNatClampNeg) (xs (i + 2).toNatClampNeg) (xs (i + 3).toNatClampNeg) μ hI
  refine zl_aload G dl_791 rfl ?_
  refine zl_arg (v := 1) G hX rfl rfl dl_792 dl_793 dl_794 dl_795 dl_796 rfl h1 ?_
  refine zl_arg (v := 2) G hX rfl rfl dl_797 dl_798 dl_799 dl_800 dl_801 rfl h2 ?_
  refine zl_arg (v := 3) G hX rfl rfl dl_802 dl_803 dl_804 dl_805 dl_806 rfl h3 ?_
  refine zl_callV (k := 0) (i := 0) (as := [.int (xs (i + 1).toNatClampNeg), .int (xs (i + 2).toNatClampNeg), .int (xs (i + 3).toNatClampNeg)]) (st := []) (ρ2 := (some (.int r), μ1)) G dl_807 zm_Law_85 zo_0 (List.mem_of_getElem? (i := 0) rfl) (fun l => t_A_fits e1) rfl rfl (Nat.le_of_ble_eq_true rfl) (Nat.le_of_ble_eq_true rfl) ?_
  refine zl_aload G dl_810 rfl ?_
  refine zl_arg (v := 1) G hX rfl rfl dl_811 dl_812 dl_813 dl_814 dl_815 rfl h1 ?_
  refine zl_arg (v := 2) G hX rfl rfl dl_816 dl_817 dl_818 dl_819 dl_820 rfl h2 ?_
  refine zl_arg (v := 3) G hX rfl rfl dl_821 dl_822 dl_823 dl_824 dl_825 rfl h3 ?_
  refine zl_callV (k := 12) (i := 0) (as := [.int (xs (i + 1).toNatClampNeg), .int (xs (i + 2).toNatClampNeg), .int (xs (i + 3).toNatClampNeg)]) (st := [.int r]) (ρ2 := (some (.int r), μ2)) G dl_826 zm_Law_89 zo_12 (List.mem_of_getElem? (i := 28) rfl) (fun l => t_M_fits e2) rfl rfl (Nat.le_of_ble_eq_true rfl) (Nat.le_of_ble_eq_true rfl) ?_
  exact zl_icmp_eq (tgt := 1262) G dl_829 rfl (fun _ => kk μ2 hI2) (fun h => absurd rfl h)
theorem zcase_17 (G : zLG g A E) (hX : zSX b L xs E) (hI : Inv μ) (h1 : vp_in (i + 1) L) (h2 : vp_in (i + 2) L) (h3 : vp_in (i + 3) L) (h4 : vp_in (i + 4) L) (h5 : vp_in (i + 5) L) (kk : ∀ μ2, Inv μ2 → zL g A Q E μ2 1262 [some (.ref b), some (.ref (g.2.1 0 0)), some (.ref (g.2.1 12 0)), some (.int i)] []) : zL g A Q E μ 834 [some (.ref b), some (.ref (g.2.1 0 0)), some (.ref (g.2.1 12 0)), some (.int i)] [] := by
  obtain ⟨r, μ1, μ2, e1, e2, hI2⟩ := ag_more 100000 (Nat.le_of_ble_eq_true rfl) (xs (i + 1).toNatClampNeg) μ hI
  refine zl_aload G dl_834 rfl ?_
  refine zl_arg (v := 1) G hX rfl rfl dl_835 dl_836 dl_837 dl_838 dl_839 rfl h1 ?_
  refine zl_callV (k := 0) (i := 0) (as := [.int (xs (i + 1).toNatClampNeg)]) (st := []) (ρ2 := (some (.int r), μ1)) G dl_840 zm_Law_90 zo_0 (List.mem_of_getElem? (i := 0) rfl) (fun l => t_A_more e1) rfl rfl (Nat.le_of_ble_eq_true rfl) (Nat.le_of_ble_eq_true rfl) ?_
  refine zl_aload G dl_843 rfl ?_
  refine zl_arg (v := 1) G hX rfl rfl dl_844 dl_845 dl_846 dl_847 dl_848 rfl h1 ?_
  refine zl_callV (k := 12) (i := 0) (as := [.int (xs (i + 1).toNatClampNeg)]) (st := [.int r]) (ρ2 := (some (.int r), μ2)) G dl_849 zm_Law_93 zo_12 (List.mem_of_getElem? (i := 28) rfl) (fun l => t_M_more e2) rfl rfl (Nat.le_of_ble_eq_true rfl) (Nat.le_of_ble_eq_true rfl) ?_
  exact zl_icmp_eq (tgt := 1262) G dl_852 rfl (fun _ => kk μ2 hI2) (fun h => absurd rfl h)
theorem zcase_18 (G : zLG g A E) (hX : zSX b L xs E) (hI : Inv μ) (h1 : vp_in (i + 1) L) (h2 : vp_in (i + 2) L) (h3 : vp_in (i + 3) L) (h4 : vp_in (i + 4) L) (h5 : vp_in (i + 5) L) (kk : ∀ μ2, Inv μ2 → zL g A Q E μ2 1262 [some (.ref b), some (.ref (g.2.1 0 0)), some (.ref (g.2.1 12 0)), some (.int i)] []) : zL g A Q E μ 857 [some (.ref b), some (.ref (g.2.1 0 0)), some (.ref (g.2.1 12 0)), some (.int i)] [] := by
  obtain ⟨r, μ1, μ2, e1, e2, hI2⟩ := ag_kit 100000 (xs (i + 1).toNatClampNeg) (xs (i + 2).toNatClampNeg) μ hI
  refine zl_aload G dl_857 rfl ?_
  refine zl_arg (v := 1) G hX rfl rfl dl_858 dl_859 dl_860 dl_861 dl_862 rfl h1 ?_
  refine zl_arg (v := 2) G hX rfl rfl dl_863 dl_864 dl_865 dl_866 dl_867 rfl h2 ?_
  refine zl_callV (k := 0) (i := 0) (as := [.int (xs (i + 1).toNatClampNeg), .int (xs (i + 2).toNatClampNeg)]) (st := []) (ρ2 := (some (.int r), μ1)) G dl_868 zm_Law_94 zo_0 (List.mem_of_getElem? (i := 0) rfl) (fun l => t_A_kit e1) rfl rfl (Nat.le_of_ble_eq_true rfl) (Nat.le_of_ble_eq_true rfl) ?_
  refine zl_aload G dl_871 rfl ?_
  refine zl_arg (v := 1) G hX rfl rfl dl_872 dl_873 dl_874 dl_875 dl_876 rfl h1 ?_
  refine zl_arg (v := 2) G hX rfl rfl dl_877 dl_878 dl_879 dl_880 dl_881 rfl h2 ?_
  refine zl_callV (k := 12) (i := 0) (as := [.int (xs (i + 1).toNatClampNeg), .int (xs (i + 2).toNatClampNeg)]) (st := [.int r]) (ρ2 := (some (.int r), μ2)) G dl_882 zm_Law_97 zo_12 (List.mem_of_getElem? (i := 28) rfl) (fun l => t_M_kit e2) rfl rfl (Nat.le_of_ble_eq_true rfl) (Nat.le_of_ble_eq_true rfl) ?_
  exact zl_icmp_eq (tgt := 1262) G dl_885 rfl (fun _ => kk μ2 hI2) (fun h => absurd rfl h)
theorem zcase_19 (G : zLG g A E) (hX : zSX b L xs E) (hI : Inv μ) (h1 : vp_in (i + 1) L) (h2 : vp_in (i + 2) L) (h3 : vp_in (i + 3) L) (h4 : vp_in (i + 4) L) (h5 : vp_in (i + 5) L) (kk : ∀ μ2, Inv μ2 → zL g A Q E μ2 1262 [some (.ref b), some (.ref (g.2.1 0 0)), some (.ref (g.2.1 12 0)), some (.int i)] []) : zL g A Q E μ 890 [some (.ref b), some (.ref (g.2.1 0 0)), some (.ref (g.2.1 12 0)), some (.int i)] [] := by
  obtain ⟨r, μ1, μ2, e1, e2, hI2⟩ := ag_made 100000 (Nat.le_of_ble_eq_true rfl) (xs (i + 1).toNatClampNeg) (xs (i + 2).toNatClampNeg) (xs (i + 3).toNatClampNeg) (xs (i + 4).toNatClampNeg) (xs (i + 5).toNatClampNeg) μ hI
  refine zl_aload G dl_890 rfl ?_
  refine zl_arg (v := 1) G hX rfl rfl dl_891 dl_892 dl_893 dl_894 dl_895 rfl h1 ?_
  refine zl_arg (v := 2) G hX rfl rfl dl_896 dl_897 dl_898 dl_899 dl_900 rfl h2 ?_
  refine zl_arg (v := 3) G hX rfl rfl dl_901 dl_902 dl_903 dl_904 dl_905 rfl h3 ?_
  refine zl_arg (v := 4) G hX rfl rfl dl_906 dl_907 dl_908 dl_909 dl_910 rfl h4 ?_
  refine zl_arg (v := 5) G hX rfl rfl dl_911 dl_912 dl_913 dl_914 dl_915 rfl h5 ?_
  refine zl_callV (k := 0) (i := 0) (as := [.int (xs (i + 1).toNatClampNeg), .int (xs (i + 2).toNatClampNeg), .int (xs (i + 3).toNatClampNeg), .int (xs (i + 4).toNatClampNeg), .int (xs (i + 5).toNatClampNeg)]) (st := []) (ρ2 := (some (.int r), μ1)) G dl_916 zm_Law_98 zo_0 (List.mem_of_getElem? (i := 0) rfl) (fun l => t_A_made e1) rfl rfl (Nat.le_of_ble_eq_true rfl) (Nat.le_of_ble_eq_true rfl) ?_
  refine zl_aload G dl_919 rfl ?_
  refine zl_arg (v := 1) G hX rfl rfl dl_920 dl_921 dl_922 dl_923 dl_924 rfl h1 ?_
  refine zl_arg (v := 2) G hX rfl rfl dl_925 dl_926 dl_927 dl_928 dl_929 rfl h2 ?_
  refine zl_arg (v := 3) G hX rfl rfl dl_930 dl_931 dl_932 dl_933 dl_934 rfl h3 ?_
  refine zl_arg (v := 4) G hX rfl rfl dl_935 dl_936 dl_937 dl_938 dl_939 rfl h4 ?_
  refine zl_arg (v := 5) G hX rfl rfl dl_940 dl_941 dl_942 dl_943 dl_944 rfl h5 ?_
  refine zl_callV (k := 12) (i := 0) (as := [.int (xs (i + 1).toNatClampNeg), .int (xs (i + 2).toNatClampNeg), .int (xs (i + 3).toNatClampNeg), .int (xs (i + 4).toNatClampNeg), .int (xs (i + 5).toNatClampNeg)]) (st := [.int r]) (ρ2 := (some (.int r), μ2)) G dl_945 zm_Law_101 zo_12 (List.mem_of_getElem? (i := 28) rfl) (fun l => t_M_made e2) rfl rfl (Nat.le_of_ble_eq_true rfl) (Nat.le_of_ble_eq_true rfl) ?_
  exact zl_icmp_eq (tgt := 1262) G dl_948 rfl (fun _ => kk μ2 hI2) (fun h => absurd rfl h)
theorem zcase_20 (G : zLG g A E) (hX : zSX b L xs E) (hI : Inv μ) (h1 : vp_in (i + 1) L) (h2 : vp_in (i + 2) L) (h3 : vp_in (i + 3) L) (h4 : vp_in (i + 4) L) (h5 : vp_in (i + 5) L) (kk : ∀ μ2, Inv μ2 → zL g A Q E μ2 1262 [some (.ref b), some (.ref (g.2.1 0 0)), some (.ref (g.2.1 12 0)), some (.int i)] []) : zL g A Q E μ 953 [some (.ref b), some (.ref (g.2.1 0 0)), some (.ref (g.2.1 12 0)), some (.int i)] [] := by
  obtain ⟨r, μ1, μ2, e1, e2, hI2⟩ := ag_slip 100000 (Nat.le_of_ble_eq_true rfl) (xs (i + 1).toNatClampNeg) (xs (i + 2).toNatClampNeg) (xs (i + 3).toNatClampNeg) (xs (i + 4).toNatClampNeg) μ hI
  refine zl_aload G dl_953 rfl ?_
  refine zl_arg (v := 1) G hX rfl rfl dl_954 dl_955 dl_956 dl_957 dl_958 rfl h1 ?_
  refine zl_arg (v := 2) G hX rfl rfl dl_959 dl_960 dl_961 dl_962 dl_963 rfl h2 ?_
  refine zl_arg (v := 3) G hX rfl rfl dl_964 dl_965 dl_966 dl_967 dl_968 rfl h3 ?_
  refine zl_arg (v := 4) G hX rfl rfl dl_969 dl_970 dl_971 dl_972 dl_973 rfl h4 ?_
  refine zl_callV (k := 0) (i := 0) (as := [.int (xs (i + 1).toNatClampNeg), .int (xs (i + 2).toNatClampNeg), .int (xs (i + 3).toNatClampNeg), .int (xs (i + 4).toNatClampNeg)]) (st := []) (ρ2 := (some (.int r), μ1)) G dl_974 zm_Law_102 zo_0 (List.mem_of_getElem? (i := 0) rfl) (fun l => t_A_slip e1) rfl rfl (Nat.le_of_ble_eq_true rfl) (Nat.le_of_ble_eq_true rfl) ?_
  refine zl_aload G dl_977 rfl ?_
  refine zl_arg (v := 1) G hX rfl rfl dl_978 dl_979 dl_980 dl_981 dl_982 rfl h1 ?_
  refine zl_arg (v := 2) G hX rfl rfl dl_983 dl_984 dl_985 dl_986 dl_987 rfl h2 ?_
  refine zl_arg (v := 3) G hX rfl rfl dl_988 dl_989 dl_990 dl_991 dl_992 rfl h3 ?_
  refine zl_arg (v := 4) G hX rfl rfl dl_993 dl_994 dl_995 dl_996 dl_997 rfl h4 ?_
  refine zl_callV (k := 12) (i := 0) (as := [.int (xs (i + 1).toNatClampNeg), .int (xs (i + 2).toNatClampNeg), .int (xs (i + 3).toNatClampNeg), .int (xs (i + 4).toNatClampNeg)]) (st := [.int r]) (ρ2 := (some (.int r), μ2)) G dl_998 zm_Law_106 zo_12 (List.mem_of_getElem? (i := 28) rfl) (fun l => t_M_slip e2) rfl rfl (Nat.le_of_ble_eq_true rfl) (Nat.le_of_ble_eq_true rfl) ?_
  exact zl_icmp_eq (tgt := 1262) G dl_1001 rfl (fun _ => kk μ2 hI2) (fun h => absurd rfl h)
theorem zcase_21 (G : zLG g A E) (hX : zSX b L xs E) (hI : Inv μ) (h1 : vp_in (i + 1) L) (h2 : vp_in (i + 2) L) (h3 : vp_in (i + 3) L) (h4 : vp_in (i + 4) L) (h5 : vp_in (i + 5) L) (kk : ∀ μ2, Inv μ2 → zL g A Q E μ2 1262 [some (.ref b), some (.ref (g.2.1 0 0)), some (.ref (g.2.1 12 0)), some (.int i)] []) : zL g A Q E μ 1006 [some (.ref b), some (.ref (g.2.1 0 0)), some (.ref (g.2.1 12 0)), some (.int i)] [] := by
  obtain ⟨r, μ1, μ2, e1, e2, hI2⟩ := ag_ask 100000 (xs (i + 1).toNatClampNeg) μ hI
  refine zl_aload G dl_1006 rfl ?_
  refine zl_arg (v := 1) G hX rfl rfl dl_1007 dl_1008 dl_1009 dl_1010 dl_1011 rfl h1 ?_
  refine zl_callV (k := 0) (i := 0) (as := [.int (xs (i + 1).toNatClampNeg)]) (st := []) (ρ2 := (some (.int r), μ1)) G dl_1012 zm_Law_107 zo_0 (List.mem_of_getElem? (i := 0) rfl) (fun l => t_A_ask e1) rfl rfl (Nat.le_of_ble_eq_true rfl) (Nat.le_of_ble_eq_true rfl) ?_
  refine zl_aload G dl_1015 rfl ?_
  refine zl_arg (v := 1) G hX rfl rfl dl_1016 dl_1017 dl_1018 dl_1019 dl_1020 rfl h1 ?_
  refine zl_callV (k := 12) (i := 0) (as := [.int (xs (i + 1).toNatClampNeg)]) (st := [.int r]) (ρ2 := (some (.int r), μ2)) G dl_1021 zm_Law_110 zo_12 (List.mem_of_getElem? (i := 28) rfl) (fun l => t_M_ask e2) rfl rfl (Nat.le_of_ble_eq_true rfl) (Nat.le_of_ble_eq_true rfl) ?_
  exact zl_icmp_eq (tgt := 1262) G dl_1024 rfl (fun _ => kk μ2 hI2) (fun h => absurd rfl h)
theorem zcase_22 (G : zLG g A E) (hX : zSX b L xs E) (hI : Inv μ) (h1 : vp_in (i + 1) L) (h2 : vp_in (i + 2) L) (h3 : vp_in (i + 3) L) (h4 : vp_in (i + 4) L) (h5 : vp_in (i + 5) L) (kk : ∀ μ2, Inv μ2 → zL g A Q E μ2 1262 [some (.ref b), some (.ref (g.2.1 0 0)), some (.ref (g.2.1 12 0)), some (.int i)] []) : zL g A Q E μ 1029 [some (.ref b), some (.ref (g.2.1 0 0)), some (.ref (g.2.1 12 0)), some (.int i)] [] := by
  obtain ⟨r, μ1, μ2, e1, e2, hI2⟩ := ag_known 100000 (Nat.le_of_ble_eq_true rfl) (xs (i + 1).toNatClampNeg) (if (xs (i + 2).toNatClampNeg) = 0 then 0 else 1) μ hI
  refine zl_aload G dl_1029 rfl ?_
  refine zl_arg (v := 1) G hX rfl rfl dl_1030 dl_1031 dl_1032 dl_1033 dl_1034 rfl h1 ?_
  refine zl_arg (v := 2) G hX rfl rfl dl_1035 dl_1036 dl_1037 dl_1038 dl_1039 rfl h2 ?_
  refine zl_bool (t1 := 1047) (t2 := 1048) G dl_1040 rfl dl_1043 dl_1044 rfl dl_1047 rfl ?_
  refine zl_callV (k := 0) (i := 0) (as := [.int (xs (i + 1).toNatClampNeg), .int (if (xs (i + 2).toNatClampNeg) = 0 then 0 else 1)]) (st := []) (ρ2 := (some (.int r), μ1)) G dl_1048 zm_Law_111 zo_0 (List.mem_of_getElem? (i := 0) rfl) (fun l => t_A_known e1) rfl rfl (Nat.le_of_ble_eq_true rfl) (Nat.le_of_ble_eq_true rfl) ?_
  refine zl_aload G dl_1051 rfl ?_
  refine zl_arg (v := 1) G hX rfl rfl dl_1052 dl_1053 dl_1054 dl_1055 dl_1056 rfl h1 ?_
  refine zl_arg (v := 2) G hX rfl rfl dl_1057 dl_1058 dl_1059 dl_1060 dl_1061 rfl h2 ?_
  refine zl_bool (t1 := 1069) (t2 := 1070) G dl_1062 rfl dl_1065 dl_1066 rfl dl_1069 rfl ?_
  refine zl_callV (k := 12) (i := 0) (as := [.int (xs (i + 1).toNatClampNeg), .int (if (xs (i + 2).toNatClampNeg) = 0 then 0 else 1)]) (st := [.int r]) (ρ2 := (some (.int r), μ2)) G dl_1070 zm_Law_115 zo_12 (List.mem_of_getElem? (i := 28) rfl) (fun l => t_M_known e2) rfl rfl (Nat.le_of_ble_eq_true rfl) (Nat.le_of_ble_eq_true rfl) ?_
  exact zl_icmp_eq (tgt := 1262) G dl_1073 rfl (fun _ => kk μ2 hI2) (fun h => absurd rfl h)
theorem zcase_23 (G : zLG g A E) (hX : zSX b L xs E) (hI : Inv μ) (h1 : vp_in (i + 1) L) (h2 : vp_in (i + 2) L) (h3 : vp_in (i + 3) L) (h4 : vp_in (i + 4) L) (h5 : vp_in (i + 5) L) (kk : ∀ μ2, Inv μ2 → zL g A Q E μ2 1262 [some (.ref b), some (.ref (g.2.1 0 0)), some (.ref (g.2.1 12 0)), some (.int i)] []) : zL g A Q E μ 1078 [some (.ref b), some (.ref (g.2.1 0 0)), some (.ref (g.2.1 12 0)), some (.int i)] [] := by
  obtain ⟨r, μ1, μ2, e1, e2, hI2⟩ := ag_rest 100000 (Nat.le_of_ble_eq_true rfl) (xs (i + 1).toNatClampNeg) μ hI
  refine zl_aload G dl_1078 rfl ?_
  refine zl_arg (v := 1) G hX rfl rfl dl_1079 dl_1080 dl_1081 dl_1082 dl_1083 rfl h1 ?_
  refine zl_callV (k := 0) (i := 0) (as := [.int (xs (i + 1).toNatClampNeg)]) (st := []) (ρ2 := (some (.int r), μ1)) G dl_1084 zm_Law_116 zo_0 (List.mem_of_getElem? (i := 0) rfl) (fun l => t_A_rest e1) rfl rfl (Nat.le_of_ble_eq_true rfl) (Nat.le_of_ble_eq_true rfl) ?_
  refine zl_aload G dl_1087 rfl ?_
  refine zl_arg (v := 1) G hX rfl rfl dl_1088 dl_1089 dl_1090 dl_1091 dl_1092 rfl h1 ?_
  refine zl_callV (k := 12) (i := 0) (as := [.int (xs (i + 1).toNatClampNeg)]) (st := [.int r]) (ρ2 := (some (.int r), μ2)) G dl_1093 zm_Law_119 zo_12 (List.mem_of_getElem? (i := 28) rfl) (fun l => t_M_rest e2) rfl rfl (Nat.le_of_ble_eq_true rfl) (Nat.le_of_ble_eq_true rfl) ?_
  exact zl_icmp_eq (tgt := 1262) G dl_1096 rfl (fun _ => kk μ2 hI2) (fun h => absurd rfl h)
theorem zcase_24 (G : zLG g A E) (hX : zSX b L xs E) (hI : Inv μ) (h1 : vp_in (i + 1) L) (h2 : vp_in (i + 2) L) (h3 : vp_in (i + 3) L) (h4 : vp_in (i + 4) L) (h5 : vp_in (i + 5) L) (kk : ∀ μ2, Inv μ2 → zL g A Q E μ2 1262 [some (.ref b), some (.ref (g.2.1 0 0)), some (.ref (g.2.1 12 0)), some (.int i)] []) : zL g A Q E μ 1101 [some (.ref b), some (.ref (g.2.1 0 0)), some (.ref (g.2.1 12 0)), some (.int i)] [] := by
  obtain ⟨r, μ1, μ2, e1, e2, hI2⟩ := ag_struck 100000 (Nat.le_of_ble_eq_true rfl) (xs (i + 1).toNatClampNeg) μ hI
  refine zl_aload G dl_1101 rfl ?_
  refine zl_arg (v := 1) G hX rfl rfl dl_1102 dl_1103 dl_1104 dl_1105 dl_1106 rfl h1 ?_
  refine zl_callV (k := 0) (i := 0) (as := [.int (xs (i + 1).toNatClampNeg)]) (st := []) (ρ2 := (some (.int r), μ1)) G dl_1107 zm_Law_120 zo_0 (List.mem_of_getElem? (i := 0) rfl) (fun l => t_A_struck e1) rfl rfl (Nat.le_of_ble_eq_true rfl) (Nat.le_of_ble_eq_true rfl) ?_
  refine zl_aload G dl_1110 rfl ?_
  refine zl_arg (v := 1) G hX rfl rfl dl_1111 dl_1112 dl_1113 dl_1114 dl_1115 rfl h1 ?_
  refine zl_callV (k := 12) (i := 0) (as := [.int (xs (i + 1).toNatClampNeg)]) (st := [.int r]) (ρ2 := (some (.int r), μ2)) G dl_1116 zm_Law_123 zo_12 (List.mem_of_getElem? (i := 28) rfl) (fun l => t_M_struck e2) rfl rfl (Nat.le_of_ble_eq_true rfl) (Nat.le_of_ble_eq_true rfl) ?_
  exact zl_icmp_eq (tgt := 1262) G dl_1119 rfl (fun _ => kk μ2 hI2) (fun h => absurd rfl h)
theorem zcase_25 (G : zLG g A E) (hX : zSX b L xs E) (hI : Inv μ) (h1 : vp_in (i + 1) L) (h2 : vp_in (i + 2) L) (h3 : vp_in (i + 3) L) (h4 : vp_in (i + 4) L) (h5 : vp_in (i + 5) L) (kk : ∀ μ2, Inv μ2 → zL g A Q E μ2 1262 [some (.ref b), some (.ref (g.2.1 0 0)), some (.ref (g.2.1 12 0)), some (.int i)] []) : zL g A Q E μ 1124 [some (.ref b), some (.ref (g.2.1 0 0)), some (.ref (g.2.1 12 0)), some (.int i)] [] := by
  obtain ⟨r, μ1, μ2, e1, e2, hI2⟩ := ag_play 100000 (Nat.le_of_ble_eq_true rfl) (xs (i + 1).toNatClampNeg) μ hI
  refine zl_aload G dl_1124 rfl ?_
  refine zl_arg (v := 1) G hX rfl rfl dl_1125 dl_1126 dl_1127 dl_1128 dl_1129 rfl h1 ?_
  refine zl_callV (k := 0) (i := 0) (as := [.int (xs (i + 1).toNatClampNeg)]) (st := []) (ρ2 := (some (.int r), μ1)) G dl_1130 zm_Law_124 zo_0 (List.mem_of_getElem? (i := 0) rfl) (fun l => t_A_play e1) rfl rfl (Nat.le_of_ble_eq_true rfl) (Nat.le_of_ble_eq_true rfl) ?_
  refine zl_aload G dl_1133 rfl ?_
  refine zl_arg (v := 1) G hX rfl rfl dl_1134 dl_1135 dl_1136 dl_1137 dl_1138 rfl h1 ?_
  refine zl_callV (k := 12) (i := 0) (as := [.int (xs (i + 1).toNatClampNeg)]) (st := [.int r]) (ρ2 := (some (.int r), μ2)) G dl_1139 zm_Law_127 zo_12 (List.mem_of_getElem? (i := 28) rfl) (fun l => t_M_play e2) rfl rfl (Nat.le_of_ble_eq_true rfl) (Nat.le_of_ble_eq_true rfl) ?_
  exact zl_icmp_eq (tgt := 1262) G dl_1142 rfl (fun _ => kk μ2 hI2) (fun h => absurd rfl h)
theorem zcase_26 (G : zLG g A E) (hX : zSX b L xs E) (hI : Inv μ) (h1 : vp_in (i + 1) L) (h2 : vp_in (i + 2) L) (h3 : vp_in (i + 3) L) (h4 : vp_in (i + 4) L) (h5 : vp_in (i + 5) L) (kk : ∀ μ2, Inv μ2 → zL g A Q E μ2 1262 [some (.ref b), some (.ref (g.2.1 0 0)), some (.ref (g.2.1 12 0)), some (.int i)] []) : zL g A Q E μ 1147 [some (.ref b), some (.ref (g.2.1 0 0)), some (.ref (g.2.1 12 0)), some (.int i)] [] := by
  obtain ⟨r, μ1, μ2, e1, e2, hI2⟩ := ag_go 100000 (Nat.le_of_ble_eq_true rfl)  μ hI
  refine zl_aload G dl_1147 rfl ?_
  refine zl_callV (k := 0) (i := 0) (as := []) (st := []) (ρ2 := (some (.int r), μ1)) G dl_1148 zm_Law_128 zo_0 (List.mem_of_getElem? (i := 0) rfl) (fun l => t_A_go e1) rfl rfl (Nat.le_of_ble_eq_true rfl) (Nat.le_of_ble_eq_true rfl) ?_
  refine zl_aload G dl_1151 rfl ?_
  refine zl_callV (k := 12) (i := 0) (as := []) (st := [.int r]) (ρ2 := (some (.int r), μ2)) G dl_1152 zm_Law_131 zo_12 (List.mem_of_getElem? (i := 28) rfl) (fun l => t_M_go e2) rfl rfl (Nat.le_of_ble_eq_true rfl) (Nat.le_of_ble_eq_true rfl) ?_
  exact zl_icmp_eq (tgt := 1262) G dl_1155 rfl (fun _ => kk μ2 hI2) (fun h => absurd rfl h)
theorem zcase_27 (G : zLG g A E) (hX : zSX b L xs E) (hI : Inv μ) (h1 : vp_in (i + 1) L) (h2 : vp_in (i + 2) L) (h3 : vp_in (i + 3) L) (h4 : vp_in (i + 4) L) (h5 : vp_in (i + 5) L) (kk : ∀ μ2, Inv μ2 → zL g A Q E μ2 1262 [some (.ref b), some (.ref (g.2.1 0 0)), some (.ref (g.2.1 12 0)), some (.int i)] []) : zL g A Q E μ 1160 [some (.ref b), some (.ref (g.2.1 0 0)), some (.ref (g.2.1 12 0)), some (.int i)] [] := by
  obtain ⟨r, μ1, μ2, e1, e2, hI2⟩ := ag_undo 100000  μ hI
  refine zl_aload G dl_1160 rfl ?_
  refine zl_callV (k := 0) (i := 0) (as := []) (st := []) (ρ2 := (some (.int r), μ1)) G dl_1161 zm_Law_132 zo_0 (List.mem_of_getElem? (i := 0) rfl) (fun l => t_A_undo e1) rfl rfl (Nat.le_of_ble_eq_true rfl) (Nat.le_of_ble_eq_true rfl) ?_
  refine zl_aload G dl_1164 rfl ?_
  refine zl_callV (k := 12) (i := 0) (as := []) (st := [.int r]) (ρ2 := (some (.int r), μ2)) G dl_1165 zm_Law_135 zo_12 (List.mem_of_getElem? (i := 28) rfl) (fun l => t_M_undo e2) rfl rfl (Nat.le_of_ble_eq_true rfl) (Nat.le_of_ble_eq_true rfl) ?_
  exact zl_icmp_eq (tgt := 1262) G dl_1168 rfl (fun _ => kk μ2 hI2) (fun h => absurd rfl h)
theorem zcase_28 (G : zLG g A E) (hX : zSX b L xs E) (hI : Inv μ) (h1 : vp_in (i + 1) L) (h2 : vp_in (i + 2) L) (h3 : vp_in (i + 3) L) (h4 : vp_in (i + 4) L) (h5 : vp_in (i + 5) L) (kk : ∀ μ2, Inv μ2 → zL g A Q E μ2 1262 [some (.ref b), some (.ref (g.2.1 0 0)), some (.ref (g.2.1 12 0)), some (.int i)] []) : zL g A Q E μ 1173 [some (.ref b), some (.ref (g.2.1 0 0)), some (.ref (g.2.1 12 0)), some (.int i)] [] := by
  obtain ⟨r, μ1, μ2, e1, e2, hI2⟩ := ag_value 100000 (if (xs (i + 1).toNatClampNeg) = 0 then 0 else 1) μ hI
  refine zl_aload G dl_1173 rfl ?_
  refine zl_arg (v := 1) G hX rfl rfl dl_1174 dl_1175 dl_1176 dl_1177 dl_1178 rfl h1 ?_
  refine zl_bool (t1 := 1186) (t2 := 1187) G dl_1179 rfl dl_1182 dl_1183 rfl dl_1186 rfl ?_
  refine zl_callV (k := 0) (i := 0) (as := [.int (if (xs (i + 1).toNatClampNeg) = 0 then 0 else 1)]) (st := []) (ρ2 := (some (.long r), μ1)) G dl_1187 zm_Law_136 zo_0 (List.mem_of_getElem? (i := 0) rfl) (fun l => t_A_value e1) rfl rfl (Nat.le_of_ble_eq_true rfl) (Nat.le_of_ble_eq_true rfl) ?_
  refine zl_aload G dl_1190 rfl ?_
  refine zl_arg (v := 1) G hX rfl rfl dl_1191 dl_1192 dl_1193 dl_1194 dl_1195 rfl h1 ?_
  refine zl_bool (t1 := 1203) (t2 := 1204) G dl_1196 rfl dl_1199 dl_1200 rfl dl_1203 rfl ?_
  refine zl_callV (k := 12) (i := 0) (as := [.int (if (xs (i + 1).toNatClampNeg) = 0 then 0 else 1)]) (st := [.long r]) (ρ2 := (some (.long r), μ2)) G dl_1204 zm_Law_140 zo_12 (List.mem_of_getElem? (i := 28) rfl) (fun l => t_M_value e2) rfl rfl (Nat.le_of_ble_eq_true rfl) (Nat.le_of_ble_eq_true rfl) ?_
  refine zl_lcmp G dl_1207 ?_
  exact zl_if_eq (tgt := 1262) G dl_1208 rfl (fun _ => kk μ2 hI2) (fun h => absurd ((lg_cmp_eq r r).mpr rfl) h)
theorem zcase_29 (G : zLG g A E) (hX : zSX b L xs E) (hI : Inv μ) (h1 : vp_in (i + 1) L) (h2 : vp_in (i + 2) L) (h3 : vp_in (i + 3) L) (h4 : vp_in (i + 4) L) (h5 : vp_in (i + 5) L) (kk : ∀ μ2, Inv μ2 → zL g A Q E μ2 1262 [some (.ref b), some (.ref (g.2.1 0 0)), some (.ref (g.2.1 12 0)), some (.int i)] []) : zL g A Q E μ 1213 [some (.ref b), some (.ref (g.2.1 0 0)), some (.ref (g.2.1 12 0)), some (.int i)] [] := by
  obtain ⟨r, μ1, μ2, e1, e2, hI2⟩ := ag_image 100000 (Nat.le_of_ble_eq_true rfl)  μ hI
  refine zl_aload G dl_1213 rfl ?_
  refine zl_callV (k := 0) (i := 0) (as := []) (st := []) (ρ2 := (some (.int r), μ1)) G dl_1214 zm_Law_141 zo_0 (List.mem_of_getElem? (i := 0) rfl) (fun l => t_A_image e1) rfl rfl (Nat.le_of_ble_eq_true rfl) (Nat.le_of_ble_eq_true rfl) ?_
  refine zl_aload G dl_1217 rfl ?_
  refine zl_callV (k := 12) (i := 0) (as := []) (st := [.int r]) (ρ2 := (some (.int r), μ2)) G dl_1218 zm_Law_144 zo_12 (List.mem_of_getElem? (i := 28) rfl) (fun l => t_M_image e2) rfl rfl (Nat.le_of_ble_eq_true rfl) (Nat.le_of_ble_eq_true rfl) ?_
  exact zl_icmp_eq (tgt := 1262) G dl_1221 rfl (fun _ => kk μ2 hI2) (fun h => absurd rfl h)
theorem zcase_30 (G : zLG g A E) (hX : zSX b L xs E) (hI : Inv μ) (h1 : vp_in (i + 1) L) (h2 : vp_in (i + 2) L) (h3 : vp_in (i + 3) L) (h4 : vp_in (i + 4) L) (h5 : vp_in (i + 5) L) (kk : ∀ μ2, Inv μ2 → zL g A Q E μ2 1262 [some (.ref b), some (.ref (g.2.1 0 0)), some (.ref (g.2.1 12 0)), some (.int i)] []) : zL g A Q E μ 1226 [some (.ref b), some (.ref (g.2.1 0 0)), some (.ref (g.2.1 12 0)), some (.int i)] [] := by
  obtain ⟨r, μ1, μ2, e1, e2, hI2⟩ := ag_back 100000 (Nat.le_of_ble_eq_true rfl)  μ hI
  refine zl_aload G dl_1226 rfl ?_
  refine zl_callV (k := 0) (i := 0) (as := []) (st := []) (ρ2 := (some (.int r), μ1)) G dl_1227 zm_Law_145 zo_0 (List.mem_of_getElem? (i := 0) rfl) (fun l => t_A_back e1) rfl rfl (Nat.le_of_ble_eq_true rfl) (Nat.le_of_ble_eq_true rfl) ?_
  refine zl_aload G dl_1230 rfl ?_
  refine zl_callV (k := 12) (i := 0) (as := []) (st := [.int r]) (ρ2 := (some (.int r), μ2)) G dl_1231 zm_Law_148 zo_12 (List.mem_of_getElem? (i := 28) rfl) (fun l => t_M_back e2) rfl rfl (Nat.le_of_ble_eq_true rfl) (Nat.le_of_ble_eq_true rfl) ?_
  exact zl_icmp_eq (tgt := 1262) G dl_1234 rfl (fun _ => kk μ2 hI2) (fun h => absurd rfl h)
theorem zcase_31 (G : zLG g A E) (hX : zSX b L xs E) (hI : Inv μ) (h1 : vp_in (i + 1) L) (h2 : vp_in (i + 2) L) (h3 : vp_in (i + 3) L) (h4 : vp_in (i + 4) L) (h5 : vp_in (i + 5) L) (kk : ∀ μ2, Inv μ2 → zL g A Q E μ2 1262 [some (.ref b), some (.ref (g.2.1 0 0)), some (.ref (g.2.1 12 0)), some (.int i)] []) : zL g A Q E μ 1239 [some (.ref b), some (.ref (g.2.1 0 0)), some (.ref (g.2.1 12 0)), some (.int i)] [] := by
  obtain ⟨r, μ1, μ2, e1, e2, hI2⟩ := ag_about 100000 (xs (i + 1).toNatClampNeg) μ hI
  refine zl_aload G dl_1239 rfl ?_
  refine zl_arg (v := 1) G hX rfl rfl dl_1240 dl_1241 dl_1242 dl_1243 dl_1244 rfl h1 ?_
  refine zl_callV (k := 0) (i := 0) (as := [.int (xs (i + 1).toNatClampNeg)]) (st := []) (ρ2 := (some (.int r), μ1)) G dl_1245 zm_Law_149 zo_0 (List.mem_of_getElem? (i := 0) rfl) (fun l => t_A_about e1) rfl rfl (Nat.le_of_ble_eq_true rfl) (Nat.le_of_ble_eq_true rfl) ?_
  refine zl_aload G dl_1248 rfl ?_
  refine zl_arg (v := 1) G hX rfl rfl dl_1249 dl_1250 dl_1251 dl_1252 dl_1253 rfl h1 ?_
  refine zl_callV (k := 12) (i := 0) (as := [.int (xs (i + 1).toNatClampNeg)]) (st := [.int r]) (ρ2 := (some (.int r), μ2)) G dl_1254 zm_Law_152 zo_12 (List.mem_of_getElem? (i := 28) rfl) (fun l => t_M_about e2) rfl rfl (Nat.le_of_ble_eq_true rfl) (Nat.le_of_ble_eq_true rfl) ?_
  exact zl_icmp_eq (tgt := 1262) G dl_1257 rfl (fun _ => kk μ2 hI2) (fun h => absurd rfl h)
end ZLC
