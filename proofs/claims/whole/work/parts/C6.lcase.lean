/-! THE LAW's cases, one by one -/
section LCase
variable {d c i L w : Nat} {M : jM} {W : kW} {a b : Option jV} {Q : Option jV → jM → Prop}
theorem law_c0 (hd : 724 ≤ d) (hL : L ≤ 3072) (hi : i + 6 ≤ L) (h : LWc L w c W M) (K : ∀ W2 M2, LWc L w (c + 1) W2 M2 → Run (d + 1 + 1) mL_law 1513 (lsL i a b) [] M2 Q) : Run (d + 1 + 1) mL_law 208 (lsL i a b) [] M Q := by
  obtain ⟨hok, hX, hM, hl⟩ := id h
  have hS := hX.shp
  have hb := hl.row hS
  refine r_aload_n dL_law_208 rfl ?_
  refine law_arg dL_law_209 dL_law_210 dL_law_212 dL_law_213 dL_law_214 (by decide) hb (by omega) ?_
  refine law_arg dL_law_215 dL_law_216 dL_law_218 dL_law_219 dL_law_220 (by decide) hb (by omega) ?_
  refine law_arg dL_law_221 dL_law_222 dL_law_224 dL_law_225 dL_law_226 (by decide) hb (by omega) ?_
  refine law_arg dL_law_227 dL_law_228 dL_law_230 dL_law_231 dL_law_232 (by decide) hb (by omega) ?_
  refine law_arg dL_law_233 dL_law_234 dL_law_236 dL_law_237 dL_law_238 (by decide) hb (by omega) ?_
  refine r_invV_i dL_law_239 kM12_19 (by decide) (Nat.le_of_ble_eq_true rfl) (as := [vI (iv M 5 ((i : Int) + 1).toNat), vI (iv M 5 ((i : Int) + 2).toNat), vI (iv M 5 ((i : Int) + 3).toNat), vI (iv M 5 ((i : Int) + 4).toNat), vI (iv M 5 ((i : Int) + 5).toNat)]) (q := []) rfl rfl (Nat.le_of_ble_eq_true rfl) (Nat.le_of_ble_eq_true rfl) (sh_o hS kk6 (by decide)) ?_
  refine X_feed (by omega) hX hok  (fun M1 f1 x1 => ⟨_, rfl, ?_⟩)
  have hM1 := hM.fx f1
  have hS1 := hM1.shp
  have hb1 := (hl.fx f1).row hS1
  have e5 : iv M1 5 = iv M 5 := (f1.2.1 5 (Or.inl (by decide))).1
  refine r_aload_n dL_law_242 rfl ?_
  refine law_arg dL_law_243 dL_law_244 dL_law_246 dL_law_247 dL_law_248 (by decide) hb1 (by omega) ?_
  refine law_arg dL_law_249 dL_law_250 dL_law_252 dL_law_253 dL_law_254 (by decide) hb1 (by omega) ?_
  refine law_arg dL_law_255 dL_law_256 dL_law_258 dL_law_259 dL_law_260 (by decide) hb1 (by omega) ?_
  refine law_arg dL_law_261 dL_law_262 dL_law_264 dL_law_265 dL_law_266 (by decide) hb1 (by omega) ?_
  refine law_arg dL_law_267 dL_law_268 dL_law_270 dL_law_271 dL_law_272 (by decide) hb1 (by omega) ?_
  rw [e5]
  refine r_invV_i dL_law_273 kM12_23 (by decide) (Nat.le_of_ble_eq_true rfl) (as := [vI (iv M 5 ((i : Int) + 1).toNat), vI (iv M 5 ((i : Int) + 2).toNat), vI (iv M 5 ((i : Int) + 3).toNat), vI (iv M 5 ((i : Int) + 4).toNat), vI (iv M 5 ((i : Int) + 5).toNat)]) (q := [vI ((wFeed W (iv M 5 ((i : Int) + 1).toNat) (iv M 5 ((i : Int) + 2).toNat) (iv M 5 ((i : Int) + 3).toNat) (iv M 5 ((i : Int) + 4).toNat) (iv M 5 ((i : Int) + 5).toNat)).1)]) rfl rfl (Nat.le_of_ble_eq_true rfl) (Nat.le_of_ble_eq_true rfl) (sh_o hS1 kk468 (by decide)) ?_
  refine M_feed (by omega) hM1 hok (hl.x32 (by omega)) (fun M2 f2 m2 => ⟨_, rfl, ?_⟩)
  refine r_icmp_eq (tgt := 1513) dL_law_276 rfl (fun _ => ?_) (fun q => absurd rfl q)
  exact K _ M2 (h.step (okFeed hok) f1 x1 f2 m2)
theorem law_c1 (hd : 724 ≤ d) (hL : L ≤ 3072) (hi : i + 6 ≤ L) (h : LWc L w c W M) (K : ∀ W2 M2, LWc L w (c + 1) W2 M2 → Run (d + 1 + 1) mL_law 1513 (lsL i a b) [] M2 Q) : Run (d + 1 + 1) mL_law 281 (lsL i a b) [] M Q := by
  obtain ⟨hok, hX, hM, hl⟩ := id h
  have hS := hX.shp
  have hb := hl.row hS
  refine r_aload_n dL_law_281 rfl ?_
  refine law_arg dL_law_282 dL_law_283 dL_law_285 dL_law_286 dL_law_287 (by decide) hb (by omega) ?_
  refine r_invV_i dL_law_288 kM12_24 (by decide) (Nat.le_of_ble_eq_true rfl) (as := [vI (iv M 5 ((i : Int) + 1).toNat)]) (q := []) rfl rfl (Nat.le_of_ble_eq_true rfl) (Nat.le_of_ble_eq_true rfl) (sh_o hS kk6 (by decide)) ?_
  refine X_end (by omega) hX hok  (fun M1 f1 x1 => ⟨_, rfl, ?_⟩)
  have hM1 := hM.fx f1
  have hS1 := hM1.shp
  have hb1 := (hl.fx f1).row hS1
  have e5 : iv M1 5 = iv M 5 := (f1.2.1 5 (Or.inl (by decide))).1
  refine r_aload_n dL_law_291 rfl ?_
  refine law_arg dL_law_292 dL_law_293 dL_law_295 dL_law_296 dL_law_297 (by decide) hb1 (by omega) ?_
  rw [e5]
  refine r_invV_i dL_law_298 kM12_28 (by decide) (Nat.le_of_ble_eq_true rfl) (as := [vI (iv M 5 ((i : Int) + 1).toNat)]) (q := [vI ((wEnd W (iv M 5 ((i : Int) + 1).toNat)).1)]) rfl rfl (Nat.le_of_ble_eq_true rfl) (Nat.le_of_ble_eq_true rfl) (sh_o hS1 kk468 (by decide)) ?_
  refine M_end (by omega) hM1 hok  (fun M2 f2 m2 => ⟨_, rfl, ?_⟩)
  refine r_icmp_eq (tgt := 1513) dL_law_301 rfl (fun _ => ?_) (fun q => absurd rfl q)
  exact K _ M2 (h.step (okEnd hok) f1 x1 f2 m2)
theorem law_c2 (hd : 724 ≤ d) (hL : L ≤ 3072) (hi : i + 6 ≤ L) (h : LWc L w c W M) (K : ∀ W2 M2, LWc L w (c + 1) W2 M2 → Run (d + 1 + 1) mL_law 1513 (lsL i a b) [] M2 Q) : Run (d + 1 + 1) mL_law 306 (lsL i a b) [] M Q := by
  obtain ⟨hok, hX, hM, hl⟩ := id h
  have hS := hX.shp
  have hb := hl.row hS
  refine r_aload_n dL_law_306 rfl ?_
  refine law_arg dL_law_307 dL_law_308 dL_law_310 dL_law_311 dL_law_312 (by decide) hb (by omega) ?_
  refine r_invV_i dL_law_313 kM12_29 (by decide) (Nat.le_of_ble_eq_true rfl) (as := [vI (iv M 5 ((i : Int) + 1).toNat)]) (q := []) rfl rfl (Nat.le_of_ble_eq_true rfl) (Nat.le_of_ble_eq_true rfl) (sh_o hS kk6 (by decide)) ?_
  refine X_fault (by omega) hX hok (hl.st) (fun M1 f1 x1 => ⟨_, rfl, ?_⟩)
  have hM1 := hM.fx f1
  have hS1 := hM1.shp
  have hb1 := (hl.fx f1).row hS1
  have e5 : iv M1 5 = iv M 5 := (f1.2.1 5 (Or.inl (by decide))).1
  refine r_aload_n dL_law_316 rfl ?_
  refine law_arg dL_law_317 dL_law_318 dL_law_320 dL_law_321 dL_law_322 (by decide) hb1 (by omega) ?_
  rw [e5]
  refine r_invV_i dL_law_323 kM12_33 (by decide) (Nat.le_of_ble_eq_true rfl) (as := [vI (iv M 5 ((i : Int) + 1).toNat)]) (q := [vI (aFault W (iv M 5 ((i : Int) + 1).toNat))]) rfl rfl (Nat.le_of_ble_eq_true rfl) (Nat.le_of_ble_eq_true rfl) (sh_o hS1 kk468 (by decide)) ?_
  refine M_fault (by omega) hM1 hok  (fun M2 f2 m2 => ⟨_, rfl, ?_⟩)
  refine r_icmp_eq (tgt := 1513) dL_law_326 rfl (fun _ => ?_) (fun q => absurd rfl q)
  exact K _ M2 (h.step hok f1 x1 f2 m2)
theorem law_c3 (hd : 724 ≤ d) (hL : L ≤ 3072) (hi : i + 6 ≤ L) (h : LWc L w c W M) (K : ∀ W2 M2, LWc L w (c + 1) W2 M2 → Run (d + 1 + 1) mL_law 1513 (lsL i a b) [] M2 Q) : Run (d + 1 + 1) mL_law 331 (lsL i a b) [] M Q := by
  obtain ⟨hok, hX, hM, hl⟩ := id h
  have hS := hX.shp
  have hb := hl.row hS
  refine r_aload_n dL_law_331 rfl ?_
  refine law_arg dL_law_332 dL_law_333 dL_law_335 dL_law_336 dL_law_337 (by decide) hb (by omega) ?_
  refine r_invV_i dL_law_338 kM12_34 (by decide) (Nat.le_of_ble_eq_true rfl) (as := [vI (iv M 5 ((i : Int) + 1).toNat)]) (q := []) rfl rfl (Nat.le_of_ble_eq_true rfl) (Nat.le_of_ble_eq_true rfl) (sh_o hS kk6 (by decide)) ?_
  refine X_text (by omega) hX hok hl.st (fun ans W2 M1 hT f1 x1 => ⟨_, rfl, ?_⟩)
  have hM1 := hM.fx f1
  have hS1 := hM1.shp
  have hb1 := (hl.fx f1).row hS1
  have e5 : iv M1 5 = iv M 5 := (f1.2.1 5 (Or.inl (by decide))).1
  refine r_aload_n dL_law_341 rfl ?_
  refine law_arg dL_law_342 dL_law_343 dL_law_345 dL_law_346 dL_law_347 (by decide) hb1 (by omega) ?_
  rw [e5]
  refine r_invV_i dL_law_348 kM12_37 (by decide) (Nat.le_of_ble_eq_true rfl) (as := [vI (iv M 5 ((i : Int) + 1).toNat)]) (q := [vI (ans)]) rfl rfl (Nat.le_of_ble_eq_true rfl) (Nat.le_of_ble_eq_true rfl) (sh_o hS1 kk468 (by decide)) ?_
  refine M_text (by omega) hM1 hok hT (fun M2 f2 m2 => ⟨_, rfl, ?_⟩)
  refine r_icmp_eq (tgt := 1513) dL_law_351 rfl (fun _ => ?_) (fun q => absurd rfl q)
  exact K _ M2 (h.step (okText hok hT) f1 x1 f2 m2)
theorem law_c4 (hd : 724 ≤ d) (hL : L ≤ 3072) (hi : i + 6 ≤ L) (h : LWc L w c W M) (K : ∀ W2 M2, LWc L w (c + 1) W2 M2 → Run (d + 1 + 1) mL_law 1513 (lsL i a b) [] M2 Q) : Run (d + 1 + 1) mL_law 356 (lsL i a b) [] M Q := by
  obtain ⟨hok, hX, hM, hl⟩ := id h
  have hS := hX.shp
  have hb := hl.row hS
  refine r_aload_n dL_law_356 rfl ?_
  refine law_arg dL_law_357 dL_law_358 dL_law_360 dL_law_361 dL_law_362 (by decide) hb (by omega) ?_
  refine r_invV_i dL_law_363 kM12_38 (by decide) (Nat.le_of_ble_eq_true rfl) (as := [vI (iv M 5 ((i : Int) + 1).toNat)]) (q := []) rfl rfl (Nat.le_of_ble_eq_true rfl) (Nat.le_of_ble_eq_true rfl) (sh_o hS kk6 (by decide)) ?_
  refine X_rule (by omega) hX hok  (fun M1 f1 x1 => ⟨_, rfl, ?_⟩)
  have hM1 := hM.fx f1
  have hS1 := hM1.shp
  have hb1 := (hl.fx f1).row hS1
  have e5 : iv M1 5 = iv M 5 := (f1.2.1 5 (Or.inl (by decide))).1
  refine r_aload_n dL_law_366 rfl ?_
  refine law_arg dL_law_367 dL_law_368 dL_law_370 dL_law_371 dL_law_372 (by decide) hb1 (by omega) ?_
  rw [e5]
  refine r_invV_i dL_law_373 kM12_41 (by decide) (Nat.le_of_ble_eq_true rfl) (as := [vI (iv M 5 ((i : Int) + 1).toNat)]) (q := [vI (aRule W (iv M 5 ((i : Int) + 1).toNat))]) rfl rfl (Nat.le_of_ble_eq_true rfl) (Nat.le_of_ble_eq_true rfl) (sh_o hS1 kk468 (by decide)) ?_
  refine M_rule (by omega) hM1 hok  (fun M2 f2 m2 => ⟨_, rfl, ?_⟩)
  refine r_icmp_eq (tgt := 1513) dL_law_376 rfl (fun _ => ?_) (fun q => absurd rfl q)
  exact K _ M2 (h.step hok f1 x1 f2 m2)
theorem law_c6 (hd : 724 ≤ d) (hL : L ≤ 3072) (hi : i + 6 ≤ L) (h : LWc L w c W M) (K : ∀ W2 M2, LWc L w (c + 1) W2 M2 → Run (d + 1 + 1) mL_law 1513 (lsL i a b) [] M2 Q) : Run (d + 1 + 1) mL_law 449 (lsL i a b) [] M Q := by
  obtain ⟨hok, hX, hM, hl⟩ := id h
  have hS := hX.shp
  have hb := hl.row hS
  refine r_aload_n dL_law_449 rfl ?_
  refine law_arg dL_law_450 dL_law_451 dL_law_453 dL_law_454 dL_law_455 (by decide) hb (by omega) ?_
  refine law_arg dL_law_456 dL_law_457 dL_law_459 dL_law_460 dL_law_461 (by decide) hb (by omega) ?_
  refine law_arg dL_law_462 dL_law_463 dL_law_465 dL_law_466 dL_law_467 (by decide) hb (by omega) ?_
  refine r_invV_i dL_law_468 kM12_52 (by decide) (Nat.le_of_ble_eq_true rfl) (as := [vI (iv M 5 ((i : Int) + 1).toNat), vI (iv M 5 ((i : Int) + 2).toNat), vI (iv M 5 ((i : Int) + 3).toNat)]) (q := []) rfl rfl (Nat.le_of_ble_eq_true rfl) (Nat.le_of_ble_eq_true rfl) (sh_o hS kk6 (by decide)) ?_
  refine X_thought (by omega) hX hok  (fun M1 f1 x1 => ⟨_, rfl, ?_⟩)
  have hM1 := hM.fx f1
  have hS1 := hM1.shp
  have hb1 := (hl.fx f1).row hS1
  have e5 : iv M1 5 = iv M 5 := (f1.2.1 5 (Or.inl (by decide))).1
  refine r_aload_n dL_law_471 rfl ?_
  refine law_arg dL_law_472 dL_law_473 dL_law_475 dL_law_476 dL_law_477 (by decide) hb1 (by omega) ?_
  refine law_arg dL_law_478 dL_law_479 dL_law_481 dL_law_482 dL_law_483 (by decide) hb1 (by omega) ?_
  refine law_arg dL_law_484 dL_law_485 dL_law_487 dL_law_488 dL_law_489 (by decide) hb1 (by omega) ?_
  rw [e5]
  refine r_invV_i dL_law_490 kM12_56 (by decide) (Nat.le_of_ble_eq_true rfl) (as := [vI (iv M 5 ((i : Int) + 1).toNat), vI (iv M 5 ((i : Int) + 2).toNat), vI (iv M 5 ((i : Int) + 3).toNat)]) (q := [vI (aThought W (iv M 5 ((i : Int) + 1).toNat) (iv M 5 ((i : Int) + 2).toNat) (iv M 5 ((i : Int) + 3).toNat))]) rfl rfl (Nat.le_of_ble_eq_true rfl) (Nat.le_of_ble_eq_true rfl) (sh_o hS1 kk468 (by decide)) ?_
  refine M_thought (by omega) hM1 hok  (fun M2 f2 m2 => ⟨_, rfl, ?_⟩)
  refine r_icmp_eq (tgt := 1513) dL_law_493 rfl (fun _ => ?_) (fun q => absurd rfl q)
  exact K _ M2 (h.step hok f1 x1 f2 m2)
theorem law_c7 (hd : 724 ≤ d) (hL : L ≤ 3072) (hi : i + 6 ≤ L) (h : LWc L w c W M) (K : ∀ W2 M2, LWc L w (c + 1) W2 M2 → Run (d + 1 + 1) mL_law 1513 (lsL i a b) [] M2 Q) : Run (d + 1 + 1) mL_law 498 (lsL i a b) [] M Q := by
  obtain ⟨hok, hX, hM, hl⟩ := id h
  have hS := hX.shp
  have hb := hl.row hS
  refine r_aload_n dL_law_498 rfl ?_
  refine law_arg dL_law_499 dL_law_500 dL_law_502 dL_law_503 dL_law_504 (by decide) hb (by omega) ?_
  refine law_arg dL_law_505 dL_law_506 dL_law_508 dL_law_509 dL_law_510 (by decide) hb (by omega) ?_
  refine r_invV_i dL_law_511 kM12_57 (by decide) (Nat.le_of_ble_eq_true rfl) (as := [vI (iv M 5 ((i : Int) + 1).toNat), vI (iv M 5 ((i : Int) + 2).toNat)]) (q := []) rfl rfl (Nat.le_of_ble_eq_true rfl) (Nat.le_of_ble_eq_true rfl) (sh_o hS kk6 (by decide)) ?_
  refine X_goes (by omega) hX hok  (fun M1 f1 x1 => ⟨_, rfl, ?_⟩)
  have hM1 := hM.fx f1
  have hS1 := hM1.shp
  have hb1 := (hl.fx f1).row hS1
  have e5 : iv M1 5 = iv M 5 := (f1.2.1 5 (Or.inl (by decide))).1
  refine r_aload_n dL_law_514 rfl ?_
  refine law_arg dL_law_515 dL_law_516 dL_law_518 dL_law_519 dL_law_520 (by decide) hb1 (by omega) ?_
  refine law_arg dL_law_521 dL_law_522 dL_law_524 dL_law_525 dL_law_526 (by decide) hb1 (by omega) ?_
  rw [e5]
  refine r_invV_i dL_law_527 kM12_60 (by decide) (Nat.le_of_ble_eq_true rfl) (as := [vI (iv M 5 ((i : Int) + 1).toNat), vI (iv M 5 ((i : Int) + 2).toNat)]) (q := [vI (aGoes W (iv M 5 ((i : Int) + 1).toNat) (iv M 5 ((i : Int) + 2).toNat))]) rfl rfl (Nat.le_of_ble_eq_true rfl) (Nat.le_of_ble_eq_true rfl) (sh_o hS1 kk468 (by decide)) ?_
  refine M_goes (by omega) hM1 hok  (fun M2 f2 m2 => ⟨_, rfl, ?_⟩)
  refine r_icmp_eq (tgt := 1513) dL_law_530 rfl (fun _ => ?_) (fun q => absurd rfl q)
  exact K _ M2 (h.step hok f1 x1 f2 m2)
theorem law_c8 (hd : 724 ≤ d) (hL : L ≤ 3072) (hi : i + 6 ≤ L) (h : LWc L w c W M) (K : ∀ W2 M2, LWc L w (c + 1) W2 M2 → Run (d + 1 + 1) mL_law 1513 (lsL i a b) [] M2 Q) : Run (d + 1 + 1) mL_law 535 (lsL i a b) [] M Q := by
  obtain ⟨hok, hX, hM, hl⟩ := id h
  have hS := hX.shp
  have hb := hl.row hS
  refine r_aload_n dL_law_535 rfl ?_
  refine law_arg dL_law_536 dL_law_537 dL_law_539 dL_law_540 dL_law_541 (by decide) hb (by omega) ?_
  refine r_invV_i dL_law_542 kM12_61 (by decide) (Nat.le_of_ble_eq_true rfl) (as := [vI (iv M 5 ((i : Int) + 1).toNat)]) (q := []) rfl rfl (Nat.le_of_ble_eq_true rfl) (Nat.le_of_ble_eq_true rfl) (sh_o hS kk6 (by decide)) ?_
  refine X_law (by omega) hX hok  (fun M1 f1 x1 => ⟨_, rfl, ?_⟩)
  have hM1 := hM.fx f1
  have hS1 := hM1.shp
  have hb1 := (hl.fx f1).row hS1
  have e5 : iv M1 5 = iv M 5 := (f1.2.1 5 (Or.inl (by decide))).1
  refine r_aload_n dL_law_545 rfl ?_
  refine law_arg dL_law_546 dL_law_547 dL_law_549 dL_law_550 dL_law_551 (by decide) hb1 (by omega) ?_
  rw [e5]
  refine r_invV_i dL_law_552 kM12_64 (by decide) (Nat.le_of_ble_eq_true rfl) (as := [vI (iv M 5 ((i : Int) + 1).toNat)]) (q := [vI ((wLaw W (iv M 5 ((i : Int) + 1).toNat)).1)]) rfl rfl (Nat.le_of_ble_eq_true rfl) (Nat.le_of_ble_eq_true rfl) (sh_o hS1 kk468 (by decide)) ?_
  refine M_law (by omega) hM1 hok  (fun M2 f2 m2 => ⟨_, rfl, ?_⟩)
  refine r_icmp_eq (tgt := 1513) dL_law_555 rfl (fun _ => ?_) (fun q => absurd rfl q)
  exact K _ M2 (h.step (okLaw hok) f1 x1 f2 m2)
theorem law_c9 (hd : 724 ≤ d) (hL : L ≤ 3072) (hi : i + 6 ≤ L) (h : LWc L w c W M) (K : ∀ W2 M2, LWc L w (c + 1) W2 M2 → Run (d + 1 + 1) mL_law 1513 (lsL i a b) [] M2 Q) : Run (d + 1 + 1) mL_law 560 (lsL i a b) [] M Q := by
  obtain ⟨hok, hX, hM, hl⟩ := id h
  have hS := hX.shp
  have hb := hl.row hS
  refine r_aload_n dL_law_560 rfl ?_
  refine law_arg dL_law_561 dL_law_562 dL_law_564 dL_law_565 dL_law_566 (by decide) hb (by omega) ?_
  refine r_invV_i dL_law_567 kM12_65 (by decide) (Nat.le_of_ble_eq_true rfl) (as := [vI (iv M 5 ((i : Int) + 1).toNat)]) (q := []) rfl rfl (Nat.le_of_ble_eq_true rfl) (Nat.le_of_ble_eq_true rfl) (sh_o hS kk6 (by decide)) ?_
  refine X_memory (by omega) hX hok  (fun M1 f1 x1 => ⟨_, rfl, ?_⟩)
  have hM1 := hM.fx f1
  have hS1 := hM1.shp
  have hb1 := (hl.fx f1).row hS1
  have e5 : iv M1 5 = iv M 5 := (f1.2.1 5 (Or.inl (by decide))).1
  refine r_aload_n dL_law_570 rfl ?_
  refine law_arg dL_law_571 dL_law_572 dL_law_574 dL_law_575 dL_law_576 (by decide) hb1 (by omega) ?_
  rw [e5]
  refine r_invV_i dL_law_577 kM12_68 (by decide) (Nat.le_of_ble_eq_true rfl) (as := [vI (iv M 5 ((i : Int) + 1).toNat)]) (q := [vI ((wMemory W (iv M 5 ((i : Int) + 1).toNat)).1)]) rfl rfl (Nat.le_of_ble_eq_true rfl) (Nat.le_of_ble_eq_true rfl) (sh_o hS1 kk468 (by decide)) ?_
  refine M_memory (by omega) hM1 hok  (fun M2 f2 m2 => ⟨_, rfl, ?_⟩)
  refine r_icmp_eq (tgt := 1513) dL_law_580 rfl (fun _ => ?_) (fun q => absurd rfl q)
  exact K _ M2 (h.step (okMemory hok) f1 x1 f2 m2)
theorem law_c10 (hd : 724 ≤ d) (hL : L ≤ 3072) (hi : i + 6 ≤ L) (h : LWc L w c W M) (K : ∀ W2 M2, LWc L w (c + 1) W2 M2 → Run (d + 1 + 1) mL_law 1513 (lsL i a b) [] M2 Q) : Run (d + 1 + 1) mL_law 585 (lsL i a b) [] M Q := by
  obtain ⟨hok, hX, hM, hl⟩ := id h
  have hS := hX.shp
  have hb := hl.row hS
  refine r_aload_n dL_law_585 rfl ?_
  refine law_arg dL_law_586 dL_law_587 dL_law_589 dL_law_590 dL_law_591 (by decide) hb (by omega) ?_
  refine r_invV_i dL_law_592 kM12_69 (by decide) (Nat.le_of_ble_eq_true rfl) (as := [vI (iv M 5 ((i : Int) + 1).toNat)]) (q := []) rfl rfl (Nat.le_of_ble_eq_true rfl) (Nat.le_of_ble_eq_true rfl) (sh_o hS kk6 (by decide)) ?_
  refine X_hours (by omega) hX hok  (fun M1 f1 x1 => ⟨_, rfl, ?_⟩)
  have hM1 := hM.fx f1
  have hS1 := hM1.shp
  have hb1 := (hl.fx f1).row hS1
  have e5 : iv M1 5 = iv M 5 := (f1.2.1 5 (Or.inl (by decide))).1
  refine r_aload_n dL_law_595 rfl ?_
  refine law_arg dL_law_596 dL_law_597 dL_law_599 dL_law_600 dL_law_601 (by decide) hb1 (by omega) ?_
  rw [e5]
  refine r_invV_i dL_law_602 kM12_72 (by decide) (Nat.le_of_ble_eq_true rfl) (as := [vI (iv M 5 ((i : Int) + 1).toNat)]) (q := [vI ((wHours W (iv M 5 ((i : Int) + 1).toNat)).1)]) rfl rfl (Nat.le_of_ble_eq_true rfl) (Nat.le_of_ble_eq_true rfl) (sh_o hS1 kk468 (by decide)) ?_
  refine M_hours (by omega) hM1 hok  (fun M2 f2 m2 => ⟨_, rfl, ?_⟩)
  refine r_icmp_eq (tgt := 1513) dL_law_605 rfl (fun _ => ?_) (fun q => absurd rfl q)
  exact K _ M2 (h.step (okHours hok) f1 x1 f2 m2)
theorem law_c11 (hd : 724 ≤ d) (hL : L ≤ 3072) (hi : i + 6 ≤ L) (h : LWc L w c W M) (K : ∀ W2 M2, LWc L w (c + 1) W2 M2 → Run (d + 1 + 1) mL_law 1513 (lsL i a b) [] M2 Q) : Run (d + 1 + 1) mL_law 610 (lsL i a b) [] M Q := by
  obtain ⟨hok, hX, hM, hl⟩ := id h
  have hS := hX.shp
  have hb := hl.row hS
  refine r_aload_n dL_law_610 rfl ?_
  refine law_arg dL_law_611 dL_law_612 dL_law_614 dL_law_615 dL_law_616 (by decide) hb (by omega) ?_
  refine law_arg dL_law_617 dL_law_618 dL_law_620 dL_law_621 dL_law_622 (by decide) hb (by omega) ?_
  refine law_arg dL_law_623 dL_law_624 dL_law_626 dL_law_627 dL_law_628 (by decide) hb (by omega) ?_
  refine law_arg dL_law_629 dL_law_630 dL_law_632 dL_law_633 dL_law_634 (by decide) hb (by omega) ?_
  refine r_invV_i dL_law_635 kM12_73 (by decide) (Nat.le_of_ble_eq_true rfl) (as := [vI (iv M 5 ((i : Int) + 1).toNat), vI (iv M 5 ((i : Int) + 2).toNat), vI (iv M 5 ((i : Int) + 3).toNat), vI (iv M 5 ((i : Int) + 4).toNat)]) (q := []) rfl rfl (Nat.le_of_ble_eq_true rfl) (Nat.le_of_ble_eq_true rfl) (sh_o hS kk6 (by decide)) ?_
  refine X_think (by omega) hX hok  (fun M1 f1 x1 => ⟨_, rfl, ?_⟩)
  have hM1 := hM.fx f1
  have hS1 := hM1.shp
  have hb1 := (hl.fx f1).row hS1
  have e5 : iv M1 5 = iv M 5 := (f1.2.1 5 (Or.inl (by decide))).1
  refine r_aload_n dL_law_638 rfl ?_
  refine law_arg dL_law_639 dL_law_640 dL_law_642 dL_law_643 dL_law_644 (by decide) hb1 (by omega) ?_
  refine law_arg dL_law_645 dL_law_646 dL_law_648 dL_law_649 dL_law_650 (by decide) hb1 (by omega) ?_
  refine law_arg dL_law_651 dL_law_652 dL_law_654 dL_law_655 dL_law_656 (by decide) hb1 (by omega) ?_
  refine law_arg dL_law_657 dL_law_658 dL_law_660 dL_law_661 dL_law_662 (by decide) hb1 (by omega) ?_
  rw [e5]
  refine r_invV_i dL_law_663 kM12_77 (by decide) (Nat.le_of_ble_eq_true rfl) (as := [vI (iv M 5 ((i : Int) + 1).toNat), vI (iv M 5 ((i : Int) + 2).toNat), vI (iv M 5 ((i : Int) + 3).toNat), vI (iv M 5 ((i : Int) + 4).toNat)]) (q := [vI ((wThink W (iv M 5 ((i : Int) + 1).toNat) (iv M 5 ((i : Int) + 2).toNat) (iv M 5 ((i : Int) + 3).toNat) (iv M 5 ((i : Int) + 4).toNat)).1)]) rfl rfl (Nat.le_of_ble_eq_true rfl) (Nat.le_of_ble_eq_true rfl) (sh_o hS1 kk468 (by decide)) ?_
  refine M_think (by omega) hM1 hok  (fun M2 f2 m2 => ⟨_, rfl, ?_⟩)
  refine r_icmp_eq (tgt := 1513) dL_law_666 rfl (fun _ => ?_) (fun q => absurd rfl q)
  exact K _ M2 (h.step (okThink hok) f1 x1 f2 m2)
theorem law_c12 (hd : 724 ≤ d) (hL : L ≤ 3072) (hi : i + 6 ≤ L) (h : LWc L w c W M) (K : ∀ W2 M2, LWc L w (c + 1) W2 M2 → Run (d + 1 + 1) mL_law 1513 (lsL i a b) [] M2 Q) : Run (d + 1 + 1) mL_law 671 (lsL i a b) [] M Q := by
  obtain ⟨hok, hX, hM, hl⟩ := id h
  have hS := hX.shp
  have hb := hl.row hS
  refine r_aload_n dL_law_671 rfl ?_
  refine law_arg dL_law_672 dL_law_673 dL_law_675 dL_law_676 dL_law_677 (by decide) hb (by omega) ?_
  refine law_arg dL_law_678 dL_law_679 dL_law_681 dL_law_682 dL_law_683 (by decide) hb (by omega) ?_
  refine r_invV_i dL_law_684 kM12_78 (by decide) (Nat.le_of_ble_eq_true rfl) (as := [vI (iv M 5 ((i : Int) + 1).toNat), vI (iv M 5 ((i : Int) + 2).toNat)]) (q := []) rfl rfl (Nat.le_of_ble_eq_true rfl) (Nat.le_of_ble_eq_true rfl) (sh_o hS kk6 (by decide)) ?_
  refine X_forget (by omega) hX hok  (fun M1 f1 x1 => ⟨_, rfl, ?_⟩)
  have hM1 := hM.fx f1
  have hS1 := hM1.shp
  have hb1 := (hl.fx f1).row hS1
  have e5 : iv M1 5 = iv M 5 := (f1.2.1 5 (Or.inl (by decide))).1
  refine r_aload_n dL_law_687 rfl ?_
  refine law_arg dL_law_688 dL_law_689 dL_law_691 dL_law_692 dL_law_693 (by decide) hb1 (by omega) ?_
  refine law_arg dL_law_694 dL_law_695 dL_law_697 dL_law_698 dL_law_699 (by decide) hb1 (by omega) ?_
  rw [e5]
  refine r_invV_i dL_law_700 kM12_81 (by decide) (Nat.le_of_ble_eq_true rfl) (as := [vI (iv M 5 ((i : Int) + 1).toNat), vI (iv M 5 ((i : Int) + 2).toNat)]) (q := [vI ((wForget W (iv M 5 ((i : Int) + 1).toNat) (iv M 5 ((i : Int) + 2).toNat)).1)]) rfl rfl (Nat.le_of_ble_eq_true rfl) (Nat.le_of_ble_eq_true rfl) (sh_o hS1 kk468 (by decide)) ?_
  refine M_forget (by omega) hM1 hok  (fun M2 f2 m2 => ⟨_, rfl, ?_⟩)
  refine r_icmp_eq (tgt := 1513) dL_law_703 rfl (fun _ => ?_) (fun q => absurd rfl q)
  exact K _ M2 (h.step (okForget hok) f1 x1 f2 m2)
theorem law_c13 (hd : 724 ≤ d) (hL : L ≤ 3072) (hi : i + 6 ≤ L) (h : LWc L w c W M) (K : ∀ W2 M2, LWc L w (c + 1) W2 M2 → Run (d + 1 + 1) mL_law 1513 (lsL i a b) [] M2 Q) : Run (d + 1 + 1) mL_law 708 (lsL i a b) [] M Q := by
  obtain ⟨hok, hX, hM, hl⟩ := id h
  have hS := hX.shp
  have hb := hl.row hS
  refine r_aload_n dL_law_708 rfl ?_
  refine law_arg dL_law_709 dL_law_710 dL_law_712 dL_law_713 dL_law_714 (by decide) hb (by omega) ?_
  refine law_arg dL_law_715 dL_law_716 dL_law_718 dL_law_719 dL_law_720 (by decide) hb (by omega) ?_
  refine r_invV_i dL_law_721 kM12_82 (by decide) (Nat.le_of_ble_eq_true rfl) (as := [vI (iv M 5 ((i : Int) + 1).toNat), vI (iv M 5 ((i : Int) + 2).toNat)]) (q := []) rfl rfl (Nat.le_of_ble_eq_true rfl) (Nat.le_of_ble_eq_true rfl) (sh_o hS kk6 (by decide)) ?_
  refine X_hem (by omega) hX hok  (fun M1 f1 x1 => ⟨_, rfl, ?_⟩)
  have hM1 := hM.fx f1
  have hS1 := hM1.shp
  have hb1 := (hl.fx f1).row hS1
  have e5 : iv M1 5 = iv M 5 := (f1.2.1 5 (Or.inl (by decide))).1
  refine r_aload_n dL_law_724 rfl ?_
  refine law_arg dL_law_725 dL_law_726 dL_law_728 dL_law_729 dL_law_730 (by decide) hb1 (by omega) ?_
  refine law_arg dL_law_731 dL_law_732 dL_law_734 dL_law_735 dL_law_736 (by decide) hb1 (by omega) ?_
  rw [e5]
  refine r_invV_i dL_law_737 kM12_85 (by decide) (Nat.le_of_ble_eq_true rfl) (as := [vI (iv M 5 ((i : Int) + 1).toNat), vI (iv M 5 ((i : Int) + 2).toNat)]) (q := [vI ((wHem W (iv M 5 ((i : Int) + 1).toNat) (iv M 5 ((i : Int) + 2).toNat)).1)]) rfl rfl (Nat.le_of_ble_eq_true rfl) (Nat.le_of_ble_eq_true rfl) (sh_o hS1 kk468 (by decide)) ?_
  refine M_hem (by omega) hM1 hok  (fun M2 f2 m2 => ⟨_, rfl, ?_⟩)
  refine r_icmp_eq (tgt := 1513) dL_law_740 rfl (fun _ => ?_) (fun q => absurd rfl q)
  exact K _ M2 (h.step (okHem hok) f1 x1 f2 m2)
theorem law_c14 (hd : 724 ≤ d) (hL : L ≤ 3072) (hi : i + 6 ≤ L) (h : LWc L w c W M) (K : ∀ W2 M2, LWc L w (c + 1) W2 M2 → Run (d + 1 + 1) mL_law 1513 (lsL i a b) [] M2 Q) : Run (d + 1 + 1) mL_law 745 (lsL i a b) [] M Q := by
  obtain ⟨hok, hX, hM, hl⟩ := id h
  have hS := hX.shp
  have hb := hl.row hS
  refine r_aload_n dL_law_745 rfl ?_
  refine law_arg dL_law_746 dL_law_747 dL_law_749 dL_law_750 dL_law_751 (by decide) hb (by omega) ?_
  refine r_invV_i dL_law_752 kM12_86 (by decide) (Nat.le_of_ble_eq_true rfl) (as := [vI (iv M 5 ((i : Int) + 1).toNat)]) (q := []) rfl rfl (Nat.le_of_ble_eq_true rfl) (Nat.le_of_ble_eq_true rfl) (sh_o hS kk6 (by decide)) ?_
  refine X_wind (by omega) hX hok  (fun M1 f1 x1 => ⟨_, rfl, ?_⟩)
  have hM1 := hM.fx f1
  have hS1 := hM1.shp
  have hb1 := (hl.fx f1).row hS1
  have e5 : iv M1 5 = iv M 5 := (f1.2.1 5 (Or.inl (by decide))).1
  refine r_aload_n dL_law_755 rfl ?_
  refine law_arg dL_law_756 dL_law_757 dL_law_759 dL_law_760 dL_law_761 (by decide) hb1 (by omega) ?_
  rw [e5]
  refine r_invV_i dL_law_762 kM12_89 (by decide) (Nat.le_of_ble_eq_true rfl) (as := [vI (iv M 5 ((i : Int) + 1).toNat)]) (q := [vI ((wWind W (iv M 5 ((i : Int) + 1).toNat)).1)]) rfl rfl (Nat.le_of_ble_eq_true rfl) (Nat.le_of_ble_eq_true rfl) (sh_o hS1 kk468 (by decide)) ?_
  refine M_wind (by omega) hM1 hok  (fun M2 f2 m2 => ⟨_, rfl, ?_⟩)
  refine r_icmp_eq (tgt := 1513) dL_law_765 rfl (fun _ => ?_) (fun q => absurd rfl q)
  exact K _ M2 (h.step (okWind hok) f1 x1 f2 m2)
theorem law_c15 (hd : 724 ≤ d) (hL : L ≤ 3072) (hi : i + 6 ≤ L) (h : LWc L w c W M) (K : ∀ W2 M2, LWc L w (c + 1) W2 M2 → Run (d + 1 + 1) mL_law 1513 (lsL i a b) [] M2 Q) : Run (d + 1 + 1) mL_law 770 (lsL i a b) [] M Q := by
  obtain ⟨hok, hX, hM, hl⟩ := id h
  have hS := hX.shp
  have hb := hl.row hS
  refine r_aload_n dL_law_770 rfl ?_
  refine law_arg dL_law_771 dL_law_772 dL_law_774 dL_law_775 dL_law_776 (by decide) hb (by omega) ?_
  refine r_invV_i dL_law_777 kM12_90 (by decide) (Nat.le_of_ble_eq_true rfl) (as := [vI (iv M 5 ((i : Int) + 1).toNat)]) (q := []) rfl rfl (Nat.le_of_ble_eq_true rfl) (Nat.le_of_ble_eq_true rfl) (sh_o hS kk6 (by decide)) ?_
  refine X_give (by omega) hX hok  (fun M1 f1 x1 => ⟨_, rfl, ?_⟩)
  have hM1 := hM.fx f1
  have hS1 := hM1.shp
  have hb1 := (hl.fx f1).row hS1
  have e5 : iv M1 5 = iv M 5 := (f1.2.1 5 (Or.inl (by decide))).1
  refine r_aload_n dL_law_780 rfl ?_
  refine law_arg dL_law_781 dL_law_782 dL_law_784 dL_law_785 dL_law_786 (by decide) hb1 (by omega) ?_
  rw [e5]
  refine r_invV_i dL_law_787 kM12_93 (by decide) (Nat.le_of_ble_eq_true rfl) (as := [vI (iv M 5 ((i : Int) + 1).toNat)]) (q := [vI ((wGive W (iv M 5 ((i : Int) + 1).toNat)).1)]) rfl rfl (Nat.le_of_ble_eq_true rfl) (Nat.le_of_ble_eq_true rfl) (sh_o hS1 kk468 (by decide)) ?_
  refine M_give (by omega) hM1 hok  (fun M2 f2 m2 => ⟨_, rfl, ?_⟩)
  refine r_icmp_eq (tgt := 1513) dL_law_790 rfl (fun _ => ?_) (fun q => absurd rfl q)
  exact K _ M2 (h.step (okGive hok) f1 x1 f2 m2)
theorem law_c16 (hd : 724 ≤ d) (hL : L ≤ 3072) (hi : i + 6 ≤ L) (h : LWc L w c W M) (K : ∀ W2 M2, LWc L w (c + 1) W2 M2 → Run (d + 1 + 1) mL_law 1513 (lsL i a b) [] M2 Q) : Run (d + 1 + 1) mL_law 795 (lsL i a b) [] M Q := by
  obtain ⟨hok, hX, hM, hl⟩ := id h
  have hS := hX.shp
  have hb := hl.row hS
  refine r_aload_n dL_law_795 rfl ?_
  refine law_arg dL_law_796 dL_law_797 dL_law_799 dL_law_800 dL_law_801 (by decide) hb (by omega) ?_
  refine law_arg dL_law_802 dL_law_803 dL_law_805 dL_law_806 dL_law_807 (by decide) hb (by omega) ?_
  refine r_i2l dL_law_808 ?_
  refine r_bipush dL_law_809 (by decide) ?_
  refine r_lshl dL_law_811 ?_
  refine law_arg dL_law_812 dL_law_813 dL_law_815 dL_law_816 dL_law_817 (by decide) hb (by omega) ?_
  refine r_i2l dL_law_818 ?_
  refine r_ldc2 dL_law_819 kL12_94 ?_
  refine r_land dL_law_822 ?_
  refine r_lor dL_law_823 ?_
  refine r_invV_i dL_law_824 kM12_96 (by decide) (Nat.le_of_ble_eq_true rfl) (as := [vI (iv M 5 ((i : Int) + 1).toNat), vL (jorL (jshlL (iv M 5 ((i : Int) + 2).toNat) 32) (jandL (iv M 5 ((i : Int) + 3).toNat) 4294967295))]) (q := []) rfl rfl (Nat.le_of_ble_eq_true rfl) (Nat.le_of_ble_eq_true rfl) (sh_o hS kk6 (by decide)) ?_
  refine X_years (by omega) hX hok  (fun M1 f1 x1 => ⟨_, rfl, ?_⟩)
  have hM1 := hM.fx f1
  have hS1 := hM1.shp
  have hb1 := (hl.fx f1).row hS1
  have e5 : iv M1 5 = iv M 5 := (f1.2.1 5 (Or.inl (by decide))).1
  refine r_aload_n dL_law_827 rfl ?_
  refine law_arg dL_law_828 dL_law_829 dL_law_831 dL_law_832 dL_law_833 (by decide) hb1 (by omega) ?_
  refine law_arg dL_law_834 dL_law_835 dL_law_837 dL_law_838 dL_law_839 (by decide) hb1 (by omega) ?_
  refine r_i2l dL_law_840 ?_
  refine r_bipush dL_law_841 (by decide) ?_
  refine r_lshl dL_law_843 ?_
  refine law_arg dL_law_844 dL_law_845 dL_law_847 dL_law_848 dL_law_849 (by decide) hb1 (by omega) ?_
  refine r_i2l dL_law_850 ?_
  refine r_ldc2 dL_law_851 kL12_94 ?_
  refine r_land dL_law_854 ?_
  refine r_lor dL_law_855 ?_
  rw [e5]
  refine r_invV_i dL_law_856 kM12_100 (by decide) (Nat.le_of_ble_eq_true rfl) (as := [vI (iv M 5 ((i : Int) + 1).toNat), vL (jorL (jshlL (iv M 5 ((i : Int) + 2).toNat) 32) (jandL (iv M 5 ((i : Int) + 3).toNat) 4294967295))]) (q := [vI ((wYears W (iv M 5 ((i : Int) + 1).toNat) (jorL (jshlL (iv M 5 ((i : Int) + 2).toNat) 32) (jandL (iv M 5 ((i : Int) + 3).toNat) 4294967295))).1)]) rfl rfl (Nat.le_of_ble_eq_true rfl) (Nat.le_of_ble_eq_true rfl) (sh_o hS1 kk468 (by decide)) ?_
  refine M_years (by omega) hM1 hok  (fun M2 f2 m2 => ⟨_, rfl, ?_⟩)
  refine r_icmp_eq (tgt := 1513) dL_law_859 rfl (fun _ => ?_) (fun q => absurd rfl q)
  exact K _ M2 (h.step (okYears hok) f1 x1 f2 m2)
theorem law_c17 (hd : 724 ≤ d) (hL : L ≤ 3072) (hi : i + 6 ≤ L) (h : LWc L w c W M) (K : ∀ W2 M2, LWc L w (c + 1) W2 M2 → Run (d + 1 + 1) mL_law 1513 (lsL i a b) [] M2 Q) : Run (d + 1 + 1) mL_law 864 (lsL i a b) [] M Q := by
  obtain ⟨hok, hX, hM, hl⟩ := id h
  have hS := hX.shp
  have hb := hl.row hS
  refine r_aload_n dL_law_864 rfl ?_
  refine law_arg dL_law_865 dL_law_866 dL_law_868 dL_law_869 dL_law_870 (by decide) hb (by omega) ?_
  refine r_invV_i dL_law_871 kM12_101 (by decide) (Nat.le_of_ble_eq_true rfl) (as := [vI (iv M 5 ((i : Int) + 1).toNat)]) (q := []) rfl rfl (Nat.le_of_ble_eq_true rfl) (Nat.le_of_ble_eq_true rfl) (sh_o hS kk6 (by decide)) ?_
  refine X_status (by omega) hX hok  (fun M1 f1 x1 => ⟨_, rfl, ?_⟩)
  have hM1 := hM.fx f1
  have hS1 := hM1.shp
  have hb1 := (hl.fx f1).row hS1
  have e5 : iv M1 5 = iv M 5 := (f1.2.1 5 (Or.inl (by decide))).1
  refine r_aload_n dL_law_874 rfl ?_
  refine law_arg dL_law_875 dL_law_876 dL_law_878 dL_law_879 dL_law_880 (by decide) hb1 (by omega) ?_
  rw [e5]
  refine r_invV_i dL_law_881 kM12_104 (by decide) (Nat.le_of_ble_eq_true rfl) (as := [vI (iv M 5 ((i : Int) + 1).toNat)]) (q := [vI (aStatus W (iv M 5 ((i : Int) + 1).toNat))]) rfl rfl (Nat.le_of_ble_eq_true rfl) (Nat.le_of_ble_eq_true rfl) (sh_o hS1 kk468 (by decide)) ?_
  refine M_status (by omega) hM1 hok  (fun M2 f2 m2 => ⟨_, rfl, ?_⟩)
  refine r_icmp_eq (tgt := 1513) dL_law_884 rfl (fun _ => ?_) (fun q => absurd rfl q)
  exact K _ M2 (h.step hok f1 x1 f2 m2)
theorem law_c18 (hd : 724 ≤ d) (hL : L ≤ 3072) (hi : i + 6 ≤ L) (h : LWc L w c W M) (K : ∀ W2 M2, LWc L w (c + 1) W2 M2 → Run (d + 1 + 1) mL_law 1513 (lsL i a b) [] M2 Q) : Run (d + 1 + 1) mL_law 889 (lsL i a b) [] M Q := by
  obtain ⟨hok, hX, hM, hl⟩ := id h
  have hS := hX.shp
  have hb := hl.row hS
  refine r_aload_n dL_law_889 rfl ?_
  refine r_invV_i dL_law_890 kM12_105 (by decide) (Nat.le_of_ble_eq_true rfl) (as := []) (q := []) rfl rfl (Nat.le_of_ble_eq_true rfl) (Nat.le_of_ble_eq_true rfl) (sh_o hS kk6 (by decide)) ?_
  refine X_undo (by omega) hX hok  (fun M1 f1 x1 => ⟨_, rfl, ?_⟩)
  have hM1 := hM.fx f1
  have hS1 := hM1.shp
  have hb1 := (hl.fx f1).row hS1
  have e5 : iv M1 5 = iv M 5 := (f1.2.1 5 (Or.inl (by decide))).1
  refine r_aload_n dL_law_893 rfl ?_
  refine r_invV_i dL_law_894 kM12_108 (by decide) (Nat.le_of_ble_eq_true rfl) (as := []) (q := [vI ((wUndo W ).1)]) rfl rfl (Nat.le_of_ble_eq_true rfl) (Nat.le_of_ble_eq_true rfl) (sh_o hS1 kk468 (by decide)) ?_
  refine M_undo (by omega) hM1 hok  (fun M2 f2 m2 => ⟨_, rfl, ?_⟩)
  refine r_icmp_eq (tgt := 1513) dL_law_897 rfl (fun _ => ?_) (fun q => absurd rfl q)
  exact K _ M2 (h.step (okUndo hok) f1 x1 f2 m2)
theorem law_c19 (hd : 724 ≤ d) (hL : L ≤ 3072) (hi : i + 6 ≤ L) (h : LWc L w c W M) (K : ∀ W2 M2, LWc L w (c + 1) W2 M2 → Run (d + 1 + 1) mL_law 1513 (lsL i a b) [] M2 Q) : Run (d + 1 + 1) mL_law 902 (lsL i a b) [] M Q := by
  obtain ⟨hok, hX, hM, hl⟩ := id h
  have hS := hX.shp
  have hb := hl.row hS
  refine r_aload_n dL_law_902 rfl ?_
  refine law_arg dL_law_903 dL_law_904 dL_law_906 dL_law_907 dL_law_908 (by decide) hb (by omega) ?_
  refine law_arg dL_law_909 dL_law_910 dL_law_912 dL_law_913 dL_law_914 (by decide) hb (by omega) ?_
  refine r_invV_i dL_law_915 kM12_109 (by decide) (Nat.le_of_ble_eq_true rfl) (as := [vI (iv M 5 ((i : Int) + 1).toNat), vI (iv M 5 ((i : Int) + 2).toNat)]) (q := []) rfl rfl (Nat.le_of_ble_eq_true rfl) (Nat.le_of_ble_eq_true rfl) (sh_o hS kk6 (by decide)) ?_
  refine X_log (by omega) hX hok  (fun M1 f1 x1 => ⟨_, rfl, ?_⟩)
  have hM1 := hM.fx f1
  have hS1 := hM1.shp
  have hb1 := (hl.fx f1).row hS1
  have e5 : iv M1 5 = iv M 5 := (f1.2.1 5 (Or.inl (by decide))).1
  refine r_aload_n dL_law_918 rfl ?_
  refine law_arg dL_law_919 dL_law_920 dL_law_922 dL_law_923 dL_law_924 (by decide) hb1 (by omega) ?_
  refine law_arg dL_law_925 dL_law_926 dL_law_928 dL_law_929 dL_law_930 (by decide) hb1 (by omega) ?_
  rw [e5]
  refine r_invV_i dL_law_931 kM12_112 (by decide) (Nat.le_of_ble_eq_true rfl) (as := [vI (iv M 5 ((i : Int) + 1).toNat), vI (iv M 5 ((i : Int) + 2).toNat)]) (q := [vI (aLog W (iv M 5 ((i : Int) + 1).toNat) (iv M 5 ((i : Int) + 2).toNat))]) rfl rfl (Nat.le_of_ble_eq_true rfl) (Nat.le_of_ble_eq_true rfl) (sh_o hS1 kk468 (by decide)) ?_
  refine M_log (by omega) hM1 hok  (fun M2 f2 m2 => ⟨_, rfl, ?_⟩)
  refine r_icmp_eq (tgt := 1513) dL_law_934 rfl (fun _ => ?_) (fun q => absurd rfl q)
  exact K _ M2 (h.step hok f1 x1 f2 m2)
theorem law_c20 (hd : 724 ≤ d) (hL : L ≤ 3072) (hi : i + 6 ≤ L) (h : LWc L w c W M) (K : ∀ W2 M2, LWc L w (c + 1) W2 M2 → Run (d + 1 + 1) mL_law 1513 (lsL i a b) [] M2 Q) : Run (d + 1 + 1) mL_law 939 (lsL i a b) [] M Q := by
  obtain ⟨hok, hX, hM, hl⟩ := id h
  have hS := hX.shp
  have hb := hl.row hS
  refine r_aload_n dL_law_939 rfl ?_
  refine law_arg dL_law_940 dL_law_941 dL_law_943 dL_law_944 dL_law_945 (by decide) hb (by omega) ?_
  refine law_arg dL_law_946 dL_law_947 dL_law_949 dL_law_950 dL_law_951 (by decide) hb (by omega) ?_
  refine r_invV_i dL_law_952 kM12_113 (by decide) (Nat.le_of_ble_eq_true rfl) (as := [vI (iv M 5 ((i : Int) + 1).toNat), vI (iv M 5 ((i : Int) + 2).toNat)]) (q := []) rfl rfl (Nat.le_of_ble_eq_true rfl) (Nat.le_of_ble_eq_true rfl) (sh_o hS kk6 (by decide)) ?_
  refine X_behind (by omega) hX hok  (fun M1 f1 x1 => ⟨_, rfl, ?_⟩)
  have hM1 := hM.fx f1
  have hS1 := hM1.shp
  have hb1 := (hl.fx f1).row hS1
  have e5 : iv M1 5 = iv M 5 := (f1.2.1 5 (Or.inl (by decide))).1
  refine r_aload_n dL_law_955 rfl ?_
  refine law_arg dL_law_956 dL_law_957 dL_law_959 dL_law_960 dL_law_961 (by decide) hb1 (by omega) ?_
  refine law_arg dL_law_962 dL_law_963 dL_law_965 dL_law_966 dL_law_967 (by decide) hb1 (by omega) ?_
  rw [e5]
  refine r_invV_i dL_law_968 kM12_116 (by decide) (Nat.le_of_ble_eq_true rfl) (as := [vI (iv M 5 ((i : Int) + 1).toNat), vI (iv M 5 ((i : Int) + 2).toNat)]) (q := [vI (aBehind W (iv M 5 ((i : Int) + 1).toNat) (iv M 5 ((i : Int) + 2).toNat))]) rfl rfl (Nat.le_of_ble_eq_true rfl) (Nat.le_of_ble_eq_true rfl) (sh_o hS1 kk468 (by decide)) ?_
  refine M_behind (by omega) hM1 hok  (fun M2 f2 m2 => ⟨_, rfl, ?_⟩)
  refine r_icmp_eq (tgt := 1513) dL_law_971 rfl (fun _ => ?_) (fun q => absurd rfl q)
  exact K _ M2 (h.step hok f1 x1 f2 m2)
theorem law_c21 (hd : 724 ≤ d) (hL : L ≤ 3072) (hi : i + 6 ≤ L) (h : LWc L w c W M) (K : ∀ W2 M2, LWc L w (c + 1) W2 M2 → Run (d + 1 + 1) mL_law 1513 (lsL i a b) [] M2 Q) : Run (d + 1 + 1) mL_law 976 (lsL i a b) [] M Q := by
  obtain ⟨hok, hX, hM, hl⟩ := id h
  have hS := hX.shp
  have hb := hl.row hS
  refine r_aload_n dL_law_976 rfl ?_
  refine law_arg dL_law_977 dL_law_978 dL_law_980 dL_law_981 dL_law_982 (by decide) hb (by omega) ?_
  refine r_invV_i dL_law_983 kM12_117 (by decide) (Nat.le_of_ble_eq_true rfl) (as := [vI (iv M 5 ((i : Int) + 1).toNat)]) (q := []) rfl rfl (Nat.le_of_ble_eq_true rfl) (Nat.le_of_ble_eq_true rfl) (sh_o hS kk6 (by decide)) ?_
  refine X_floatsIn (by omega) hX hok  (fun M1 f1 x1 => ⟨_, rfl, ?_⟩)
  have hM1 := hM.fx f1
  have hS1 := hM1.shp
  have hb1 := (hl.fx f1).row hS1
  have e5 : iv M1 5 = iv M 5 := (f1.2.1 5 (Or.inl (by decide))).1
  refine r_aload_n dL_law_986 rfl ?_
  refine law_arg dL_law_987 dL_law_988 dL_law_990 dL_law_991 dL_law_992 (by decide) hb1 (by omega) ?_
  rw [e5]
  refine r_invV_i dL_law_993 kM12_120 (by decide) (Nat.le_of_ble_eq_true rfl) (as := [vI (iv M 5 ((i : Int) + 1).toNat)]) (q := [vI (aFloatsIn W (iv M 5 ((i : Int) + 1).toNat))]) rfl rfl (Nat.le_of_ble_eq_true rfl) (Nat.le_of_ble_eq_true rfl) (sh_o hS1 kk468 (by decide)) ?_
  refine M_floatsIn (by omega) hM1 hok  (fun M2 f2 m2 => ⟨_, rfl, ?_⟩)
  refine r_icmp_eq (tgt := 1513) dL_law_996 rfl (fun _ => ?_) (fun q => absurd rfl q)
  exact K _ M2 (h.step hok f1 x1 f2 m2)
theorem law_c22 (hd : 724 ≤ d) (hL : L ≤ 3072) (hi : i + 6 ≤ L) (h : LWc L w c W M) (K : ∀ W2 M2, LWc L w (c + 1) W2 M2 → Run (d + 1 + 1) mL_law 1513 (lsL i a b) [] M2 Q) : Run (d + 1 + 1) mL_law 1001 (lsL i a b) [] M Q := by
  obtain ⟨hok, hX, hM, hl⟩ := id h
  have hS := hX.shp
  have hb := hl.row hS
  refine r_aload_n dL_law_1001 rfl ?_
  refine law_arg dL_law_1002 dL_law_1003 dL_law_1005 dL_law_1006 dL_law_1007 (by decide) hb (by omega) ?_
  refine r_invV_i dL_law_1008 kM12_121 (by decide) (Nat.le_of_ble_eq_true rfl) (as := [vI (iv M 5 ((i : Int) + 1).toNat)]) (q := []) rfl rfl (Nat.le_of_ble_eq_true rfl) (Nat.le_of_ble_eq_true rfl) (sh_o hS kk6 (by decide)) ?_
  refine X_load (by omega) hX hok  (fun M1 f1 x1 => ⟨_, rfl, ?_⟩)
  have hM1 := hM.fx f1
  have hS1 := hM1.shp
  have hb1 := (hl.fx f1).row hS1
  have e5 : iv M1 5 = iv M 5 := (f1.2.1 5 (Or.inl (by decide))).1
  refine r_aload_n dL_law_1011 rfl ?_
  refine law_arg dL_law_1012 dL_law_1013 dL_law_1015 dL_law_1016 dL_law_1017 (by decide) hb1 (by omega) ?_
  rw [e5]
  refine r_invV_i dL_law_1018 kM12_124 (by decide) (Nat.le_of_ble_eq_true rfl) (as := [vI (iv M 5 ((i : Int) + 1).toNat)]) (q := [vI (aLoad W (iv M 5 ((i : Int) + 1).toNat))]) rfl rfl (Nat.le_of_ble_eq_true rfl) (Nat.le_of_ble_eq_true rfl) (sh_o hS1 kk468 (by decide)) ?_
  refine M_load (by omega) hM1 hok  (fun M2 f2 m2 => ⟨_, rfl, ?_⟩)
  refine r_icmp_eq (tgt := 1513) dL_law_1021 rfl (fun _ => ?_) (fun q => absurd rfl q)
  exact K _ M2 (h.step hok f1 x1 f2 m2)
theorem law_c23 (hd : 724 ≤ d) (hL : L ≤ 3072) (hi : i + 6 ≤ L) (h : LWc L w c W M) (K : ∀ W2 M2, LWc L w (c + 1) W2 M2 → Run (d + 1 + 1) mL_law 1513 (lsL i a b) [] M2 Q) : Run (d + 1 + 1) mL_law 1026 (lsL i a b) [] M Q := by
  obtain ⟨hok, hX, hM, hl⟩ := id h
  have hS := hX.shp
  have hb := hl.row hS
  refine r_aload_n dL_law_1026 rfl ?_
  refine r_invV_i dL_law_1027 kM12_125 (by decide) (Nat.le_of_ble_eq_true rfl) (as := []) (q := []) rfl rfl (Nat.le_of_ble_eq_true rfl) (Nat.le_of_ble_eq_true rfl) (sh_o hS kk6 (by decide)) ?_
  refine X_together (by omega) hX hok  (fun M1 f1 x1 => ⟨_, rfl, ?_⟩)
  have hM1 := hM.fx f1
  have hS1 := hM1.shp
  have hb1 := (hl.fx f1).row hS1
  have e5 : iv M1 5 = iv M 5 := (f1.2.1 5 (Or.inl (by decide))).1
  refine r_aload_n dL_law_1030 rfl ?_
  refine r_invV_i dL_law_1031 kM12_128 (by decide) (Nat.le_of_ble_eq_true rfl) (as := []) (q := [vI (aTog W )]) rfl rfl (Nat.le_of_ble_eq_true rfl) (Nat.le_of_ble_eq_true rfl) (sh_o hS1 kk468 (by decide)) ?_
  refine M_together (by omega) hM1 hok  (fun M2 f2 m2 => ⟨_, rfl, ?_⟩)
  refine r_icmp_eq (tgt := 1513) dL_law_1034 rfl (fun _ => ?_) (fun q => absurd rfl q)
  exact K _ M2 (h.step hok f1 x1 f2 m2)
theorem law_c24 (hd : 724 ≤ d) (hL : L ≤ 3072) (hi : i + 6 ≤ L) (h : LWc L w c W M) (K : ∀ W2 M2, LWc L w (c + 1) W2 M2 → Run (d + 1 + 1) mL_law 1513 (lsL i a b) [] M2 Q) : Run (d + 1 + 1) mL_law 1039 (lsL i a b) [] M Q := by
  obtain ⟨hok, hX, hM, hl⟩ := id h
  have hS := hX.shp
  have hb := hl.row hS
  refine r_aload_n dL_law_1039 rfl ?_
  refine r_invV_i dL_law_1040 kM12_129 (by decide) (Nat.le_of_ble_eq_true rfl) (as := []) (q := []) rfl rfl (Nat.le_of_ble_eq_true rfl) (Nat.le_of_ble_eq_true rfl) (sh_o hS kk6 (by decide)) ?_
  refine X_goings (by omega) hX hok  (fun M1 f1 x1 => ⟨_, rfl, ?_⟩)
  have hM1 := hM.fx f1
  have hS1 := hM1.shp
  have hb1 := (hl.fx f1).row hS1
  have e5 : iv M1 5 = iv M 5 := (f1.2.1 5 (Or.inl (by decide))).1
  refine r_aload_n dL_law_1043 rfl ?_
  refine r_invV_i dL_law_1044 kM12_132 (by decide) (Nat.le_of_ble_eq_true rfl) (as := []) (q := [vI (aGoings W )]) rfl rfl (Nat.le_of_ble_eq_true rfl) (Nat.le_of_ble_eq_true rfl) (sh_o hS1 kk468 (by decide)) ?_
  refine M_goings (by omega) hM1 hok  (fun M2 f2 m2 => ⟨_, rfl, ?_⟩)
  refine r_icmp_eq (tgt := 1513) dL_law_1047 rfl (fun _ => ?_) (fun q => absurd rfl q)
  exact K _ M2 (h.step hok f1 x1 f2 m2)
theorem law_c25 (hd : 724 ≤ d) (hL : L ≤ 3072) (hi : i + 6 ≤ L) (h : LWc L w c W M) (K : ∀ W2 M2, LWc L w (c + 1) W2 M2 → Run (d + 1 + 1) mL_law 1513 (lsL i a b) [] M2 Q) : Run (d + 1 + 1) mL_law 1052 (lsL i a b) [] M Q := by
  obtain ⟨hok, hX, hM, hl⟩ := id h
  have hS := hX.shp
  have hb := hl.row hS
  refine r_aload_n dL_law_1052 rfl ?_
  refine law_arg dL_law_1053 dL_law_1054 dL_law_1056 dL_law_1057 dL_law_1058 (by decide) hb (by omega) ?_
  refine r_invV_i dL_law_1059 kM12_133 (by decide) (Nat.le_of_ble_eq_true rfl) (as := [vI (iv M 5 ((i : Int) + 1).toNat)]) (q := []) rfl rfl (Nat.le_of_ble_eq_true rfl) (Nat.le_of_ble_eq_true rfl) (sh_o hS kk6 (by decide)) ?_
  refine X_held (by omega) hX hok  (fun M1 f1 x1 => ⟨_, rfl, ?_⟩)
  have hM1 := hM.fx f1
  have hS1 := hM1.shp
  have hb1 := (hl.fx f1).row hS1
  have e5 : iv M1 5 = iv M 5 := (f1.2.1 5 (Or.inl (by decide))).1
  refine r_aload_n dL_law_1062 rfl ?_
  refine law_arg dL_law_1063 dL_law_1064 dL_law_1066 dL_law_1067 dL_law_1068 (by decide) hb1 (by omega) ?_
  rw [e5]
  refine r_invV_i dL_law_1069 kM12_136 (by decide) (Nat.le_of_ble_eq_true rfl) (as := [vI (iv M 5 ((i : Int) + 1).toNat)]) (q := [vI (aHeld W (iv M 5 ((i : Int) + 1).toNat))]) rfl rfl (Nat.le_of_ble_eq_true rfl) (Nat.le_of_ble_eq_true rfl) (sh_o hS1 kk468 (by decide)) ?_
  refine M_held (by omega) hM1 hok  (fun M2 f2 m2 => ⟨_, rfl, ?_⟩)
  refine r_icmp_eq (tgt := 1513) dL_law_1072 rfl (fun _ => ?_) (fun q => absurd rfl q)
  exact K _ M2 (h.step hok f1 x1 f2 m2)
theorem law_c26 (hd : 724 ≤ d) (hL : L ≤ 3072) (hi : i + 6 ≤ L) (h : LWc L w c W M) (K : ∀ W2 M2, LWc L w (c + 1) W2 M2 → Run (d + 1 + 1) mL_law 1513 (lsL i a b) [] M2 Q) : Run (d + 1 + 1) mL_law 1077 (lsL i a b) [] M Q := by
  obtain ⟨hok, hX, hM, hl⟩ := id h
  have hS := hX.shp
  have hb := hl.row hS
  refine r_aload_n dL_law_1077 rfl ?_
  refine law_arg dL_law_1078 dL_law_1079 dL_law_1081 dL_law_1082 dL_law_1083 (by decide) hb (by omega) ?_
  refine r_invV_i dL_law_1084 kM12_137 (by decide) (Nat.le_of_ble_eq_true rfl) (as := [vI (iv M 5 ((i : Int) + 1).toNat)]) (q := []) rfl rfl (Nat.le_of_ble_eq_true rfl) (Nat.le_of_ble_eq_true rfl) (sh_o hS kk6 (by decide)) ?_
  refine X_eased (by omega) hX hok  (fun M1 f1 x1 => ⟨_, rfl, ?_⟩)
  have hM1 := hM.fx f1
  have hS1 := hM1.shp
  have hb1 := (hl.fx f1).row hS1
  have e5 : iv M1 5 = iv M 5 := (f1.2.1 5 (Or.inl (by decide))).1
  refine r_aload_n dL_law_1087 rfl ?_
  refine law_arg dL_law_1088 dL_law_1089 dL_law_1091 dL_law_1092 dL_law_1093 (by decide) hb1 (by omega) ?_
  rw [e5]
  refine r_invV_i dL_law_1094 kM12_140 (by decide) (Nat.le_of_ble_eq_true rfl) (as := [vI (iv M 5 ((i : Int) + 1).toNat)]) (q := [vI (aEased W (iv M 5 ((i : Int) + 1).toNat))]) rfl rfl (Nat.le_of_ble_eq_true rfl) (Nat.le_of_ble_eq_true rfl) (sh_o hS1 kk468 (by decide)) ?_
  refine M_eased (by omega) hM1 hok  (fun M2 f2 m2 => ⟨_, rfl, ?_⟩)
  refine r_icmp_eq (tgt := 1513) dL_law_1097 rfl (fun _ => ?_) (fun q => absurd rfl q)
  exact K _ M2 (h.step hok f1 x1 f2 m2)
theorem law_c27 (hd : 724 ≤ d) (hL : L ≤ 3072) (hi : i + 6 ≤ L) (h : LWc L w c W M) (K : ∀ W2 M2, LWc L w (c + 1) W2 M2 → Run (d + 1 + 1) mL_law 1513 (lsL i a b) [] M2 Q) : Run (d + 1 + 1) mL_law 1102 (lsL i a b) [] M Q := by
  obtain ⟨hok, hX, hM, hl⟩ := id h
  have hS := hX.shp
  have hb := hl.row hS
  refine r_aload_n dL_law_1102 rfl ?_
  refine law_arg dL_law_1103 dL_law_1104 dL_law_1106 dL_law_1107 dL_law_1108 (by decide) hb (by omega) ?_
  refine law_arg dL_law_1109 dL_law_1110 dL_law_1112 dL_law_1113 dL_law_1114 (by decide) hb (by omega) ?_
  refine law_arg dL_law_1115 dL_law_1116 dL_law_1118 dL_law_1119 dL_law_1120 (by decide) hb (by omega) ?_
  refine law_arg dL_law_1121 dL_law_1122 dL_law_1124 dL_law_1125 dL_law_1126 (by decide) hb (by omega) ?_
  have J : Run (d + 1 + 1) mL_law 1135 (lsL i a b) [vI (if (iv M 5 ((i : Int) + 4).toNat) = 0 then (0 : Int) else 1), vI (iv M 5 ((i : Int) + 3).toNat), vI (iv M 5 ((i : Int) + 2).toNat), vI (iv M 5 ((i : Int) + 1).toNat), vR 6] M Q → Run (d + 1 + 1) mL_law 1127 (lsL i a b) (vI (iv M 5 ((i : Int) + 4).toNat) :: ([vI (if (iv M 5 ((i : Int) + 4).toNat) = 0 then (0 : Int) else 1), vI (iv M 5 ((i : Int) + 3).toNat), vI (iv M 5 ((i : Int) + 2).toNat), vI (iv M 5 ((i : Int) + 1).toNat), vR 6] : List jV).tail) M Q := by
    intro J
    refine r_if_eq (tgt := 1134) dL_law_1127 rfl (fun z => ?_) (fun z => ?_)
    · refine r_iconst dL_law_1134 (by decide) ?_
      rw [if_pos z] at J
      exact J
    · refine r_iconst dL_law_1130 (by decide) ?_
      refine r_goto (tgt := 1135) dL_law_1131 rfl ?_
      rw [if_neg z] at J
      exact J
  refine J ?_
  refine r_invV_i dL_law_1135 kM12_141 (by decide) (Nat.le_of_ble_eq_true rfl) (as := [vI (iv M 5 ((i : Int) + 1).toNat), vI (iv M 5 ((i : Int) + 2).toNat), vI (iv M 5 ((i : Int) + 3).toNat), vI (if (iv M 5 ((i : Int) + 4).toNat) = 0 then (0 : Int) else 1)]) (q := []) rfl rfl (Nat.le_of_ble_eq_true rfl) (Nat.le_of_ble_eq_true rfl) (sh_o hS kk6 (by decide)) ?_
  refine X_seen (by omega) hX hok (if01 _) (fun M1 f1 x1 => ⟨_, rfl, ?_⟩)
  have hM1 := hM.fx f1
  have hS1 := hM1.shp
  have hb1 := (hl.fx f1).row hS1
  have e5 : iv M1 5 = iv M 5 := (f1.2.1 5 (Or.inl (by decide))).1
  refine r_aload_n dL_law_1138 rfl ?_
  refine law_arg dL_law_1139 dL_law_1140 dL_law_1142 dL_law_1143 dL_law_1144 (by decide) hb1 (by omega) ?_
  refine law_arg dL_law_1145 dL_law_1146 dL_law_1148 dL_law_1149 dL_law_1150 (by decide) hb1 (by omega) ?_
  refine law_arg dL_law_1151 dL_law_1152 dL_law_1154 dL_law_1155 dL_law_1156 (by decide) hb1 (by omega) ?_
  refine law_arg dL_law_1157 dL_law_1158 dL_law_1160 dL_law_1161 dL_law_1162 (by decide) hb1 (by omega) ?_
  have J : Run (d + 1 + 1) mL_law 1171 (lsL i a b) [vI (if (iv M1 5 ((i : Int) + 4).toNat) = 0 then (0 : Int) else 1), vI (iv M1 5 ((i : Int) + 3).toNat), vI (iv M1 5 ((i : Int) + 2).toNat), vI (iv M1 5 ((i : Int) + 1).toNat), vR 468, vI ((wSeen W (iv M 5 ((i : Int) + 1).toNat) (iv M 5 ((i : Int) + 2).toNat) (iv M 5 ((i : Int) + 3).toNat) (if (iv M 5 ((i : Int) + 4).toNat) = 0 then (0 : Int) else 1)).1)] M1 Q → Run (d + 1 + 1) mL_law 1163 (lsL i a b) (vI (iv M1 5 ((i : Int) + 4).toNat) :: ([vI (if (iv M1 5 ((i : Int) + 4).toNat) = 0 then (0 : Int) else 1), vI (iv M1 5 ((i : Int) + 3).toNat), vI (iv M1 5 ((i : Int) + 2).toNat), vI (iv M1 5 ((i : Int) + 1).toNat), vR 468, vI ((wSeen W (iv M 5 ((i : Int) + 1).toNat) (iv M 5 ((i : Int) + 2).toNat) (iv M 5 ((i : Int) + 3).toNat) (if (iv M 5 ((i : Int) + 4).toNat) = 0 then (0 : Int) else 1)).1)] : List jV).tail) M1 Q := by
    intro J
    refine r_if_eq (tgt := 1170) dL_law_1163 rfl (fun z => ?_) (fun z => ?_)
    · refine r_iconst dL_law_1170 (by decide) ?_
      rw [if_pos z] at J
      exact J
    · refine r_iconst dL_law_1166 (by decide) ?_
      refine r_goto (tgt := 1171) dL_law_1167 rfl ?_
      rw [if_neg z] at J
      exact J
  refine J ?_
  rw [e5]
  refine r_invV_i dL_law_1171 kM12_145 (by decide) (Nat.le_of_ble_eq_true rfl) (as := [vI (iv M 5 ((i : Int) + 1).toNat), vI (iv M 5 ((i : Int) + 2).toNat), vI (iv M 5 ((i : Int) + 3).toNat), vI (if (iv M 5 ((i : Int) + 4).toNat) = 0 then (0 : Int) else 1)]) (q := [vI ((wSeen W (iv M 5 ((i : Int) + 1).toNat) (iv M 5 ((i : Int) + 2).toNat) (iv M 5 ((i : Int) + 3).toNat) (if (iv M 5 ((i : Int) + 4).toNat) = 0 then (0 : Int) else 1)).1)]) rfl rfl (Nat.le_of_ble_eq_true rfl) (Nat.le_of_ble_eq_true rfl) (sh_o hS1 kk468 (by decide)) ?_
  refine M_seen (by omega) hM1 hok (if01 _) (fun M2 f2 m2 => ⟨_, rfl, ?_⟩)
  refine r_icmp_eq (tgt := 1513) dL_law_1174 rfl (fun _ => ?_) (fun q => absurd rfl q)
  exact K _ M2 (h.step (okSeen hok (if01 _)) f1 x1 f2 m2)
theorem law_c28 (hd : 724 ≤ d) (hL : L ≤ 3072) (hi : i + 6 ≤ L) (h : LWc L w c W M) (K : ∀ W2 M2, LWc L w (c + 1) W2 M2 → Run (d + 1 + 1) mL_law 1513 (lsL i a b) [] M2 Q) : Run (d + 1 + 1) mL_law 1179 (lsL i a b) [] M Q := by
  obtain ⟨hok, hX, hM, hl⟩ := id h
  have hS := hX.shp
  have hb := hl.row hS
  refine r_aload_n dL_law_1179 rfl ?_
  refine law_arg dL_law_1180 dL_law_1181 dL_law_1183 dL_law_1184 dL_law_1185 (by decide) hb (by omega) ?_
  refine r_invV_i dL_law_1186 kM12_146 (by decide) (Nat.le_of_ble_eq_true rfl) (as := [vI (iv M 5 ((i : Int) + 1).toNat)]) (q := []) rfl rfl (Nat.le_of_ble_eq_true rfl) (Nat.le_of_ble_eq_true rfl) (sh_o hS kk6 (by decide)) ?_
  refine X_fits (by omega) hX hok  (fun M1 f1 x1 => ⟨_, rfl, ?_⟩)
  have hM1 := hM.fx f1
  have hS1 := hM1.shp
  have hb1 := (hl.fx f1).row hS1
  have e5 : iv M1 5 = iv M 5 := (f1.2.1 5 (Or.inl (by decide))).1
  refine r_aload_n dL_law_1189 rfl ?_
  refine law_arg dL_law_1190 dL_law_1191 dL_law_1193 dL_law_1194 dL_law_1195 (by decide) hb1 (by omega) ?_
  rw [e5]
  refine r_invV_i dL_law_1196 kM12_149 (by decide) (Nat.le_of_ble_eq_true rfl) (as := [vI (iv M 5 ((i : Int) + 1).toNat)]) (q := [vI (aFits W (iv M 5 ((i : Int) + 1).toNat))]) rfl rfl (Nat.le_of_ble_eq_true rfl) (Nat.le_of_ble_eq_true rfl) (sh_o hS1 kk468 (by decide)) ?_
  refine M_fits (by omega) hM1 hok  (fun M2 f2 m2 => ⟨_, rfl, ?_⟩)
  refine r_icmp_eq (tgt := 1513) dL_law_1199 rfl (fun _ => ?_) (fun q => absurd rfl q)
  exact K _ M2 (h.step hok f1 x1 f2 m2)
theorem law_c29 (hd : 724 ≤ d) (hL : L ≤ 3072) (hi : i + 6 ≤ L) (h : LWc L w c W M) (K : ∀ W2 M2, LWc L w (c + 1) W2 M2 → Run (d + 1 + 1) mL_law 1513 (lsL i a b) [] M2 Q) : Run (d + 1 + 1) mL_law 1204 (lsL i a b) [] M Q := by
  obtain ⟨hok, hX, hM, hl⟩ := id h
  have hS := hX.shp
  have hb := hl.row hS
  refine r_aload_n dL_law_1204 rfl ?_
  refine law_arg dL_law_1205 dL_law_1206 dL_law_1208 dL_law_1209 dL_law_1210 (by decide) hb (by omega) ?_
  refine r_invV_i dL_law_1211 kM12_150 (by decide) (Nat.le_of_ble_eq_true rfl) (as := [vI (iv M 5 ((i : Int) + 1).toNat)]) (q := []) rfl rfl (Nat.le_of_ble_eq_true rfl) (Nat.le_of_ble_eq_true rfl) (sh_o hS kk6 (by decide)) ?_
  refine X_ask (by omega) hX hok  (fun M1 f1 x1 => ⟨_, rfl, ?_⟩)
  have hM1 := hM.fx f1
  have hS1 := hM1.shp
  have hb1 := (hl.fx f1).row hS1
  have e5 : iv M1 5 = iv M 5 := (f1.2.1 5 (Or.inl (by decide))).1
  refine r_aload_n dL_law_1214 rfl ?_
  refine law_arg dL_law_1215 dL_law_1216 dL_law_1218 dL_law_1219 dL_law_1220 (by decide) hb1 (by omega) ?_
  rw [e5]
  refine r_invV_i dL_law_1221 kM12_153 (by decide) (Nat.le_of_ble_eq_true rfl) (as := [vI (iv M 5 ((i : Int) + 1).toNat)]) (q := [vI (aAsk W (iv M 5 ((i : Int) + 1).toNat))]) rfl rfl (Nat.le_of_ble_eq_true rfl) (Nat.le_of_ble_eq_true rfl) (sh_o hS1 kk468 (by decide)) ?_
  refine M_ask (by omega) hM1 hok  (fun M2 f2 m2 => ⟨_, rfl, ?_⟩)
  refine r_icmp_eq (tgt := 1513) dL_law_1224 rfl (fun _ => ?_) (fun q => absurd rfl q)
  exact K _ M2 (h.step hok f1 x1 f2 m2)
theorem law_c30 (hd : 724 ≤ d) (hL : L ≤ 3072) (hi : i + 6 ≤ L) (h : LWc L w c W M) (K : ∀ W2 M2, LWc L w (c + 1) W2 M2 → Run (d + 1 + 1) mL_law 1513 (lsL i a b) [] M2 Q) : Run (d + 1 + 1) mL_law 1229 (lsL i a b) [] M Q := by
  obtain ⟨hok, hX, hM, hl⟩ := id h
  have hS := hX.shp
  have hb := hl.row hS
  refine r_aload_n dL_law_1229 rfl ?_
  refine law_arg dL_law_1230 dL_law_1231 dL_law_1233 dL_law_1234 dL_law_1235 (by decide) hb (by omega) ?_
  refine law_arg dL_law_1236 dL_law_1237 dL_law_1239 dL_law_1240 dL_law_1241 (by decide) hb (by omega) ?_
  refine law_arg dL_law_1242 dL_law_1243 dL_law_1245 dL_law_1246 dL_law_1247 (by decide) hb (by omega) ?_
  refine law_arg dL_law_1248 dL_law_1249 dL_law_1251 dL_law_1252 dL_law_1253 (by decide) hb (by omega) ?_
  refine law_arg dL_law_1254 dL_law_1255 dL_law_1257 dL_law_1258 dL_law_1259 (by decide) hb (by omega) ?_
  refine r_invV_i dL_law_1260 kM12_154 (by decide) (Nat.le_of_ble_eq_true rfl) (as := [vI (iv M 5 ((i : Int) + 1).toNat), vI (iv M 5 ((i : Int) + 2).toNat), vI (iv M 5 ((i : Int) + 3).toNat), vI (iv M 5 ((i : Int) + 4).toNat), vI (iv M 5 ((i : Int) + 5).toNat)]) (q := []) rfl rfl (Nat.le_of_ble_eq_true rfl) (Nat.le_of_ble_eq_true rfl) (sh_o hS kk6 (by decide)) ?_
  refine X_game (by omega) hX hok  (fun M1 f1 x1 => ⟨_, rfl, ?_⟩)
  have hM1 := hM.fx f1
  have hS1 := hM1.shp
  have hb1 := (hl.fx f1).row hS1
  have e5 : iv M1 5 = iv M 5 := (f1.2.1 5 (Or.inl (by decide))).1
  refine r_aload_n dL_law_1263 rfl ?_
  refine law_arg dL_law_1264 dL_law_1265 dL_law_1267 dL_law_1268 dL_law_1269 (by decide) hb1 (by omega) ?_
  refine law_arg dL_law_1270 dL_law_1271 dL_law_1273 dL_law_1274 dL_law_1275 (by decide) hb1 (by omega) ?_
  refine law_arg dL_law_1276 dL_law_1277 dL_law_1279 dL_law_1280 dL_law_1281 (by decide) hb1 (by omega) ?_
  refine law_arg dL_law_1282 dL_law_1283 dL_law_1285 dL_law_1286 dL_law_1287 (by decide) hb1 (by omega) ?_
  refine law_arg dL_law_1288 dL_law_1289 dL_law_1291 dL_law_1292 dL_law_1293 (by decide) hb1 (by omega) ?_
  rw [e5]
  refine r_invV_i dL_law_1294 kM12_157 (by decide) (Nat.le_of_ble_eq_true rfl) (as := [vI (iv M 5 ((i : Int) + 1).toNat), vI (iv M 5 ((i : Int) + 2).toNat), vI (iv M 5 ((i : Int) + 3).toNat), vI (iv M 5 ((i : Int) + 4).toNat), vI (iv M 5 ((i : Int) + 5).toNat)]) (q := [vI (aGame W (iv M 5 ((i : Int) + 1).toNat) (iv M 5 ((i : Int) + 2).toNat) (iv M 5 ((i : Int) + 3).toNat) (iv M 5 ((i : Int) + 4).toNat) (iv M 5 ((i : Int) + 5).toNat))]) rfl rfl (Nat.le_of_ble_eq_true rfl) (Nat.le_of_ble_eq_true rfl) (sh_o hS1 kk468 (by decide)) ?_
  refine M_game (by omega) hM1 hok  (fun M2 f2 m2 => ⟨_, rfl, ?_⟩)
  refine r_icmp_eq (tgt := 1513) dL_law_1297 rfl (fun _ => ?_) (fun q => absurd rfl q)
  exact K _ M2 (h.step hok f1 x1 f2 m2)
theorem law_c31 (hd : 724 ≤ d) (hL : L ≤ 3072) (hi : i + 6 ≤ L) (h : LWc L w c W M) (K : ∀ W2 M2, LWc L w (c + 1) W2 M2 → Run (d + 1 + 1) mL_law 1513 (lsL i a b) [] M2 Q) : Run (d + 1 + 1) mL_law 1302 (lsL i a b) [] M Q := by
  obtain ⟨hok, hX, hM, hl⟩ := id h
  have hS := hX.shp
  have hb := hl.row hS
  refine r_aload_n dL_law_1302 rfl ?_
  refine law_arg dL_law_1303 dL_law_1304 dL_law_1306 dL_law_1307 dL_law_1308 (by decide) hb (by omega) ?_
  refine law_arg dL_law_1309 dL_law_1310 dL_law_1312 dL_law_1313 dL_law_1314 (by decide) hb (by omega) ?_
  refine law_arg dL_law_1315 dL_law_1316 dL_law_1318 dL_law_1319 dL_law_1320 (by decide) hb (by omega) ?_
  refine r_invV_i dL_law_1321 kM12_158 (by decide) (Nat.le_of_ble_eq_true rfl) (as := [vI (iv M 5 ((i : Int) + 1).toNat), vI (iv M 5 ((i : Int) + 2).toNat), vI (iv M 5 ((i : Int) + 3).toNat)]) (q := []) rfl rfl (Nat.le_of_ble_eq_true rfl) (Nat.le_of_ble_eq_true rfl) (sh_o hS kk6 (by decide)) ?_
  refine X_rests (by omega) hX hok  (fun M1 f1 x1 => ⟨_, rfl, ?_⟩)
  have hM1 := hM.fx f1
  have hS1 := hM1.shp
  have hb1 := (hl.fx f1).row hS1
  have e5 : iv M1 5 = iv M 5 := (f1.2.1 5 (Or.inl (by decide))).1
  refine r_aload_n dL_law_1324 rfl ?_
  refine law_arg dL_law_1325 dL_law_1326 dL_law_1328 dL_law_1329 dL_law_1330 (by decide) hb1 (by omega) ?_
  refine law_arg dL_law_1331 dL_law_1332 dL_law_1334 dL_law_1335 dL_law_1336 (by decide) hb1 (by omega) ?_
  refine law_arg dL_law_1337 dL_law_1338 dL_law_1340 dL_law_1341 dL_law_1342 (by decide) hb1 (by omega) ?_
  rw [e5]
  refine r_invV_i dL_law_1343 kM12_161 (by decide) (Nat.le_of_ble_eq_true rfl) (as := [vI (iv M 5 ((i : Int) + 1).toNat), vI (iv M 5 ((i : Int) + 2).toNat), vI (iv M 5 ((i : Int) + 3).toNat)]) (q := [vI (aRests W (iv M 5 ((i : Int) + 1).toNat) (iv M 5 ((i : Int) + 2).toNat) (iv M 5 ((i : Int) + 3).toNat))]) rfl rfl (Nat.le_of_ble_eq_true rfl) (Nat.le_of_ble_eq_true rfl) (sh_o hS1 kk468 (by decide)) ?_
  refine M_rests (by omega) hM1 hok  (fun M2 f2 m2 => ⟨_, rfl, ?_⟩)
  refine r_icmp_eq (tgt := 1513) dL_law_1346 rfl (fun _ => ?_) (fun q => absurd rfl q)
  exact K _ M2 (h.step hok f1 x1 f2 m2)
theorem law_c32 (hd : 724 ≤ d) (hL : L ≤ 3072) (hi : i + 6 ≤ L) (h : LWc L w c W M) (K : ∀ W2 M2, LWc L w (c + 1) W2 M2 → Run (d + 1 + 1) mL_law 1513 (lsL i a b) [] M2 Q) : Run (d + 1 + 1) mL_law 1351 (lsL i a b) [] M Q := by
  obtain ⟨hok, hX, hM, hl⟩ := id h
  have hS := hX.shp
  have hb := hl.row hS
  refine r_aload_n dL_law_1351 rfl ?_
  refine law_arg dL_law_1352 dL_law_1353 dL_law_1355 dL_law_1356 dL_law_1357 (by decide) hb (by omega) ?_
  refine law_arg dL_law_1358 dL_law_1359 dL_law_1361 dL_law_1362 dL_law_1363 (by decide) hb (by omega) ?_
  refine law_arg dL_law_1364 dL_law_1365 dL_law_1367 dL_law_1368 dL_law_1369 (by decide) hb (by omega) ?_
  refine r_invV_i dL_law_1370 kM12_162 (by decide) (Nat.le_of_ble_eq_true rfl) (as := [vI (iv M 5 ((i : Int) + 1).toNat), vI (iv M 5 ((i : Int) + 2).toNat), vI (iv M 5 ((i : Int) + 3).toNat)]) (q := []) rfl rfl (Nat.le_of_ble_eq_true rfl) (Nat.le_of_ble_eq_true rfl) (sh_o hS kk6 (by decide)) ?_
  refine X_odds (by omega) hX hok  (fun M1 f1 x1 => ⟨_, rfl, ?_⟩)
  have hM1 := hM.fx f1
  have hS1 := hM1.shp
  have hb1 := (hl.fx f1).row hS1
  have e5 : iv M1 5 = iv M 5 := (f1.2.1 5 (Or.inl (by decide))).1
  refine r_aload_n dL_law_1373 rfl ?_
  refine law_arg dL_law_1374 dL_law_1375 dL_law_1377 dL_law_1378 dL_law_1379 (by decide) hb1 (by omega) ?_
  refine law_arg dL_law_1380 dL_law_1381 dL_law_1383 dL_law_1384 dL_law_1385 (by decide) hb1 (by omega) ?_
  refine law_arg dL_law_1386 dL_law_1387 dL_law_1389 dL_law_1390 dL_law_1391 (by decide) hb1 (by omega) ?_
  rw [e5]
  refine r_invV_i dL_law_1392 kM12_165 (by decide) (Nat.le_of_ble_eq_true rfl) (as := [vI (iv M 5 ((i : Int) + 1).toNat), vI (iv M 5 ((i : Int) + 2).toNat), vI (iv M 5 ((i : Int) + 3).toNat)]) (q := [vI (aOdds W (iv M 5 ((i : Int) + 1).toNat) (iv M 5 ((i : Int) + 2).toNat) (iv M 5 ((i : Int) + 3).toNat))]) rfl rfl (Nat.le_of_ble_eq_true rfl) (Nat.le_of_ble_eq_true rfl) (sh_o hS1 kk468 (by decide)) ?_
  refine M_odds (by omega) hM1 hok  (fun M2 f2 m2 => ⟨_, rfl, ?_⟩)
  refine r_icmp_eq (tgt := 1513) dL_law_1395 rfl (fun _ => ?_) (fun q => absurd rfl q)
  exact K _ M2 (h.step hok f1 x1 f2 m2)
theorem law_c33 (hd : 724 ≤ d) (hL : L ≤ 3072) (hi : i + 6 ≤ L) (h : LWc L w c W M) (K : ∀ W2 M2, LWc L w (c + 1) W2 M2 → Run (d + 1 + 1) mL_law 1513 (lsL i a b) [] M2 Q) : Run (d + 1 + 1) mL_law 1400 (lsL i a b) [] M Q := by
  obtain ⟨hok, hX, hM, hl⟩ := id h
  have hS := hX.shp
  have hb := hl.row hS
  refine r_aload_n dL_law_1400 rfl ?_
  refine law_arg dL_law_1401 dL_law_1402 dL_law_1404 dL_law_1405 dL_law_1406 (by decide) hb (by omega) ?_
  refine law_arg dL_law_1407 dL_law_1408 dL_law_1410 dL_law_1411 dL_law_1412 (by decide) hb (by omega) ?_
  refine r_invV_i dL_law_1413 kM12_166 (by decide) (Nat.le_of_ble_eq_true rfl) (as := [vI (iv M 5 ((i : Int) + 1).toNat), vI (iv M 5 ((i : Int) + 2).toNat)]) (q := []) rfl rfl (Nat.le_of_ble_eq_true rfl) (Nat.le_of_ble_eq_true rfl) (sh_o hS kk6 (by decide)) ?_
  refine X_shares (by omega) hX hok  (fun M1 f1 x1 => ⟨_, rfl, ?_⟩)
  have hM1 := hM.fx f1
  have hS1 := hM1.shp
  have hb1 := (hl.fx f1).row hS1
  have e5 : iv M1 5 = iv M 5 := (f1.2.1 5 (Or.inl (by decide))).1
  refine r_aload_n dL_law_1416 rfl ?_
  refine law_arg dL_law_1417 dL_law_1418 dL_law_1420 dL_law_1421 dL_law_1422 (by decide) hb1 (by omega) ?_
  refine law_arg dL_law_1423 dL_law_1424 dL_law_1426 dL_law_1427 dL_law_1428 (by decide) hb1 (by omega) ?_
  rw [e5]
  refine r_invV_i dL_law_1429 kM12_169 (by decide) (Nat.le_of_ble_eq_true rfl) (as := [vI (iv M 5 ((i : Int) + 1).toNat), vI (iv M 5 ((i : Int) + 2).toNat)]) (q := [vI (aShares W (iv M 5 ((i : Int) + 1).toNat) (iv M 5 ((i : Int) + 2).toNat))]) rfl rfl (Nat.le_of_ble_eq_true rfl) (Nat.le_of_ble_eq_true rfl) (sh_o hS1 kk468 (by decide)) ?_
  refine M_shares (by omega) hM1 hok  (fun M2 f2 m2 => ⟨_, rfl, ?_⟩)
  refine r_icmp_eq (tgt := 1513) dL_law_1432 rfl (fun _ => ?_) (fun q => absurd rfl q)
  exact K _ M2 (h.step hok f1 x1 f2 m2)
theorem law_c34 (hd : 724 ≤ d) (hL : L ≤ 3072) (hi : i + 6 ≤ L) (h : LWc L w c W M) (K : ∀ W2 M2, LWc L w (c + 1) W2 M2 → Run (d + 1 + 1) mL_law 1513 (lsL i a b) [] M2 Q) : Run (d + 1 + 1) mL_law 1437 (lsL i a b) [] M Q := by
  obtain ⟨hok, hX, hM, hl⟩ := id h
  have hS := hX.shp
  have hb := hl.row hS
  refine r_aload_n dL_law_1437 rfl ?_
  refine law_arg dL_law_1438 dL_law_1439 dL_law_1441 dL_law_1442 dL_law_1443 (by decide) hb (by omega) ?_
  refine r_invV_i dL_law_1444 kM12_170 (by decide) (Nat.le_of_ble_eq_true rfl) (as := [vI (iv M 5 ((i : Int) + 1).toNat)]) (q := []) rfl rfl (Nat.le_of_ble_eq_true rfl) (Nat.le_of_ble_eq_true rfl) (sh_o hS kk6 (by decide)) ?_
  refine X_most (by omega) hX hok  (fun M1 f1 x1 => ⟨_, rfl, ?_⟩)
  have hM1 := hM.fx f1
  have hS1 := hM1.shp
  have hb1 := (hl.fx f1).row hS1
  have e5 : iv M1 5 = iv M 5 := (f1.2.1 5 (Or.inl (by decide))).1
  refine r_aload_n dL_law_1447 rfl ?_
  refine law_arg dL_law_1448 dL_law_1449 dL_law_1451 dL_law_1452 dL_law_1453 (by decide) hb1 (by omega) ?_
  rw [e5]
  refine r_invV_i dL_law_1454 kM12_173 (by decide) (Nat.le_of_ble_eq_true rfl) (as := [vI (iv M 5 ((i : Int) + 1).toNat)]) (q := [vI (aMost W (iv M 5 ((i : Int) + 1).toNat))]) rfl rfl (Nat.le_of_ble_eq_true rfl) (Nat.le_of_ble_eq_true rfl) (sh_o hS1 kk468 (by decide)) ?_
  refine M_most (by omega) hM1 hok  (fun M2 f2 m2 => ⟨_, rfl, ?_⟩)
  refine r_icmp_eq (tgt := 1513) dL_law_1457 rfl (fun _ => ?_) (fun q => absurd rfl q)
  exact K _ M2 (h.step hok f1 x1 f2 m2)
theorem law_c35 (hd : 724 ≤ d) (hL : L ≤ 3072) (hi : i + 6 ≤ L) (h : LWc L w c W M) (K : ∀ W2 M2, LWc L w (c + 1) W2 M2 → Run (d + 1 + 1) mL_law 1513 (lsL i a b) [] M2 Q) : Run (d + 1 + 1) mL_law 1462 (lsL i a b) [] M Q := by
  obtain ⟨hok, hX, hM, hl⟩ := id h
  have hS := hX.shp
  have hb := hl.row hS
  refine r_aload_n dL_law_1462 rfl ?_
  refine r_invV_i dL_law_1463 kM12_174 (by decide) (Nat.le_of_ble_eq_true rfl) (as := []) (q := []) rfl rfl (Nat.le_of_ble_eq_true rfl) (Nat.le_of_ble_eq_true rfl) (sh_o hS kk6 (by decide)) ?_
  refine X_image (by omega) hX hok  (fun M1 f1 x1 => ⟨_, rfl, ?_⟩)
  have hM1 := hM.fx f1
  have hS1 := hM1.shp
  have hb1 := (hl.fx f1).row hS1
  have e5 : iv M1 5 = iv M 5 := (f1.2.1 5 (Or.inl (by decide))).1
  refine r_aload_n dL_law_1466 rfl ?_
  refine r_invV_i dL_law_1467 kM12_177 (by decide) (Nat.le_of_ble_eq_true rfl) (as := []) (q := [vI ((wImage W ).1)]) rfl rfl (Nat.le_of_ble_eq_true rfl) (Nat.le_of_ble_eq_true rfl) (sh_o hS1 kk468 (by decide)) ?_
  refine M_image (by omega) hM1 hok  (fun M2 f2 m2 => ⟨_, rfl, ?_⟩)
  refine r_icmp_eq (tgt := 1513) dL_law_1470 rfl (fun _ => ?_) (fun q => absurd rfl q)
  exact K _ M2 (h.step (okImage hok) f1 x1 f2 m2)
theorem law_c36 (hd : 724 ≤ d) (hL : L ≤ 3072) (hi : i + 6 ≤ L) (h : LWc L w c W M) (K : ∀ W2 M2, LWc L w (c + 1) W2 M2 → Run (d + 1 + 1) mL_law 1513 (lsL i a b) [] M2 Q) : Run (d + 1 + 1) mL_law 1475 (lsL i a b) [] M Q := by
  obtain ⟨hok, hX, hM, hl⟩ := id h
  have hS := hX.shp
  have hb := hl.row hS
  refine r_aload_n dL_law_1475 rfl ?_
  refine r_invV_i dL_law_1476 kM12_178 (by decide) (Nat.le_of_ble_eq_true rfl) (as := []) (q := []) rfl rfl (Nat.le_of_ble_eq_true rfl) (Nat.le_of_ble_eq_true rfl) (sh_o hS kk6 (by decide)) ?_
  refine X_back (by omega) hX hok  (fun M1 f1 x1 => ⟨_, rfl, ?_⟩)
  have hM1 := hM.fx f1
  have hS1 := hM1.shp
  have hb1 := (hl.fx f1).row hS1
  have e5 : iv M1 5 = iv M 5 := (f1.2.1 5 (Or.inl (by decide))).1
  refine r_aload_n dL_law_1479 rfl ?_
  refine r_invV_i dL_law_1480 kM12_181 (by decide) (Nat.le_of_ble_eq_true rfl) (as := []) (q := [vI ((wBack W ).1)]) rfl rfl (Nat.le_of_ble_eq_true rfl) (Nat.le_of_ble_eq_true rfl) (sh_o hS1 kk468 (by decide)) ?_
  refine M_back (by omega) hM1 hok  (fun M2 f2 m2 => ⟨_, rfl, ?_⟩)
  refine r_icmp_eq (tgt := 1513) dL_law_1483 rfl (fun _ => ?_) (fun q => absurd rfl q)
  exact K _ M2 (h.step (okBack hok) f1 x1 f2 m2)
theorem law_c37 (hd : 724 ≤ d) (hL : L ≤ 3072) (hi : i + 6 ≤ L) (h : LWc L w c W M) (K : ∀ W2 M2, LWc L w (c + 1) W2 M2 → Run (d + 1 + 1) mL_law 1513 (lsL i a b) [] M2 Q) : Run (d + 1 + 1) mL_law 1488 (lsL i a b) [] M Q := by
  obtain ⟨hok, hX, hM, hl⟩ := id h
  have hS := hX.shp
  have hb := hl.row hS
  refine r_aload_n dL_law_1488 rfl ?_
  refine law_arg dL_law_1489 dL_law_1490 dL_law_1492 dL_law_1493 dL_law_1494 (by decide) hb (by omega) ?_
  refine r_invV_i dL_law_1495 kM12_182 (by decide) (Nat.le_of_ble_eq_true rfl) (as := [vI (iv M 5 ((i : Int) + 1).toNat)]) (q := []) rfl rfl (Nat.le_of_ble_eq_true rfl) (Nat.le_of_ble_eq_true rfl) (sh_o hS kk6 (by decide)) ?_
  refine X_count (by omega) hX hok  (fun M1 f1 x1 => ⟨_, rfl, ?_⟩)
  have hM1 := hM.fx f1
  have hS1 := hM1.shp
  have hb1 := (hl.fx f1).row hS1
  have e5 : iv M1 5 = iv M 5 := (f1.2.1 5 (Or.inl (by decide))).1
  refine r_aload_n dL_law_1498 rfl ?_
  refine law_arg dL_law_1499 dL_law_1500 dL_law_1502 dL_law_1503 dL_law_1504 (by decide) hb1 (by omega) ?_
  rw [e5]
  refine r_invV_i dL_law_1505 kM12_185 (by decide) (Nat.le_of_ble_eq_true rfl) (as := [vI (iv M 5 ((i : Int) + 1).toNat)]) (q := [vI (aCount W (iv M 5 ((i : Int) + 1).toNat))]) rfl rfl (Nat.le_of_ble_eq_true rfl) (Nat.le_of_ble_eq_true rfl) (sh_o hS1 kk468 (by decide)) ?_
  refine M_count (by omega) hM1 hok  (fun M2 f2 m2 => ⟨_, rfl, ?_⟩)
  refine r_icmp_eq (tgt := 1513) dL_law_1508 rfl (fun _ => ?_) (fun q => absurd rfl q)
  exact K _ M2 (h.step hok f1 x1 f2 m2)
end LCase
