def rmX11_digest : Room := { frames := 7, cells := 0, slots := 0, locals := 153 }
def BX11_digest_444 (σ : St) (x1 : Int64) : Option (Int64 × St) :=
  (fX11_turnedNow σ).bind (fun z22 => some (((31 * x1) + (z22.toInt64)), σ))
set_option maxRecDepth 100000 in
theorem okBX11_digest_444 {E : ET} {X : XT} {z : Int64 × St} (O : Ok (YM E) X cX11_digest 5 RX11 (some .long) rmX11_digest (some (.long z.1)) z.2) (σ : St) (x1 : Int64) (hf : BX11_digest_444 σ x1 = some z) : At (YM E) X 5 444 [(0, .ref (E.2.2.2.2 0)), (1, .long x1)] [] σ := by
  have hE := O.2.2.2.2.2.2.2.2.2.1
  unfold BX11_digest_444 at hf
  refine a_ldc2 (pc' := 447) (v := 31) O wm_998 dX11_digest_444 rfl ?_
  refine a_lload_n (pc' := 448) O dX11_digest_447 rfl 1 rfl rfl ?_
  refine a_lmul (pc' := 449) O dX11_digest_448 rfl ?_
  refine a_aload_n (pc' := 450) O dX11_digest_449 rfl 0 rfl rfl ?_
  obtain ⟨z22, h23, hf⟩ := bd_some hf
  refine a_callVI (pc' := 453) (n := 0) (As := []) (st := [.long (31 * x1)]) (q0 := 0) O (ctX11_turnedNow hE σ z22 h23) wm_842 wm_843 wm_844 wm_5 wm_845 (by decide +kernel) (by decide) (gM_0 E _) hc_11 rfl rfl rfl (Nat.le_of_ble_eq_true rfl) dX11_digest_450 rfl ?_
  refine a_i2l (pc' := 454) O dX11_digest_453 rfl rfl ?_
  refine a_ladd (pc' := 455) O dX11_digest_454 rfl ?_
  exact a_lret O hf dX11_digest_455
def BX11_digest_421 (k421 : St → Int64 → Int32 → Option (Int64 × St)) (σ : St) (x1 : Int64) (x3 : Int32) : Option (Int64 × St) :=
  if 2 ≤ x3 then BX11_digest_444 σ x1 else ((fX11_meanOf x3 σ).bind (fun z24 => bL ((31 * x1) + z24.1) (fun v26 => bI (x3 + 1) (fun v27 => k421 z24.2 v26 v27))))
set_option maxRecDepth 100000 in
theorem okBX11_digest_421 {E : ET} {X : XT} {z : Int64 × St} (O : Ok (YM E) X cX11_digest 5 RX11 (some .long) rmX11_digest (some (.long z.1)) z.2) (k421 : St → Int64 → Int32 → Option (Int64 × St)) (hk421 : ∀ (σ : St) (x1 : Int64) (x3 : Int32), k421 σ x1 x3 = some z → At (YM E) X 5 421 [(0, .ref (E.2.2.2.2 0)), (1, .long x1), (3, .int x3)] [] σ) (σ : St) (x1 : Int64) (x3 : Int32) (hf : BX11_digest_421 k421 σ x1 x3 = some z) : At (YM E) X 5 421 [(0, .ref (E.2.2.2.2 0)), (1, .long x1), (3, .int x3)] [] σ := by
  have hE := O.2.2.2.2.2.2.2.2.2.1
  unfold BX11_digest_421 at hf
  refine a_iload_n (pc' := 422) O dX11_digest_421 rfl 2 rfl rfl ?_
  refine a_iconst (pc' := 423) (v := 2) O dX11_digest_422 (by decide) rfl ?_
  refine a_icmp_ge (pc' := 426) (tgt := 444) O dX11_digest_423 (by decide) rfl hf (fun hf => ?_) (fun hf => ?_)
  · exact a_sub [0, 1] rfl (okBX11_digest_444 O σ x1 hf)
  · refine a_ldc2 (pc' := 429) (v := 31) O wm_998 dX11_digest_426 rfl ?_
    refine a_lload_n (pc' := 430) O dX11_digest_429 rfl 1 rfl rfl ?_
    refine a_lmul (pc' := 431) O dX11_digest_430 rfl ?_
    refine a_aload_n (pc' := 432) O dX11_digest_431 rfl 0 rfl rfl ?_
    refine a_iload_n (pc' := 433) O dX11_digest_432 rfl 2 rfl rfl ?_
    obtain ⟨z24, h25, hf⟩ := bd_some hf
    refine a_callVL (pc' := 436) (n := 1) (As := [.int x3]) (st := [.long (31 * x1)]) (q0 := 0) O (ctX11_meanOf hE x3 σ z24 h25) wm_791 wm_792 wm_793 wm_5 wm_794 (by decide +kernel) (by decide) (gM_0 E _) hc_11 rfl rfl rfl (Nat.le_of_ble_eq_true rfl) dX11_digest_433 rfl ?_
    refine a_ladd (pc' := 437) O dX11_digest_436 rfl ?_
    refine a_topl hf (fun v26 hf => ?_)
    refine a_lstore_n (pc' := 438) (lv' := [(1, .long v26), (0, .ref (E.2.2.2.2 0)), (3, .int x3)]) O dX11_digest_437 rfl (by decide) rfl rfl ?_
    refine a_iincB (pc' := 441) (lv' := fun v27 => [(3, .int v27), (1, .long v26), (0, .ref (E.2.2.2.2 0))]) (c0 := 1) O dX11_digest_438 2 rfl (by decide) (by decide) (fun _ => rfl) rfl hf (fun v27 hf => ?_)
    refine a_goto (tgt := 421) O dX11_digest_441 (by decide) ?_
    exact a_sub [2, 1, 0] rfl (hk421 z24.2 v26 v27 hf)
def LX11_digest_421 : Nat → St → Int64 → Int32 → Option (Int64 × St)
  | 0, _, _, _ => none
  | n + 1, σ, x1, x3 => BX11_digest_421 (LX11_digest_421 n) σ x1 x3
theorem okLX11_digest_421 {E : ET} {X : XT} {z : Int64 × St} (O : Ok (YM E) X cX11_digest 5 RX11 (some .long) rmX11_digest (some (.long z.1)) z.2) : ∀ (n : Nat) (σ : St) (x1 : Int64) (x3 : Int32), LX11_digest_421 n σ x1 x3 = some z → At (YM E) X 5 421 [(0, .ref (E.2.2.2.2 0)), (1, .long x1), (3, .int x3)] [] σ := by
  intro n
  induction n with
  | zero =>
    intro σ x1 x3 hf
    rw [LX11_digest_421] at hf
    cases hf
  | succ n ih =>
    intro σ x1 x3 hf
    rw [LX11_digest_421] at hf
    exact okBX11_digest_421 O (LX11_digest_421 n) ih σ x1 x3 hf
def BX11_digest_378 (σ : St) (x1 : Int64) : Option (Int64 × St) :=
  (fX11_leastOf 50 60).bind (fun z13 => bL ((31 * x1) + (z13.toInt64)) (fun v15 => (fX11_firstOf 0 σ).bind (fun z16 => bL ((31 * v15) + (z16.1.toInt64)) (fun v18 => (fX11_firstOf 1 z16.2).bind (fun z19 => bL ((31 * v18) + (z19.1.toInt64)) (fun v21 => LX11_digest_421 fu z19.2 v21 0))))))
set_option maxRecDepth 100000 in
theorem okBX11_digest_378 {E : ET} {X : XT} {z : Int64 × St} (O : Ok (YM E) X cX11_digest 5 RX11 (some .long) rmX11_digest (some (.long z.1)) z.2) (σ : St) (x1 : Int64) (hf : BX11_digest_378 σ x1 = some z) : At (YM E) X 5 378 [(0, .ref (E.2.2.2.2 0)), (1, .long x1)] [] σ := by
  have hE := O.2.2.2.2.2.2.2.2.2.1
  unfold BX11_digest_378 at hf
  refine a_ldc2 (pc' := 381) (v := 31) O wm_998 dX11_digest_378 rfl ?_
  refine a_lload_n (pc' := 382) O dX11_digest_381 rfl 1 rfl rfl ?_
  refine a_lmul (pc' := 383) O dX11_digest_382 rfl ?_
  refine a_bipush (pc' := 385) (v := 50) O dX11_digest_383 (by decide) rfl ?_
  refine a_bipush (pc' := 387) (v := 60) O dX11_digest_385 (by decide) rfl ?_
  obtain ⟨z13, h14, hf⟩ := bd_some hf
  refine a_callSI (pc' := 390) (n := 2) (As := [.int 50, .int 60]) (st := [.long (31 * x1)]) O (ctX11_leastOf hE 50 60 σ z13 h14) wm_707 wm_708 wm_5 wm_709 (by decide +kernel) (by decide) rfl rfl (Nat.le_of_ble_eq_true rfl) dX11_digest_387 rfl ?_
  refine a_i2l (pc' := 391) O dX11_digest_390 rfl rfl ?_
  refine a_ladd (pc' := 392) O dX11_digest_391 rfl ?_
  refine a_topl hf (fun v15 hf => ?_)
  refine a_lstore_n (pc' := 393) (lv' := [(1, .long v15), (0, .ref (E.2.2.2.2 0))]) O dX11_digest_392 rfl (by decide) rfl rfl ?_
  refine a_ldc2 (pc' := 396) (v := 31) O wm_998 dX11_digest_393 rfl ?_
  refine a_lload_n (pc' := 397) O dX11_digest_396 rfl 0 rfl rfl ?_
  refine a_lmul (pc' := 398) O dX11_digest_397 rfl ?_
  refine a_aload_n (pc' := 399) O dX11_digest_398 rfl 1 rfl rfl ?_
  refine a_iconst (pc' := 400) (v := 0) O dX11_digest_399 (by decide) rfl ?_
  obtain ⟨z16, h17, hf⟩ := bd_some hf
  refine a_callVI (pc' := 403) (n := 1) (As := [.int 0]) (st := [.long (31 * v15)]) (q0 := 0) O (ctX11_firstOf hE 0 σ z16 h17) wm_770 wm_771 wm_772 wm_5 wm_773 (by decide +kernel) (by decide) (gM_0 E _) hc_11 rfl rfl rfl (Nat.le_of_ble_eq_true rfl) dX11_digest_400 rfl ?_
  refine a_i2l (pc' := 404) O dX11_digest_403 rfl rfl ?_
  refine a_ladd (pc' := 405) O dX11_digest_404 rfl ?_
  refine a_topl hf (fun v18 hf => ?_)
  refine a_lstore_n (pc' := 406) (lv' := [(1, .long v18), (0, .ref (E.2.2.2.2 0))]) O dX11_digest_405 rfl (by decide) rfl rfl ?_
  refine a_ldc2 (pc' := 409) (v := 31) O wm_998 dX11_digest_406 rfl ?_
  refine a_lload_n (pc' := 410) O dX11_digest_409 rfl 0 rfl rfl ?_
  refine a_lmul (pc' := 411) O dX11_digest_410 rfl ?_
  refine a_aload_n (pc' := 412) O dX11_digest_411 rfl 1 rfl rfl ?_
  refine a_iconst (pc' := 413) (v := 1) O dX11_digest_412 (by decide) rfl ?_
  obtain ⟨z19, h20, hf⟩ := bd_some hf
  refine a_callVI (pc' := 416) (n := 1) (As := [.int 1]) (st := [.long (31 * v18)]) (q0 := 0) O (ctX11_firstOf hE 1 z16.2 z19 h20) wm_770 wm_771 wm_772 wm_5 wm_773 (by decide +kernel) (by decide) (gM_0 E _) hc_11 rfl rfl rfl (Nat.le_of_ble_eq_true rfl) dX11_digest_413 rfl ?_
  refine a_i2l (pc' := 417) O dX11_digest_416 rfl rfl ?_
  refine a_ladd (pc' := 418) O dX11_digest_417 rfl ?_
  refine a_topl hf (fun v21 hf => ?_)
  refine a_lstore_n (pc' := 419) (lv' := [(1, .long v21), (0, .ref (E.2.2.2.2 0))]) O dX11_digest_418 rfl (by decide) rfl rfl ?_
  refine a_iconst (pc' := 420) (v := 0) O dX11_digest_419 (by decide) rfl ?_
  refine a_istore_n (pc' := 421) (lv' := [(3, .int 0), (1, .long v21), (0, .ref (E.2.2.2.2 0))]) O dX11_digest_420 rfl (by decide) rfl rfl ?_
  exact a_sub [2, 1, 0] rfl (okLX11_digest_421 O fu z19.2 v21 0 hf)
def BX11_digest_352 (k352 : St → Int64 → Int32 → Option (Int64 × St)) (σ : St) (x1 : Int64) (x3 : Int32) : Option (Int64 × St) :=
  if 2 ≤ x3 then BX11_digest_378 σ x1 else ((fX11_help 4 60 x3).bind (fun z28 => bL ((31 * x1) + z28) (fun v30 => bI (x3 + 1) (fun v31 => k352 σ v30 v31))))
set_option maxRecDepth 100000 in
theorem okBX11_digest_352 {E : ET} {X : XT} {z : Int64 × St} (O : Ok (YM E) X cX11_digest 5 RX11 (some .long) rmX11_digest (some (.long z.1)) z.2) (k352 : St → Int64 → Int32 → Option (Int64 × St)) (hk352 : ∀ (σ : St) (x1 : Int64) (x3 : Int32), k352 σ x1 x3 = some z → At (YM E) X 5 352 [(0, .ref (E.2.2.2.2 0)), (1, .long x1), (3, .int x3)] [] σ) (σ : St) (x1 : Int64) (x3 : Int32) (hf : BX11_digest_352 k352 σ x1 x3 = some z) : At (YM E) X 5 352 [(0, .ref (E.2.2.2.2 0)), (1, .long x1), (3, .int x3)] [] σ := by
  have hE := O.2.2.2.2.2.2.2.2.2.1
  unfold BX11_digest_352 at hf
  refine a_iload_n (pc' := 353) O dX11_digest_352 rfl 2 rfl rfl ?_
  refine a_iconst (pc' := 354) (v := 2) O dX11_digest_353 (by decide) rfl ?_
  refine a_icmp_ge (pc' := 357) (tgt := 378) O dX11_digest_354 (by decide) rfl hf (fun hf => ?_) (fun hf => ?_)
  · exact a_sub [0, 1] rfl (okBX11_digest_378 O σ x1 hf)
  · refine a_ldc2 (pc' := 360) (v := 31) O wm_998 dX11_digest_357 rfl ?_
    refine a_lload_n (pc' := 361) O dX11_digest_360 rfl 1 rfl rfl ?_
    refine a_lmul (pc' := 362) O dX11_digest_361 rfl ?_
    refine a_aload_n (pc' := 363) O dX11_digest_362 rfl 0 rfl rfl ?_
    refine a_iconst (pc' := 364) (v := 4) O dX11_digest_363 (by decide) rfl ?_
    refine a_bipush (pc' := 366) (v := 60) O dX11_digest_364 (by decide) rfl ?_
    refine a_iload_n (pc' := 367) O dX11_digest_366 rfl 2 rfl rfl ?_
    obtain ⟨z28, h29, hf⟩ := bd_some hf
    refine a_callVL (pc' := 370) (n := 3) (As := [.int 4, .int 60, .int x3]) (st := [.long (31 * x1)]) (q0 := 0) O (ctX11_help hE 4 60 x3 σ z28 h29) wm_1006 wm_695 wm_696 wm_5 wm_697 (by decide +kernel) (by decide) (gM_0 E _) hc_11 rfl rfl rfl (Nat.le_of_ble_eq_true rfl) dX11_digest_367 rfl ?_
    refine a_ladd (pc' := 371) O dX11_digest_370 rfl ?_
    refine a_topl hf (fun v30 hf => ?_)
    refine a_lstore_n (pc' := 372) (lv' := [(1, .long v30), (0, .ref (E.2.2.2.2 0)), (3, .int x3)]) O dX11_digest_371 rfl (by decide) rfl rfl ?_
    refine a_iincB (pc' := 375) (lv' := fun v31 => [(3, .int v31), (1, .long v30), (0, .ref (E.2.2.2.2 0))]) (c0 := 1) O dX11_digest_372 2 rfl (by decide) (by decide) (fun _ => rfl) rfl hf (fun v31 hf => ?_)
    refine a_goto (tgt := 352) O dX11_digest_375 (by decide) ?_
    exact a_sub [2, 1, 0] rfl (hk352 σ v30 v31 hf)
def LX11_digest_352 : Nat → St → Int64 → Int32 → Option (Int64 × St)
  | 0, _, _, _ => none
  | n + 1, σ, x1, x3 => BX11_digest_352 (LX11_digest_352 n) σ x1 x3
theorem okLX11_digest_352 {E : ET} {X : XT} {z : Int64 × St} (O : Ok (YM E) X cX11_digest 5 RX11 (some .long) rmX11_digest (some (.long z.1)) z.2) : ∀ (n : Nat) (σ : St) (x1 : Int64) (x3 : Int32), LX11_digest_352 n σ x1 x3 = some z → At (YM E) X 5 352 [(0, .ref (E.2.2.2.2 0)), (1, .long x1), (3, .int x3)] [] σ := by
  intro n
  induction n with
  | zero =>
    intro σ x1 x3 hf
    rw [LX11_digest_352] at hf
    cases hf
  | succ n ih =>
    intro σ x1 x3 hf
    rw [LX11_digest_352] at hf
    exact okBX11_digest_352 O (LX11_digest_352 n) ih σ x1 x3 hf
def BX11_digest_292 (σ : St) (x1 : Int64) : Option (Int64 × St) :=
  (fX11_judged σ).bind (fun z1 => bL ((31 * x1) + (z1.1.toInt64)) (fun v3 => (fX11_stateOf (z1.2.1 11) 0 z1.2).bind (fun z4 => bL ((31 * v3) + (z4.1.toInt64)) (fun v6 => (fX11_stateOf (z4.2.1 11) 1 z4.2).bind (fun z7 => bL ((31 * v6) + (z7.1.toInt64)) (fun v9 => (fX11_homeNow z7.2).bind (fun z10 => bL ((31 * v9) + (z10.1.toInt64)) (fun v12 => LX11_digest_352 fu z10.2 v12 0))))))))
set_option maxRecDepth 100000 in
theorem okBX11_digest_292 {E : ET} {X : XT} {z : Int64 × St} (O : Ok (YM E) X cX11_digest 5 RX11 (some .long) rmX11_digest (some (.long z.1)) z.2) (σ : St) (x1 : Int64) (hf : BX11_digest_292 σ x1 = some z) : At (YM E) X 5 292 [(0, .ref (E.2.2.2.2 0)), (1, .long x1)] [] σ := by
  have hE := O.2.2.2.2.2.2.2.2.2.1
  unfold BX11_digest_292 at hf
  refine a_ldc2 (pc' := 295) (v := 31) O wm_998 dX11_digest_292 rfl ?_
  refine a_lload_n (pc' := 296) O dX11_digest_295 rfl 1 rfl rfl ?_
  refine a_lmul (pc' := 297) O dX11_digest_296 rfl ?_
  refine a_aload_n (pc' := 298) O dX11_digest_297 rfl 0 rfl rfl ?_
  obtain ⟨z1, h2, hf⟩ := bd_some hf
  refine a_callVI (pc' := 301) (n := 0) (As := []) (st := [.long (31 * x1)]) (q0 := 0) O (ctX11_judged hE σ z1 h2) wm_1005 wm_572 wm_573 wm_5 wm_574 (by decide +kernel) (by decide) (gM_0 E _) hc_11 rfl rfl rfl (Nat.le_of_ble_eq_true rfl) dX11_digest_298 rfl ?_
  refine a_i2l (pc' := 302) O dX11_digest_301 rfl rfl ?_
  refine a_ladd (pc' := 303) O dX11_digest_302 rfl ?_
  refine a_topl hf (fun v3 hf => ?_)
  refine a_lstore_n (pc' := 304) (lv' := [(1, .long v3), (0, .ref (E.2.2.2.2 0))]) O dX11_digest_303 rfl (by decide) rfl rfl ?_
  refine a_ldc2 (pc' := 307) (v := 31) O wm_998 dX11_digest_304 rfl ?_
  refine a_lload_n (pc' := 308) O dX11_digest_307 rfl 0 rfl rfl ?_
  refine a_lmul (pc' := 309) O dX11_digest_308 rfl ?_
  refine a_aload_n (pc' := 310) O dX11_digest_309 rfl 1 rfl rfl ?_
  refine a_aload_n (pc' := 311) O dX11_digest_310 rfl 1 rfl rfl ?_
  refine gfM_0_11 (pc' := 314) O dX11_digest_311 rfl ?_
  refine a_iconst (pc' := 315) (v := 0) O dX11_digest_314 (by decide) rfl ?_
  obtain ⟨z4, h5, hf⟩ := bd_some hf
  refine a_callVI (pc' := 318) (n := 2) (As := [.int (z1.2.1 11), .int 0]) (st := [.long (31 * v3)]) (q0 := 0) O (ctX11_stateOf hE (z1.2.1 11) 0 z1.2 z4 h5) wm_618 wm_619 wm_620 wm_5 wm_621 (by decide +kernel) (by decide) (gM_0 E _) hc_11 rfl rfl rfl (Nat.le_of_ble_eq_true rfl) dX11_digest_315 rfl ?_
  refine a_i2l (pc' := 319) O dX11_digest_318 rfl rfl ?_
  refine a_ladd (pc' := 320) O dX11_digest_319 rfl ?_
  refine a_topl hf (fun v6 hf => ?_)
  refine a_lstore_n (pc' := 321) (lv' := [(1, .long v6), (0, .ref (E.2.2.2.2 0))]) O dX11_digest_320 rfl (by decide) rfl rfl ?_
  refine a_ldc2 (pc' := 324) (v := 31) O wm_998 dX11_digest_321 rfl ?_
  refine a_lload_n (pc' := 325) O dX11_digest_324 rfl 0 rfl rfl ?_
  refine a_lmul (pc' := 326) O dX11_digest_325 rfl ?_
  refine a_aload_n (pc' := 327) O dX11_digest_326 rfl 1 rfl rfl ?_
  refine a_aload_n (pc' := 328) O dX11_digest_327 rfl 1 rfl rfl ?_
  refine gfM_0_11 (pc' := 331) O dX11_digest_328 rfl ?_
  refine a_iconst (pc' := 332) (v := 1) O dX11_digest_331 (by decide) rfl ?_
  obtain ⟨z7, h8, hf⟩ := bd_some hf
  refine a_callVI (pc' := 335) (n := 2) (As := [.int (z4.2.1 11), .int 1]) (st := [.long (31 * v6)]) (q0 := 0) O (ctX11_stateOf hE (z4.2.1 11) 1 z4.2 z7 h8) wm_618 wm_619 wm_620 wm_5 wm_621 (by decide +kernel) (by decide) (gM_0 E _) hc_11 rfl rfl rfl (Nat.le_of_ble_eq_true rfl) dX11_digest_332 rfl ?_
  refine a_i2l (pc' := 336) O dX11_digest_335 rfl rfl ?_
  refine a_ladd (pc' := 337) O dX11_digest_336 rfl ?_
  refine a_topl hf (fun v9 hf => ?_)
  refine a_lstore_n (pc' := 338) (lv' := [(1, .long v9), (0, .ref (E.2.2.2.2 0))]) O dX11_digest_337 rfl (by decide) rfl rfl ?_
  refine a_ldc2 (pc' := 341) (v := 31) O wm_998 dX11_digest_338 rfl ?_
  refine a_lload_n (pc' := 342) O dX11_digest_341 rfl 0 rfl rfl ?_
  refine a_lmul (pc' := 343) O dX11_digest_342 rfl ?_
  refine a_aload_n (pc' := 344) O dX11_digest_343 rfl 1 rfl rfl ?_
  obtain ⟨z10, h11, hf⟩ := bd_some hf
  refine a_callVI (pc' := 347) (n := 0) (As := []) (st := [.long (31 * v9)]) (q0 := 0) O (ctX11_homeNow hE z7.2 z10 h11) wm_646 wm_647 wm_648 wm_5 wm_649 (by decide +kernel) (by decide) (gM_0 E _) hc_11 rfl rfl rfl (Nat.le_of_ble_eq_true rfl) dX11_digest_344 rfl ?_
  refine a_i2l (pc' := 348) O dX11_digest_347 rfl rfl ?_
  refine a_ladd (pc' := 349) O dX11_digest_348 rfl ?_
  refine a_topl hf (fun v12 hf => ?_)
  refine a_lstore_n (pc' := 350) (lv' := [(1, .long v12), (0, .ref (E.2.2.2.2 0))]) O dX11_digest_349 rfl (by decide) rfl rfl ?_
  refine a_iconst (pc' := 351) (v := 0) O dX11_digest_350 (by decide) rfl ?_
  refine a_istore_n (pc' := 352) (lv' := [(3, .int 0), (1, .long v12), (0, .ref (E.2.2.2.2 0))]) O dX11_digest_351 rfl (by decide) rfl rfl ?_
  exact a_sub [2, 1, 0] rfl (okLX11_digest_352 O fu z10.2 v12 0 hf)
def BX11_digest_269 (k269 : St → Int64 → Int32 → Option (Int64 × St)) (σ : St) (x1 : Int64) (x3 : Int32) : Option (Int64 × St) :=
  if 2 ≤ x3 then BX11_digest_292 σ x1 else ((fX11_pointOf x3 σ).bind (fun z32 => bL ((31 * x1) + z32) (fun v34 => bI (x3 + 1) (fun v35 => k269 σ v34 v35))))
set_option maxRecDepth 100000 in
theorem okBX11_digest_269 {E : ET} {X : XT} {z : Int64 × St} (O : Ok (YM E) X cX11_digest 5 RX11 (some .long) rmX11_digest (some (.long z.1)) z.2) (k269 : St → Int64 → Int32 → Option (Int64 × St)) (hk269 : ∀ (σ : St) (x1 : Int64) (x3 : Int32), k269 σ x1 x3 = some z → At (YM E) X 5 269 [(0, .ref (E.2.2.2.2 0)), (1, .long x1), (3, .int x3)] [] σ) (σ : St) (x1 : Int64) (x3 : Int32) (hf : BX11_digest_269 k269 σ x1 x3 = some z) : At (YM E) X 5 269 [(0, .ref (E.2.2.2.2 0)), (1, .long x1), (3, .int x3)] [] σ := by
  have hE := O.2.2.2.2.2.2.2.2.2.1
  unfold BX11_digest_269 at hf
  refine a_iload_n (pc' := 270) O dX11_digest_269 rfl 2 rfl rfl ?_
  refine a_iconst (pc' := 271) (v := 2) O dX11_digest_270 (by decide) rfl ?_
  refine a_icmp_ge (pc' := 274) (tgt := 292) O dX11_digest_271 (by decide) rfl hf (fun hf => ?_) (fun hf => ?_)
  · exact a_sub [0, 1] rfl (okBX11_digest_292 O σ x1 hf)
  · refine a_ldc2 (pc' := 277) (v := 31) O wm_998 dX11_digest_274 rfl ?_
    refine a_lload_n (pc' := 278) O dX11_digest_277 rfl 1 rfl rfl ?_
    refine a_lmul (pc' := 279) O dX11_digest_278 rfl ?_
    refine a_aload_n (pc' := 280) O dX11_digest_279 rfl 0 rfl rfl ?_
    refine a_iload_n (pc' := 281) O dX11_digest_280 rfl 2 rfl rfl ?_
    obtain ⟨z32, h33, hf⟩ := bd_some hf
    refine a_callVL (pc' := 284) (n := 1) (As := [.int x3]) (st := [.long (31 * x1)]) (q0 := 0) O (ctX11_pointOf hE x3 σ z32 h33) wm_508 wm_509 wm_510 wm_5 wm_511 (by decide +kernel) (by decide) (gM_0 E _) hc_11 rfl rfl rfl (Nat.le_of_ble_eq_true rfl) dX11_digest_281 rfl ?_
    refine a_ladd (pc' := 285) O dX11_digest_284 rfl ?_
    refine a_topl hf (fun v34 hf => ?_)
    refine a_lstore_n (pc' := 286) (lv' := [(1, .long v34), (0, .ref (E.2.2.2.2 0)), (3, .int x3)]) O dX11_digest_285 rfl (by decide) rfl rfl ?_
    refine a_iincB (pc' := 289) (lv' := fun v35 => [(3, .int v35), (1, .long v34), (0, .ref (E.2.2.2.2 0))]) (c0 := 1) O dX11_digest_286 2 rfl (by decide) (by decide) (fun _ => rfl) rfl hf (fun v35 hf => ?_)
    refine a_goto (tgt := 269) O dX11_digest_289 (by decide) ?_
    exact a_sub [2, 1, 0] rfl (hk269 σ v34 v35 hf)
def LX11_digest_269 : Nat → St → Int64 → Int32 → Option (Int64 × St)
  | 0, _, _, _ => none
  | n + 1, σ, x1, x3 => BX11_digest_269 (LX11_digest_269 n) σ x1 x3
theorem okLX11_digest_269 {E : ET} {X : XT} {z : Int64 × St} (O : Ok (YM E) X cX11_digest 5 RX11 (some .long) rmX11_digest (some (.long z.1)) z.2) : ∀ (n : Nat) (σ : St) (x1 : Int64) (x3 : Int32), LX11_digest_269 n σ x1 x3 = some z → At (YM E) X 5 269 [(0, .ref (E.2.2.2.2 0)), (1, .long x1), (3, .int x3)] [] σ := by
  intro n
  induction n with
  | zero =>
    intro σ x1 x3 hf
    rw [LX11_digest_269] at hf
    cases hf
  | succ n ih =>
    intro σ x1 x3 hf
    rw [LX11_digest_269] at hf
    exact okBX11_digest_269 O (LX11_digest_269 n) ih σ x1 x3 hf
def BX11_digest_234 (k234 : St → Int64 → Int32 → Int32 → Option (Int64 × St)) (k197 : St → Int64 → Int32 → Option (Int64 × St)) (σ : St) (x1 : Int64) (x3 : Int32) (x4 : Int32) : Option (Int64 × St) :=
  if 3 ≤ x4 then bI (x3 + 1) (fun v36 => k197 σ x1 v36) else ((fX11_rule 3 x3 x4 σ).bind (fun z37 => bL ((31 * x1) + z37.1) (fun v39 => bI (x4 + 1) (fun v40 => k234 z37.2 v39 x3 v40))))
set_option maxRecDepth 100000 in
theorem okBX11_digest_234 {E : ET} {X : XT} {z : Int64 × St} (O : Ok (YM E) X cX11_digest 5 RX11 (some .long) rmX11_digest (some (.long z.1)) z.2) (k234 : St → Int64 → Int32 → Int32 → Option (Int64 × St)) (hk234 : ∀ (σ : St) (x1 : Int64) (x3 : Int32) (x4 : Int32), k234 σ x1 x3 x4 = some z → At (YM E) X 5 234 [(0, .ref (E.2.2.2.2 0)), (1, .long x1), (3, .int x3), (4, .int x4)] [] σ) (k197 : St → Int64 → Int32 → Option (Int64 × St)) (hk197 : ∀ (σ : St) (x1 : Int64) (x3 : Int32), k197 σ x1 x3 = some z → At (YM E) X 5 197 [(0, .ref (E.2.2.2.2 0)), (1, .long x1), (3, .int x3)] [] σ) (σ : St) (x1 : Int64) (x3 : Int32) (x4 : Int32) (hf : BX11_digest_234 k234 k197 σ x1 x3 x4 = some z) : At (YM E) X 5 234 [(0, .ref (E.2.2.2.2 0)), (1, .long x1), (3, .int x3), (4, .int x4)] [] σ := by
  have hE := O.2.2.2.2.2.2.2.2.2.1
  unfold BX11_digest_234 at hf
  refine a_iload (pc' := 236) O dX11_digest_234 3 rfl rfl ?_
  refine a_iconst (pc' := 237) (v := 3) O dX11_digest_236 (by decide) rfl ?_
  refine a_icmp_ge (pc' := 240) (tgt := 261) O dX11_digest_237 (by decide) rfl hf (fun hf => ?_) (fun hf => ?_)
  · refine a_iincB (pc' := 264) (lv' := fun v36 => [(3, .int v36), (0, .ref (E.2.2.2.2 0)), (1, .long x1), (4, .int x4)]) (c0 := 1) O dX11_digest_261 2 rfl (by decide) (by decide) (fun _ => rfl) rfl hf (fun v36 hf => ?_)
    refine a_goto (tgt := 197) O dX11_digest_264 (by decide) ?_
    exact a_sub [1, 2, 0] rfl (hk197 σ x1 v36 hf)
  · refine a_ldc2 (pc' := 243) (v := 31) O wm_998 dX11_digest_240 rfl ?_
    refine a_lload_n (pc' := 244) O dX11_digest_243 rfl 1 rfl rfl ?_
    refine a_lmul (pc' := 245) O dX11_digest_244 rfl ?_
    refine a_aload_n (pc' := 246) O dX11_digest_245 rfl 0 rfl rfl ?_
    refine a_iconst (pc' := 247) (v := 3) O dX11_digest_246 (by decide) rfl ?_
    refine a_iload_n (pc' := 248) O dX11_digest_247 rfl 2 rfl rfl ?_
    refine a_iload (pc' := 250) O dX11_digest_248 3 rfl rfl ?_
    obtain ⟨z37, h38, hf⟩ := bd_some hf
    refine a_callVL (pc' := 253) (n := 3) (As := [.int 3, .int x3, .int x4]) (st := [.long (31 * x1)]) (q0 := 0) O (ctX11_rule hE 3 x3 x4 σ z37 h38) wm_1004 wm_484 wm_485 wm_5 wm_486 (by decide +kernel) (by decide) (gM_0 E _) hc_11 rfl rfl rfl (Nat.le_of_ble_eq_true rfl) dX11_digest_250 rfl ?_
    refine a_ladd (pc' := 254) O dX11_digest_253 rfl ?_
    refine a_topl hf (fun v39 hf => ?_)
    refine a_lstore_n (pc' := 255) (lv' := [(1, .long v39), (0, .ref (E.2.2.2.2 0)), (3, .int x3), (4, .int x4)]) O dX11_digest_254 rfl (by decide) rfl rfl ?_
    refine a_iincB (pc' := 258) (lv' := fun v40 => [(4, .int v40), (1, .long v39), (0, .ref (E.2.2.2.2 0)), (3, .int x3)]) (c0 := 1) O dX11_digest_255 3 rfl (by decide) (by decide) (fun _ => rfl) rfl hf (fun v40 hf => ?_)
    refine a_goto (tgt := 234) O dX11_digest_258 (by decide) ?_
    exact a_sub [2, 1, 3, 0] rfl (hk234 z37.2 v39 x3 v40 hf)
def LX11_digest_234 (k197 : St → Int64 → Int32 → Option (Int64 × St)) : Nat → St → Int64 → Int32 → Int32 → Option (Int64 × St)
  | 0, _, _, _, _ => none
  | n + 1, σ, x1, x3, x4 => BX11_digest_234 (LX11_digest_234 k197 n) k197 σ x1 x3 x4
theorem okLX11_digest_234 {E : ET} {X : XT} {z : Int64 × St} (O : Ok (YM E) X cX11_digest 5 RX11 (some .long) rmX11_digest (some (.long z.1)) z.2) (k197 : St → Int64 → Int32 → Option (Int64 × St)) (hk197 : ∀ (σ : St) (x1 : Int64) (x3 : Int32), k197 σ x1 x3 = some z → At (YM E) X 5 197 [(0, .ref (E.2.2.2.2 0)), (1, .long x1), (3, .int x3)] [] σ) : ∀ (n : Nat) (σ : St) (x1 : Int64) (x3 : Int32) (x4 : Int32), LX11_digest_234 k197 n σ x1 x3 x4 = some z → At (YM E) X 5 234 [(0, .ref (E.2.2.2.2 0)), (1, .long x1), (3, .int x3), (4, .int x4)] [] σ := by
  intro n
  induction n with
  | zero =>
    intro σ x1 x3 x4 hf
    rw [LX11_digest_234] at hf
    cases hf
  | succ n ih =>
    intro σ x1 x3 x4 hf
    rw [LX11_digest_234] at hf
    exact okBX11_digest_234 O (LX11_digest_234 k197 n) ih k197 hk197 σ x1 x3 x4 hf
def BX11_digest_205 (k205 : St → Int64 → Int32 → Int32 → Option (Int64 × St)) (k197 : St → Int64 → Int32 → Option (Int64 × St)) (σ : St) (x1 : Int64) (x3 : Int32) (x4 : Int32) : Option (Int64 × St) :=
  if 2 ≤ x4 then LX11_digest_234 k197 fu σ x1 x3 0 else ((fX11_safe x3 x4 σ).bind (fun z41 => bL ((31 * x1) + z41.1) (fun v43 => bI (x4 + 1) (fun v44 => k205 z41.2 v43 x3 v44))))
set_option maxRecDepth 100000 in
theorem okBX11_digest_205 {E : ET} {X : XT} {z : Int64 × St} (O : Ok (YM E) X cX11_digest 5 RX11 (some .long) rmX11_digest (some (.long z.1)) z.2) (k205 : St → Int64 → Int32 → Int32 → Option (Int64 × St)) (hk205 : ∀ (σ : St) (x1 : Int64) (x3 : Int32) (x4 : Int32), k205 σ x1 x3 x4 = some z → At (YM E) X 5 205 [(0, .ref (E.2.2.2.2 0)), (1, .long x1), (3, .int x3), (4, .int x4)] [] σ) (k197 : St → Int64 → Int32 → Option (Int64 × St)) (hk197 : ∀ (σ : St) (x1 : Int64) (x3 : Int32), k197 σ x1 x3 = some z → At (YM E) X 5 197 [(0, .ref (E.2.2.2.2 0)), (1, .long x1), (3, .int x3)] [] σ) (σ : St) (x1 : Int64) (x3 : Int32) (x4 : Int32) (hf : BX11_digest_205 k205 k197 σ x1 x3 x4 = some z) : At (YM E) X 5 205 [(0, .ref (E.2.2.2.2 0)), (1, .long x1), (3, .int x3), (4, .int x4)] [] σ := by
  have hE := O.2.2.2.2.2.2.2.2.2.1
  unfold BX11_digest_205 at hf
  refine a_iload (pc' := 207) O dX11_digest_205 3 rfl rfl ?_
  refine a_iconst (pc' := 208) (v := 2) O dX11_digest_207 (by decide) rfl ?_
  refine a_icmp_ge (pc' := 211) (tgt := 231) O dX11_digest_208 (by decide) rfl hf (fun hf => ?_) (fun hf => ?_)
  · refine a_iconst (pc' := 232) (v := 0) O dX11_digest_231 (by decide) rfl ?_
    refine a_istore (pc' := 234) (lv' := [(4, .int 0), (0, .ref (E.2.2.2.2 0)), (1, .long x1), (3, .int x3)]) O dX11_digest_232 (by decide) rfl rfl ?_
    exact a_sub [1, 2, 3, 0] rfl (okLX11_digest_234 O k197 hk197 fu σ x1 x3 0 hf)
  · refine a_ldc2 (pc' := 214) (v := 31) O wm_998 dX11_digest_211 rfl ?_
    refine a_lload_n (pc' := 215) O dX11_digest_214 rfl 1 rfl rfl ?_
    refine a_lmul (pc' := 216) O dX11_digest_215 rfl ?_
    refine a_aload_n (pc' := 217) O dX11_digest_216 rfl 0 rfl rfl ?_
    refine a_iload_n (pc' := 218) O dX11_digest_217 rfl 2 rfl rfl ?_
    refine a_iload (pc' := 220) O dX11_digest_218 3 rfl rfl ?_
    obtain ⟨z41, h42, hf⟩ := bd_some hf
    refine a_callVL (pc' := 223) (n := 2) (As := [.int x3, .int x4]) (st := [.long (31 * x1)]) (q0 := 0) O (ctX11_safe hE x3 x4 σ z41 h42) wm_1003 wm_452 wm_453 wm_5 wm_454 (by decide +kernel) (by decide) (gM_0 E _) hc_11 rfl rfl rfl (Nat.le_of_ble_eq_true rfl) dX11_digest_220 rfl ?_
    refine a_ladd (pc' := 224) O dX11_digest_223 rfl ?_
    refine a_topl hf (fun v43 hf => ?_)
    refine a_lstore_n (pc' := 225) (lv' := [(1, .long v43), (0, .ref (E.2.2.2.2 0)), (3, .int x3), (4, .int x4)]) O dX11_digest_224 rfl (by decide) rfl rfl ?_
    refine a_iincB (pc' := 228) (lv' := fun v44 => [(4, .int v44), (1, .long v43), (0, .ref (E.2.2.2.2 0)), (3, .int x3)]) (c0 := 1) O dX11_digest_225 3 rfl (by decide) (by decide) (fun _ => rfl) rfl hf (fun v44 hf => ?_)
    refine a_goto (tgt := 205) O dX11_digest_228 (by decide) ?_
    exact a_sub [2, 1, 3, 0] rfl (hk205 z41.2 v43 x3 v44 hf)
def LX11_digest_205 (k197 : St → Int64 → Int32 → Option (Int64 × St)) : Nat → St → Int64 → Int32 → Int32 → Option (Int64 × St)
  | 0, _, _, _, _ => none
  | n + 1, σ, x1, x3, x4 => BX11_digest_205 (LX11_digest_205 k197 n) k197 σ x1 x3 x4
theorem okLX11_digest_205 {E : ET} {X : XT} {z : Int64 × St} (O : Ok (YM E) X cX11_digest 5 RX11 (some .long) rmX11_digest (some (.long z.1)) z.2) (k197 : St → Int64 → Int32 → Option (Int64 × St)) (hk197 : ∀ (σ : St) (x1 : Int64) (x3 : Int32), k197 σ x1 x3 = some z → At (YM E) X 5 197 [(0, .ref (E.2.2.2.2 0)), (1, .long x1), (3, .int x3)] [] σ) : ∀ (n : Nat) (σ : St) (x1 : Int64) (x3 : Int32) (x4 : Int32), LX11_digest_205 k197 n σ x1 x3 x4 = some z → At (YM E) X 5 205 [(0, .ref (E.2.2.2.2 0)), (1, .long x1), (3, .int x3), (4, .int x4)] [] σ := by
  intro n
  induction n with
  | zero =>
    intro σ x1 x3 x4 hf
    rw [LX11_digest_205] at hf
    cases hf
  | succ n ih =>
    intro σ x1 x3 x4 hf
    rw [LX11_digest_205] at hf
    exact okBX11_digest_205 O (LX11_digest_205 k197 n) ih k197 hk197 σ x1 x3 x4 hf
def BX11_digest_197 (k197 : St → Int64 → Int32 → Option (Int64 × St)) (σ : St) (x1 : Int64) (x3 : Int32) : Option (Int64 × St) :=
  if 4 ≤ x3 then LX11_digest_269 fu σ x1 0 else (LX11_digest_205 k197 fu σ x1 x3 0)
set_option maxRecDepth 100000 in
theorem okBX11_digest_197 {E : ET} {X : XT} {z : Int64 × St} (O : Ok (YM E) X cX11_digest 5 RX11 (some .long) rmX11_digest (some (.long z.1)) z.2) (k197 : St → Int64 → Int32 → Option (Int64 × St)) (hk197 : ∀ (σ : St) (x1 : Int64) (x3 : Int32), k197 σ x1 x3 = some z → At (YM E) X 5 197 [(0, .ref (E.2.2.2.2 0)), (1, .long x1), (3, .int x3)] [] σ) (σ : St) (x1 : Int64) (x3 : Int32) (hf : BX11_digest_197 k197 σ x1 x3 = some z) : At (YM E) X 5 197 [(0, .ref (E.2.2.2.2 0)), (1, .long x1), (3, .int x3)] [] σ := by
  have hE := O.2.2.2.2.2.2.2.2.2.1
  unfold BX11_digest_197 at hf
  refine a_iload_n (pc' := 198) O dX11_digest_197 rfl 2 rfl rfl ?_
  refine a_iconst (pc' := 199) (v := 4) O dX11_digest_198 (by decide) rfl ?_
  refine a_icmp_ge (pc' := 202) (tgt := 267) O dX11_digest_199 (by decide) rfl hf (fun hf => ?_) (fun hf => ?_)
  · refine a_iconst (pc' := 268) (v := 0) O dX11_digest_267 (by decide) rfl ?_
    refine a_istore_n (pc' := 269) (lv' := [(3, .int 0), (0, .ref (E.2.2.2.2 0)), (1, .long x1)]) O dX11_digest_268 rfl (by decide) rfl rfl ?_
    exact a_sub [1, 2, 0] rfl (okLX11_digest_269 O fu σ x1 0 hf)
  · refine a_iconst (pc' := 203) (v := 0) O dX11_digest_202 (by decide) rfl ?_
    refine a_istore (pc' := 205) (lv' := [(4, .int 0), (0, .ref (E.2.2.2.2 0)), (1, .long x1), (3, .int x3)]) O dX11_digest_203 (by decide) rfl rfl ?_
    exact a_sub [1, 2, 3, 0] rfl (okLX11_digest_205 O k197 hk197 fu σ x1 x3 0 hf)
def LX11_digest_197 : Nat → St → Int64 → Int32 → Option (Int64 × St)
  | 0, _, _, _ => none
  | n + 1, σ, x1, x3 => BX11_digest_197 (LX11_digest_197 n) σ x1 x3
theorem okLX11_digest_197 {E : ET} {X : XT} {z : Int64 × St} (O : Ok (YM E) X cX11_digest 5 RX11 (some .long) rmX11_digest (some (.long z.1)) z.2) : ∀ (n : Nat) (σ : St) (x1 : Int64) (x3 : Int32), LX11_digest_197 n σ x1 x3 = some z → At (YM E) X 5 197 [(0, .ref (E.2.2.2.2 0)), (1, .long x1), (3, .int x3)] [] σ := by
  intro n
  induction n with
  | zero =>
    intro σ x1 x3 hf
    rw [LX11_digest_197] at hf
    cases hf
  | succ n ih =>
    intro σ x1 x3 hf
    rw [LX11_digest_197] at hf
    exact okBX11_digest_197 O (LX11_digest_197 n) ih σ x1 x3 hf
def BX11_digest_142 (k105 : St → Int64 → Int32 → Option (Int64 × St)) (σ : St) (x1 : Int64) (x3 : Int32) : Option (Int64 × St) :=
  (fX11_leftOf (σ.1 11) x3 σ).bind (fun z45 => bL ((31 * x1) + (z45.1.toInt64)) (fun v47 => (fX11_unlit 3 x3 0 z45.2).bind (fun z48 => bL ((31 * v47) + (z48.1.toInt64)) (fun v50 => (fX11_unlit 3 x3 1 z48.2).bind (fun z51 => bL ((31 * v50) + (z51.1.toInt64)) (fun v53 => bI (x3 + 1) (fun v54 => k105 z51.2 v53 v54)))))))
set_option maxRecDepth 100000 in
theorem okBX11_digest_142 {E : ET} {X : XT} {z : Int64 × St} (O : Ok (YM E) X cX11_digest 5 RX11 (some .long) rmX11_digest (some (.long z.1)) z.2) (k105 : St → Int64 → Int32 → Option (Int64 × St)) (hk105 : ∀ (σ : St) (x1 : Int64) (x3 : Int32), k105 σ x1 x3 = some z → At (YM E) X 5 105 [(0, .ref (E.2.2.2.2 0)), (1, .long x1), (3, .int x3)] [] σ) (σ : St) (x1 : Int64) (x3 : Int32) (hf : BX11_digest_142 k105 σ x1 x3 = some z) : At (YM E) X 5 142 [(0, .ref (E.2.2.2.2 0)), (1, .long x1), (3, .int x3)] [] σ := by
  have hE := O.2.2.2.2.2.2.2.2.2.1
  unfold BX11_digest_142 at hf
  refine a_ldc2 (pc' := 145) (v := 31) O wm_998 dX11_digest_142 rfl ?_
  refine a_lload_n (pc' := 146) O dX11_digest_145 rfl 1 rfl rfl ?_
  refine a_lmul (pc' := 147) O dX11_digest_146 rfl ?_
  refine a_aload_n (pc' := 148) O dX11_digest_147 rfl 0 rfl rfl ?_
  refine a_aload_n (pc' := 149) O dX11_digest_148 rfl 0 rfl rfl ?_
  refine gfM_0_11 (pc' := 152) O dX11_digest_149 rfl ?_
  refine a_iload_n (pc' := 153) O dX11_digest_152 rfl 2 rfl rfl ?_
  obtain ⟨z45, h46, hf⟩ := bd_some hf
  refine a_callVI (pc' := 156) (n := 2) (As := [.int (σ.1 11), .int x3]) (st := [.long (31 * x1)]) (q0 := 0) O (ctX11_leftOf hE (σ.1 11) x3 σ z45 h46) wm_634 wm_635 wm_636 wm_5 wm_637 (by decide +kernel) (by decide) (gM_0 E _) hc_11 rfl rfl rfl (Nat.le_of_ble_eq_true rfl) dX11_digest_153 rfl ?_
  refine a_i2l (pc' := 157) O dX11_digest_156 rfl rfl ?_
  refine a_ladd (pc' := 158) O dX11_digest_157 rfl ?_
  refine a_topl hf (fun v47 hf => ?_)
  refine a_lstore_n (pc' := 159) (lv' := [(1, .long v47), (0, .ref (E.2.2.2.2 0)), (3, .int x3)]) O dX11_digest_158 rfl (by decide) rfl rfl ?_
  refine a_ldc2 (pc' := 162) (v := 31) O wm_998 dX11_digest_159 rfl ?_
  refine a_lload_n (pc' := 163) O dX11_digest_162 rfl 0 rfl rfl ?_
  refine a_lmul (pc' := 164) O dX11_digest_163 rfl ?_
  refine a_aload_n (pc' := 165) O dX11_digest_164 rfl 1 rfl rfl ?_
  refine a_iconst (pc' := 166) (v := 3) O dX11_digest_165 (by decide) rfl ?_
  refine a_iload_n (pc' := 167) O dX11_digest_166 rfl 2 rfl rfl ?_
  refine a_iconst (pc' := 168) (v := 0) O dX11_digest_167 (by decide) rfl ?_
  obtain ⟨z48, h49, hf⟩ := bd_some hf
  refine a_callVI (pc' := 171) (n := 3) (As := [.int 3, .int x3, .int 0]) (st := [.long (31 * v47)]) (q0 := 0) O (ctX11_unlit hE 3 x3 0 z45.2 z48 h49) wm_1002 wm_675 wm_676 wm_5 wm_677 (by decide +kernel) (by decide) (gM_0 E _) hc_11 rfl rfl rfl (Nat.le_of_ble_eq_true rfl) dX11_digest_168 rfl ?_
  refine a_i2l (pc' := 172) O dX11_digest_171 rfl rfl ?_
  refine a_ladd (pc' := 173) O dX11_digest_172 rfl ?_
  refine a_topl hf (fun v50 hf => ?_)
  refine a_lstore_n (pc' := 174) (lv' := [(1, .long v50), (0, .ref (E.2.2.2.2 0)), (3, .int x3)]) O dX11_digest_173 rfl (by decide) rfl rfl ?_
  refine a_ldc2 (pc' := 177) (v := 31) O wm_998 dX11_digest_174 rfl ?_
  refine a_lload_n (pc' := 178) O dX11_digest_177 rfl 0 rfl rfl ?_
  refine a_lmul (pc' := 179) O dX11_digest_178 rfl ?_
  refine a_aload_n (pc' := 180) O dX11_digest_179 rfl 1 rfl rfl ?_
  refine a_iconst (pc' := 181) (v := 3) O dX11_digest_180 (by decide) rfl ?_
  refine a_iload_n (pc' := 182) O dX11_digest_181 rfl 2 rfl rfl ?_
  refine a_iconst (pc' := 183) (v := 1) O dX11_digest_182 (by decide) rfl ?_
  obtain ⟨z51, h52, hf⟩ := bd_some hf
  refine a_callVI (pc' := 186) (n := 3) (As := [.int 3, .int x3, .int 1]) (st := [.long (31 * v50)]) (q0 := 0) O (ctX11_unlit hE 3 x3 1 z48.2 z51 h52) wm_1002 wm_675 wm_676 wm_5 wm_677 (by decide +kernel) (by decide) (gM_0 E _) hc_11 rfl rfl rfl (Nat.le_of_ble_eq_true rfl) dX11_digest_183 rfl ?_
  refine a_i2l (pc' := 187) O dX11_digest_186 rfl rfl ?_
  refine a_ladd (pc' := 188) O dX11_digest_187 rfl ?_
  refine a_topl hf (fun v53 hf => ?_)
  refine a_lstore_n (pc' := 189) (lv' := [(1, .long v53), (0, .ref (E.2.2.2.2 0)), (3, .int x3)]) O dX11_digest_188 rfl (by decide) rfl rfl ?_
  refine a_iincB (pc' := 192) (lv' := fun v54 => [(3, .int v54), (1, .long v53), (0, .ref (E.2.2.2.2 0))]) (c0 := 1) O dX11_digest_189 2 rfl (by decide) (by decide) (fun _ => rfl) rfl hf (fun v54 hf => ?_)
  refine a_goto (tgt := 105) O dX11_digest_192 (by decide) ?_
  exact a_sub [2, 1, 0] rfl (hk105 z51.2 v53 v54 hf)
def BX11_digest_116 (k116 : St → Int64 → Int32 → Int32 → Option (Int64 × St)) (k105 : St → Int64 → Int32 → Option (Int64 × St)) (σ : St) (x1 : Int64) (x3 : Int32) (x4 : Int32) : Option (Int64 × St) :=
  if 2 ≤ x4 then BX11_digest_142 k105 σ x1 x3 else ((fX11_far x3 x4 σ).bind (fun z55 => bL ((31 * x1) + z55.1) (fun v57 => bI (x4 + 1) (fun v58 => k116 z55.2 v57 x3 v58))))
set_option maxRecDepth 100000 in
theorem okBX11_digest_116 {E : ET} {X : XT} {z : Int64 × St} (O : Ok (YM E) X cX11_digest 5 RX11 (some .long) rmX11_digest (some (.long z.1)) z.2) (k116 : St → Int64 → Int32 → Int32 → Option (Int64 × St)) (hk116 : ∀ (σ : St) (x1 : Int64) (x3 : Int32) (x4 : Int32), k116 σ x1 x3 x4 = some z → At (YM E) X 5 116 [(0, .ref (E.2.2.2.2 0)), (1, .long x1), (3, .int x3), (4, .int x4)] [] σ) (k105 : St → Int64 → Int32 → Option (Int64 × St)) (hk105 : ∀ (σ : St) (x1 : Int64) (x3 : Int32), k105 σ x1 x3 = some z → At (YM E) X 5 105 [(0, .ref (E.2.2.2.2 0)), (1, .long x1), (3, .int x3)] [] σ) (σ : St) (x1 : Int64) (x3 : Int32) (x4 : Int32) (hf : BX11_digest_116 k116 k105 σ x1 x3 x4 = some z) : At (YM E) X 5 116 [(0, .ref (E.2.2.2.2 0)), (1, .long x1), (3, .int x3), (4, .int x4)] [] σ := by
  have hE := O.2.2.2.2.2.2.2.2.2.1
  unfold BX11_digest_116 at hf
  refine a_iload (pc' := 118) O dX11_digest_116 3 rfl rfl ?_
  refine a_iconst (pc' := 119) (v := 2) O dX11_digest_118 (by decide) rfl ?_
  refine a_icmp_ge (pc' := 122) (tgt := 142) O dX11_digest_119 (by decide) rfl hf (fun hf => ?_) (fun hf => ?_)
  · exact a_sub [0, 1, 2] rfl (okBX11_digest_142 O k105 hk105 σ x1 x3 hf)
  · refine a_ldc2 (pc' := 125) (v := 31) O wm_998 dX11_digest_122 rfl ?_
    refine a_lload_n (pc' := 126) O dX11_digest_125 rfl 1 rfl rfl ?_
    refine a_lmul (pc' := 127) O dX11_digest_126 rfl ?_
    refine a_aload_n (pc' := 128) O dX11_digest_127 rfl 0 rfl rfl ?_
    refine a_iload_n (pc' := 129) O dX11_digest_128 rfl 2 rfl rfl ?_
    refine a_iload (pc' := 131) O dX11_digest_129 3 rfl rfl ?_
    obtain ⟨z55, h56, hf⟩ := bd_some hf
    refine a_callVL (pc' := 134) (n := 2) (As := [.int x3, .int x4]) (st := [.long (31 * x1)]) (q0 := 0) O (ctX11_far hE x3 x4 σ z55 h56) wm_1001 wm_415 wm_416 wm_5 wm_417 (by decide +kernel) (by decide) (gM_0 E _) hc_11 rfl rfl rfl (Nat.le_of_ble_eq_true rfl) dX11_digest_131 rfl ?_
    refine a_ladd (pc' := 135) O dX11_digest_134 rfl ?_
    refine a_topl hf (fun v57 hf => ?_)
    refine a_lstore_n (pc' := 136) (lv' := [(1, .long v57), (0, .ref (E.2.2.2.2 0)), (3, .int x3), (4, .int x4)]) O dX11_digest_135 rfl (by decide) rfl rfl ?_
    refine a_iincB (pc' := 139) (lv' := fun v58 => [(4, .int v58), (1, .long v57), (0, .ref (E.2.2.2.2 0)), (3, .int x3)]) (c0 := 1) O dX11_digest_136 3 rfl (by decide) (by decide) (fun _ => rfl) rfl hf (fun v58 hf => ?_)
    refine a_goto (tgt := 116) O dX11_digest_139 (by decide) ?_
    exact a_sub [2, 1, 3, 0] rfl (hk116 z55.2 v57 x3 v58 hf)
def LX11_digest_116 (k105 : St → Int64 → Int32 → Option (Int64 × St)) : Nat → St → Int64 → Int32 → Int32 → Option (Int64 × St)
  | 0, _, _, _, _ => none
  | n + 1, σ, x1, x3, x4 => BX11_digest_116 (LX11_digest_116 k105 n) k105 σ x1 x3 x4
theorem okLX11_digest_116 {E : ET} {X : XT} {z : Int64 × St} (O : Ok (YM E) X cX11_digest 5 RX11 (some .long) rmX11_digest (some (.long z.1)) z.2) (k105 : St → Int64 → Int32 → Option (Int64 × St)) (hk105 : ∀ (σ : St) (x1 : Int64) (x3 : Int32), k105 σ x1 x3 = some z → At (YM E) X 5 105 [(0, .ref (E.2.2.2.2 0)), (1, .long x1), (3, .int x3)] [] σ) : ∀ (n : Nat) (σ : St) (x1 : Int64) (x3 : Int32) (x4 : Int32), LX11_digest_116 k105 n σ x1 x3 x4 = some z → At (YM E) X 5 116 [(0, .ref (E.2.2.2.2 0)), (1, .long x1), (3, .int x3), (4, .int x4)] [] σ := by
  intro n
  induction n with
  | zero =>
    intro σ x1 x3 x4 hf
    rw [LX11_digest_116] at hf
    cases hf
  | succ n ih =>
    intro σ x1 x3 x4 hf
    rw [LX11_digest_116] at hf
    exact okBX11_digest_116 O (LX11_digest_116 k105 n) ih k105 hk105 σ x1 x3 x4 hf
def BX11_digest_105 (k105 : St → Int64 → Int32 → Option (Int64 × St)) (σ : St) (x1 : Int64) (x3 : Int32) : Option (Int64 × St) :=
  if (σ.1 12) ≤ x3 then LX11_digest_197 fu σ x1 0 else (LX11_digest_116 k105 fu σ x1 x3 0)
set_option maxRecDepth 100000 in
theorem okBX11_digest_105 {E : ET} {X : XT} {z : Int64 × St} (O : Ok (YM E) X cX11_digest 5 RX11 (some .long) rmX11_digest (some (.long z.1)) z.2) (k105 : St → Int64 → Int32 → Option (Int64 × St)) (hk105 : ∀ (σ : St) (x1 : Int64) (x3 : Int32), k105 σ x1 x3 = some z → At (YM E) X 5 105 [(0, .ref (E.2.2.2.2 0)), (1, .long x1), (3, .int x3)] [] σ) (σ : St) (x1 : Int64) (x3 : Int32) (hf : BX11_digest_105 k105 σ x1 x3 = some z) : At (YM E) X 5 105 [(0, .ref (E.2.2.2.2 0)), (1, .long x1), (3, .int x3)] [] σ := by
  have hE := O.2.2.2.2.2.2.2.2.2.1
  unfold BX11_digest_105 at hf
  refine a_iload_n (pc' := 106) O dX11_digest_105 rfl 2 rfl rfl ?_
  refine a_aload_n (pc' := 107) O dX11_digest_106 rfl 0 rfl rfl ?_
  refine gfM_0_12 (pc' := 110) O dX11_digest_107 rfl ?_
  refine a_icmp_ge (pc' := 113) (tgt := 195) O dX11_digest_110 (by decide) rfl hf (fun hf => ?_) (fun hf => ?_)
  · refine a_iconst (pc' := 196) (v := 0) O dX11_digest_195 (by decide) rfl ?_
    refine a_istore_n (pc' := 197) (lv' := [(3, .int 0), (0, .ref (E.2.2.2.2 0)), (1, .long x1)]) O dX11_digest_196 rfl (by decide) rfl rfl ?_
    exact a_sub [1, 2, 0] rfl (okLX11_digest_197 O fu σ x1 0 hf)
  · refine a_iconst (pc' := 114) (v := 0) O dX11_digest_113 (by decide) rfl ?_
    refine a_istore (pc' := 116) (lv' := [(4, .int 0), (0, .ref (E.2.2.2.2 0)), (1, .long x1), (3, .int x3)]) O dX11_digest_114 (by decide) rfl rfl ?_
    exact a_sub [1, 2, 3, 0] rfl (okLX11_digest_116 O k105 hk105 fu σ x1 x3 0 hf)
def LX11_digest_105 : Nat → St → Int64 → Int32 → Option (Int64 × St)
  | 0, _, _, _ => none
  | n + 1, σ, x1, x3 => BX11_digest_105 (LX11_digest_105 n) σ x1 x3
theorem okLX11_digest_105 {E : ET} {X : XT} {z : Int64 × St} (O : Ok (YM E) X cX11_digest 5 RX11 (some .long) rmX11_digest (some (.long z.1)) z.2) : ∀ (n : Nat) (σ : St) (x1 : Int64) (x3 : Int32), LX11_digest_105 n σ x1 x3 = some z → At (YM E) X 5 105 [(0, .ref (E.2.2.2.2 0)), (1, .long x1), (3, .int x3)] [] σ := by
  intro n
  induction n with
  | zero =>
    intro σ x1 x3 hf
    rw [LX11_digest_105] at hf
    cases hf
  | succ n ih =>
    intro σ x1 x3 hf
    rw [LX11_digest_105] at hf
    exact okBX11_digest_105 O (LX11_digest_105 n) ih σ x1 x3 hf
def BX11_digest_70 (k70 : St → Int64 → Int32 → Int32 → Option (Int64 × St)) (k59 : St → Int64 → Int32 → Option (Int64 × St)) (σ : St) (x1 : Int64) (x3 : Int32) (x4 : Int32) : Option (Int64 × St) :=
  if 4 ≤ x4 then bI (x3 + 1) (fun v59 => k59 σ x1 v59) else ((fX11_partOf x3 x4 σ).bind (fun z60 => bL ((31 * x1) + (z60.toInt64)) (fun v62 => bI (x4 + 1) (fun v63 => k70 σ v62 x3 v63))))
set_option maxRecDepth 100000 in
theorem okBX11_digest_70 {E : ET} {X : XT} {z : Int64 × St} (O : Ok (YM E) X cX11_digest 5 RX11 (some .long) rmX11_digest (some (.long z.1)) z.2) (k70 : St → Int64 → Int32 → Int32 → Option (Int64 × St)) (hk70 : ∀ (σ : St) (x1 : Int64) (x3 : Int32) (x4 : Int32), k70 σ x1 x3 x4 = some z → At (YM E) X 5 70 [(0, .ref (E.2.2.2.2 0)), (1, .long x1), (3, .int x3), (4, .int x4)] [] σ) (k59 : St → Int64 → Int32 → Option (Int64 × St)) (hk59 : ∀ (σ : St) (x1 : Int64) (x3 : Int32), k59 σ x1 x3 = some z → At (YM E) X 5 59 [(0, .ref (E.2.2.2.2 0)), (1, .long x1), (3, .int x3)] [] σ) (σ : St) (x1 : Int64) (x3 : Int32) (x4 : Int32) (hf : BX11_digest_70 k70 k59 σ x1 x3 x4 = some z) : At (YM E) X 5 70 [(0, .ref (E.2.2.2.2 0)), (1, .long x1), (3, .int x3), (4, .int x4)] [] σ := by
  have hE := O.2.2.2.2.2.2.2.2.2.1
  unfold BX11_digest_70 at hf
  refine a_iload (pc' := 72) O dX11_digest_70 3 rfl rfl ?_
  refine a_iconst (pc' := 73) (v := 4) O dX11_digest_72 (by decide) rfl ?_
  refine a_icmp_ge (pc' := 76) (tgt := 97) O dX11_digest_73 (by decide) rfl hf (fun hf => ?_) (fun hf => ?_)
  · refine a_iincB (pc' := 100) (lv' := fun v59 => [(3, .int v59), (0, .ref (E.2.2.2.2 0)), (1, .long x1), (4, .int x4)]) (c0 := 1) O dX11_digest_97 2 rfl (by decide) (by decide) (fun _ => rfl) rfl hf (fun v59 hf => ?_)
    refine a_goto (tgt := 59) O dX11_digest_100 (by decide) ?_
    exact a_sub [1, 2, 0] rfl (hk59 σ x1 v59 hf)
  · refine a_ldc2 (pc' := 79) (v := 31) O wm_998 dX11_digest_76 rfl ?_
    refine a_lload_n (pc' := 80) O dX11_digest_79 rfl 1 rfl rfl ?_
    refine a_lmul (pc' := 81) O dX11_digest_80 rfl ?_
    refine a_aload_n (pc' := 82) O dX11_digest_81 rfl 0 rfl rfl ?_
    refine a_iload_n (pc' := 83) O dX11_digest_82 rfl 2 rfl rfl ?_
    refine a_iload (pc' := 85) O dX11_digest_83 3 rfl rfl ?_
    obtain ⟨z60, h61, hf⟩ := bd_some hf
    refine a_callVI (pc' := 88) (n := 2) (As := [.int x3, .int x4]) (st := [.long (31 * x1)]) (q0 := 0) O (ctX11_partOf hE x3 x4 σ z60 h61) wm_290 wm_291 wm_292 wm_5 wm_293 (by decide +kernel) (by decide) (gM_0 E _) hc_11 rfl rfl rfl (Nat.le_of_ble_eq_true rfl) dX11_digest_85 rfl ?_
    refine a_i2l (pc' := 89) O dX11_digest_88 rfl rfl ?_
    refine a_ladd (pc' := 90) O dX11_digest_89 rfl ?_
    refine a_topl hf (fun v62 hf => ?_)
    refine a_lstore_n (pc' := 91) (lv' := [(1, .long v62), (0, .ref (E.2.2.2.2 0)), (3, .int x3), (4, .int x4)]) O dX11_digest_90 rfl (by decide) rfl rfl ?_
    refine a_iincB (pc' := 94) (lv' := fun v63 => [(4, .int v63), (1, .long v62), (0, .ref (E.2.2.2.2 0)), (3, .int x3)]) (c0 := 1) O dX11_digest_91 3 rfl (by decide) (by decide) (fun _ => rfl) rfl hf (fun v63 hf => ?_)
    refine a_goto (tgt := 70) O dX11_digest_94 (by decide) ?_
    exact a_sub [2, 1, 3, 0] rfl (hk70 σ v62 x3 v63 hf)
def LX11_digest_70 (k59 : St → Int64 → Int32 → Option (Int64 × St)) : Nat → St → Int64 → Int32 → Int32 → Option (Int64 × St)
  | 0, _, _, _, _ => none
  | n + 1, σ, x1, x3, x4 => BX11_digest_70 (LX11_digest_70 k59 n) k59 σ x1 x3 x4
theorem okLX11_digest_70 {E : ET} {X : XT} {z : Int64 × St} (O : Ok (YM E) X cX11_digest 5 RX11 (some .long) rmX11_digest (some (.long z.1)) z.2) (k59 : St → Int64 → Int32 → Option (Int64 × St)) (hk59 : ∀ (σ : St) (x1 : Int64) (x3 : Int32), k59 σ x1 x3 = some z → At (YM E) X 5 59 [(0, .ref (E.2.2.2.2 0)), (1, .long x1), (3, .int x3)] [] σ) : ∀ (n : Nat) (σ : St) (x1 : Int64) (x3 : Int32) (x4 : Int32), LX11_digest_70 k59 n σ x1 x3 x4 = some z → At (YM E) X 5 70 [(0, .ref (E.2.2.2.2 0)), (1, .long x1), (3, .int x3), (4, .int x4)] [] σ := by
  intro n
  induction n with
  | zero =>
    intro σ x1 x3 x4 hf
    rw [LX11_digest_70] at hf
    cases hf
  | succ n ih =>
    intro σ x1 x3 x4 hf
    rw [LX11_digest_70] at hf
    exact okBX11_digest_70 O (LX11_digest_70 k59 n) ih k59 hk59 σ x1 x3 x4 hf
def BX11_digest_59 (k59 : St → Int64 → Int32 → Option (Int64 × St)) (σ : St) (x1 : Int64) (x3 : Int32) : Option (Int64 × St) :=
  if (σ.1 8) ≤ x3 then LX11_digest_105 fu σ x1 0 else (LX11_digest_70 k59 fu σ x1 x3 0)
set_option maxRecDepth 100000 in
theorem okBX11_digest_59 {E : ET} {X : XT} {z : Int64 × St} (O : Ok (YM E) X cX11_digest 5 RX11 (some .long) rmX11_digest (some (.long z.1)) z.2) (k59 : St → Int64 → Int32 → Option (Int64 × St)) (hk59 : ∀ (σ : St) (x1 : Int64) (x3 : Int32), k59 σ x1 x3 = some z → At (YM E) X 5 59 [(0, .ref (E.2.2.2.2 0)), (1, .long x1), (3, .int x3)] [] σ) (σ : St) (x1 : Int64) (x3 : Int32) (hf : BX11_digest_59 k59 σ x1 x3 = some z) : At (YM E) X 5 59 [(0, .ref (E.2.2.2.2 0)), (1, .long x1), (3, .int x3)] [] σ := by
  have hE := O.2.2.2.2.2.2.2.2.2.1
  unfold BX11_digest_59 at hf
  refine a_iload_n (pc' := 60) O dX11_digest_59 rfl 2 rfl rfl ?_
  refine a_aload_n (pc' := 61) O dX11_digest_60 rfl 0 rfl rfl ?_
  refine gfM_0_8 (pc' := 64) O dX11_digest_61 rfl ?_
  refine a_icmp_ge (pc' := 67) (tgt := 103) O dX11_digest_64 (by decide) rfl hf (fun hf => ?_) (fun hf => ?_)
  · refine a_iconst (pc' := 104) (v := 0) O dX11_digest_103 (by decide) rfl ?_
    refine a_istore_n (pc' := 105) (lv' := [(3, .int 0), (0, .ref (E.2.2.2.2 0)), (1, .long x1)]) O dX11_digest_104 rfl (by decide) rfl rfl ?_
    exact a_sub [1, 2, 0] rfl (okLX11_digest_105 O fu σ x1 0 hf)
  · refine a_iconst (pc' := 68) (v := 0) O dX11_digest_67 (by decide) rfl ?_
    refine a_istore (pc' := 70) (lv' := [(4, .int 0), (0, .ref (E.2.2.2.2 0)), (1, .long x1), (3, .int x3)]) O dX11_digest_68 (by decide) rfl rfl ?_
    exact a_sub [1, 2, 3, 0] rfl (okLX11_digest_70 O k59 hk59 fu σ x1 x3 0 hf)
def LX11_digest_59 : Nat → St → Int64 → Int32 → Option (Int64 × St)
  | 0, _, _, _ => none
  | n + 1, σ, x1, x3 => BX11_digest_59 (LX11_digest_59 n) σ x1 x3
theorem okLX11_digest_59 {E : ET} {X : XT} {z : Int64 × St} (O : Ok (YM E) X cX11_digest 5 RX11 (some .long) rmX11_digest (some (.long z.1)) z.2) : ∀ (n : Nat) (σ : St) (x1 : Int64) (x3 : Int32), LX11_digest_59 n σ x1 x3 = some z → At (YM E) X 5 59 [(0, .ref (E.2.2.2.2 0)), (1, .long x1), (3, .int x3)] [] σ := by
  intro n
  induction n with
  | zero =>
    intro σ x1 x3 hf
    rw [LX11_digest_59] at hf
    cases hf
  | succ n ih =>
    intro σ x1 x3 hf
    rw [LX11_digest_59] at hf
    exact okBX11_digest_59 O (LX11_digest_59 n) ih σ x1 x3 hf
def BX11_digest_33 (k33 : St → Int64 → Int32 → Option (Int64 × St)) (σ : St) (x1 : Int64) (x3 : Int32) : Option (Int64 × St) :=
  if 2 ≤ x3 then LX11_digest_59 fu σ x1 0 else ((fX11_fault x3 σ).bind (fun z64 => bL ((31 * x1) + (z64.1.toInt64)) (fun v66 => bI (x3 + 1) (fun v67 => k33 z64.2 v66 v67))))
set_option maxRecDepth 100000 in
theorem okBX11_digest_33 {E : ET} {X : XT} {z : Int64 × St} (O : Ok (YM E) X cX11_digest 5 RX11 (some .long) rmX11_digest (some (.long z.1)) z.2) (k33 : St → Int64 → Int32 → Option (Int64 × St)) (hk33 : ∀ (σ : St) (x1 : Int64) (x3 : Int32), k33 σ x1 x3 = some z → At (YM E) X 5 33 [(0, .ref (E.2.2.2.2 0)), (1, .long x1), (3, .int x3)] [] σ) (σ : St) (x1 : Int64) (x3 : Int32) (hf : BX11_digest_33 k33 σ x1 x3 = some z) : At (YM E) X 5 33 [(0, .ref (E.2.2.2.2 0)), (1, .long x1), (3, .int x3)] [] σ := by
  have hE := O.2.2.2.2.2.2.2.2.2.1
  unfold BX11_digest_33 at hf
  refine a_iload_n (pc' := 34) O dX11_digest_33 rfl 2 rfl rfl ?_
  refine a_iconst (pc' := 35) (v := 2) O dX11_digest_34 (by decide) rfl ?_
  refine a_icmp_ge (pc' := 38) (tgt := 57) O dX11_digest_35 (by decide) rfl hf (fun hf => ?_) (fun hf => ?_)
  · refine a_iconst (pc' := 58) (v := 0) O dX11_digest_57 (by decide) rfl ?_
    refine a_istore_n (pc' := 59) (lv' := [(3, .int 0), (0, .ref (E.2.2.2.2 0)), (1, .long x1)]) O dX11_digest_58 rfl (by decide) rfl rfl ?_
    exact a_sub [1, 2, 0] rfl (okLX11_digest_59 O fu σ x1 0 hf)
  · refine a_ldc2 (pc' := 41) (v := 31) O wm_998 dX11_digest_38 rfl ?_
    refine a_lload_n (pc' := 42) O dX11_digest_41 rfl 1 rfl rfl ?_
    refine a_lmul (pc' := 43) O dX11_digest_42 rfl ?_
    refine a_aload_n (pc' := 44) O dX11_digest_43 rfl 0 rfl rfl ?_
    refine a_iload_n (pc' := 45) O dX11_digest_44 rfl 2 rfl rfl ?_
    obtain ⟨z64, h65, hf⟩ := bd_some hf
    refine a_callVI (pc' := 48) (n := 1) (As := [.int x3]) (st := [.long (31 * x1)]) (q0 := 0) O (ctX11_fault hE x3 σ z64 h65) wm_1000 wm_241 wm_242 wm_5 wm_243 (by decide +kernel) (by decide) (gM_0 E _) hc_11 rfl rfl rfl (Nat.le_of_ble_eq_true rfl) dX11_digest_45 rfl ?_
    refine a_i2l (pc' := 49) O dX11_digest_48 rfl rfl ?_
    refine a_ladd (pc' := 50) O dX11_digest_49 rfl ?_
    refine a_topl hf (fun v66 hf => ?_)
    refine a_lstore_n (pc' := 51) (lv' := [(1, .long v66), (0, .ref (E.2.2.2.2 0)), (3, .int x3)]) O dX11_digest_50 rfl (by decide) rfl rfl ?_
    refine a_iincB (pc' := 54) (lv' := fun v67 => [(3, .int v67), (1, .long v66), (0, .ref (E.2.2.2.2 0))]) (c0 := 1) O dX11_digest_51 2 rfl (by decide) (by decide) (fun _ => rfl) rfl hf (fun v67 hf => ?_)
    refine a_goto (tgt := 33) O dX11_digest_54 (by decide) ?_
    exact a_sub [2, 1, 0] rfl (hk33 z64.2 v66 v67 hf)
def LX11_digest_33 : Nat → St → Int64 → Int32 → Option (Int64 × St)
  | 0, _, _, _ => none
  | n + 1, σ, x1, x3 => BX11_digest_33 (LX11_digest_33 n) σ x1 x3
theorem okLX11_digest_33 {E : ET} {X : XT} {z : Int64 × St} (O : Ok (YM E) X cX11_digest 5 RX11 (some .long) rmX11_digest (some (.long z.1)) z.2) : ∀ (n : Nat) (σ : St) (x1 : Int64) (x3 : Int32), LX11_digest_33 n σ x1 x3 = some z → At (YM E) X 5 33 [(0, .ref (E.2.2.2.2 0)), (1, .long x1), (3, .int x3)] [] σ := by
  intro n
  induction n with
  | zero =>
    intro σ x1 x3 hf
    rw [LX11_digest_33] at hf
    cases hf
  | succ n ih =>
    intro σ x1 x3 hf
    rw [LX11_digest_33] at hf
    exact okBX11_digest_33 O (LX11_digest_33 n) ih σ x1 x3 hf
def BX11_digest_6 (k6 : St → Int64 → Int32 → Option (Int64 × St)) (σ : St) (x1 : Int64) (x3 : Int32) : Option (Int64 × St) :=
  if 8 ≤ x3 then LX11_digest_33 fu σ x1 0 else ((fX11_count x3 σ).bind (fun z68 => bL ((31 * x1) + (z68.1.toInt64)) (fun v70 => bI (x3 + 1) (fun v71 => k6 z68.2 v70 v71))))
set_option maxRecDepth 100000 in
theorem okBX11_digest_6 {E : ET} {X : XT} {z : Int64 × St} (O : Ok (YM E) X cX11_digest 5 RX11 (some .long) rmX11_digest (some (.long z.1)) z.2) (k6 : St → Int64 → Int32 → Option (Int64 × St)) (hk6 : ∀ (σ : St) (x1 : Int64) (x3 : Int32), k6 σ x1 x3 = some z → At (YM E) X 5 6 [(0, .ref (E.2.2.2.2 0)), (1, .long x1), (3, .int x3)] [] σ) (σ : St) (x1 : Int64) (x3 : Int32) (hf : BX11_digest_6 k6 σ x1 x3 = some z) : At (YM E) X 5 6 [(0, .ref (E.2.2.2.2 0)), (1, .long x1), (3, .int x3)] [] σ := by
  have hE := O.2.2.2.2.2.2.2.2.2.1
  unfold BX11_digest_6 at hf
  refine a_iload_n (pc' := 7) O dX11_digest_6 rfl 2 rfl rfl ?_
  refine a_bipush (pc' := 9) (v := 8) O dX11_digest_7 (by decide) rfl ?_
  refine a_icmp_ge (pc' := 12) (tgt := 31) O dX11_digest_9 (by decide) rfl hf (fun hf => ?_) (fun hf => ?_)
  · refine a_iconst (pc' := 32) (v := 0) O dX11_digest_31 (by decide) rfl ?_
    refine a_istore_n (pc' := 33) (lv' := [(3, .int 0), (0, .ref (E.2.2.2.2 0)), (1, .long x1)]) O dX11_digest_32 rfl (by decide) rfl rfl ?_
    exact a_sub [1, 2, 0] rfl (okLX11_digest_33 O fu σ x1 0 hf)
  · refine a_ldc2 (pc' := 15) (v := 31) O wm_998 dX11_digest_12 rfl ?_
    refine a_lload_n (pc' := 16) O dX11_digest_15 rfl 1 rfl rfl ?_
    refine a_lmul (pc' := 17) O dX11_digest_16 rfl ?_
    refine a_aload_n (pc' := 18) O dX11_digest_17 rfl 0 rfl rfl ?_
    refine a_iload_n (pc' := 19) O dX11_digest_18 rfl 2 rfl rfl ?_
    obtain ⟨z68, h69, hf⟩ := bd_some hf
    refine a_callVI (pc' := 22) (n := 1) (As := [.int x3]) (st := [.long (31 * x1)]) (q0 := 0) O (ctX11_count hE x3 σ z68 h69) wm_999 wm_957 wm_958 wm_5 wm_959 (by decide +kernel) (by decide) (gM_0 E _) hc_11 rfl rfl rfl (Nat.le_of_ble_eq_true rfl) dX11_digest_19 rfl ?_
    refine a_i2l (pc' := 23) O dX11_digest_22 rfl rfl ?_
    refine a_ladd (pc' := 24) O dX11_digest_23 rfl ?_
    refine a_topl hf (fun v70 hf => ?_)
    refine a_lstore_n (pc' := 25) (lv' := [(1, .long v70), (0, .ref (E.2.2.2.2 0)), (3, .int x3)]) O dX11_digest_24 rfl (by decide) rfl rfl ?_
    refine a_iincB (pc' := 28) (lv' := fun v71 => [(3, .int v71), (1, .long v70), (0, .ref (E.2.2.2.2 0))]) (c0 := 1) O dX11_digest_25 2 rfl (by decide) (by decide) (fun _ => rfl) rfl hf (fun v71 hf => ?_)
    refine a_goto (tgt := 6) O dX11_digest_28 (by decide) ?_
    exact a_sub [2, 1, 0] rfl (hk6 z68.2 v70 v71 hf)
def LX11_digest_6 : Nat → St → Int64 → Int32 → Option (Int64 × St)
  | 0, _, _, _ => none
  | n + 1, σ, x1, x3 => BX11_digest_6 (LX11_digest_6 n) σ x1 x3
theorem okLX11_digest_6 {E : ET} {X : XT} {z : Int64 × St} (O : Ok (YM E) X cX11_digest 5 RX11 (some .long) rmX11_digest (some (.long z.1)) z.2) : ∀ (n : Nat) (σ : St) (x1 : Int64) (x3 : Int32), LX11_digest_6 n σ x1 x3 = some z → At (YM E) X 5 6 [(0, .ref (E.2.2.2.2 0)), (1, .long x1), (3, .int x3)] [] σ := by
  intro n
  induction n with
  | zero =>
    intro σ x1 x3 hf
    rw [LX11_digest_6] at hf
    cases hf
  | succ n ih =>
    intro σ x1 x3 hf
    rw [LX11_digest_6] at hf
    exact okBX11_digest_6 O (LX11_digest_6 n) ih σ x1 x3 hf
def fX11_digest (σ : St) : Option (Int64 × St) :=
  LX11_digest_6 fu σ 17 0
set_option maxRecDepth 100000 in
theorem ctX11_digest {E : ET} (hE : Dj (YM E)) (σ : St) (z : Int64 × St) (hf : fX11_digest σ = some z) : Ct (YM E) yX11_digest cX11_digest 5 (some .long) rmX11_digest [.ref (E.2.2.2.2 0)] σ (some (.long z.1)) z.2 := by
  refine Ct.of hE (by decide) (Nat.le_of_ble_eq_true rfl) (fun X O => ?_)
  have O : Ok (YM E) X cX11_digest 5 RX11 (some .long) rmX11_digest (some (.long z.1)) z.2 := O
  show At (YM E) X 5 0 [(0, .ref (E.2.2.2.2 0))] [] σ
  unfold fX11_digest at hf
  refine a_ldc2 (pc' := 3) (v := 17) O wm_997 dX11_digest_0 rfl ?_
  refine a_lstore_n (pc' := 4) (lv' := [(1, .long 17), (0, .ref (E.2.2.2.2 0))]) O dX11_digest_3 rfl (by decide) rfl rfl ?_
  refine a_iconst (pc' := 5) (v := 0) O dX11_digest_4 (by decide) rfl ?_
  refine a_istore_n (pc' := 6) (lv' := [(3, .int 0), (1, .long 17), (0, .ref (E.2.2.2.2 0))]) O dX11_digest_5 rfl (by decide) rfl rfl ?_
  exact a_sub [2, 1, 0] rfl (okLX11_digest_6 O fu σ 17 0 hf)
