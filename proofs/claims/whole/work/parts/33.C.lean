def rmX10_far : Room := { frames := 4, cells := 0, slots := 0, locals := 96 }
def fX10_far (a0 : Int32) (a1 : Int32) (σ : St) : Option (Int64 × St) :=
  (fX10_isGoer a0 σ).bind (fun z1 => if z1 = 0 then (fX10_refusal (-2)).bind (fun z3 => some (z3, σ)) else ((fX10_within a1 0 1).bind (fun z5 => if z5 = 0 then (fX10_refusal (-2)).bind (fun z13 => some (z13, σ)) else ((fX3_burns a0 σ).bind (fun z7 => (fX1_reach z7 1 1 σ).bind (fun z9 => (fX2_term a1 z9).bind (fun z11 => some (z11, z9))))))))
set_option maxRecDepth 100000 in
theorem ctX10_far {E : ET} (hE : Dj (YC E)) (a0 : Int32) (a1 : Int32) (σ : St) (z : Int64 × St) (hf : fX10_far a0 a1 σ = some z) : Ct (YC E) yX10_far cX10_far 3 (some .long) rmX10_far [.ref (E.2.2.2.2 0), .int a0, .int a1] σ (some (.long z.1)) z.2 := by
  refine Ct.of hE (by decide) (Nat.le_of_ble_eq_true rfl) (fun X O => ?_)
  have O : Ok (YC E) X cX10_far 3 RX10 (some .long) rmX10_far (some (.long z.1)) z.2 := O
  show At (YC E) X 3 0 [(0, .ref (E.2.2.2.2 0)), (1, .int a0), (2, .int a1)] [] σ
  unfold fX10_far at hf
  refine a_aload_n (pc' := 1) O dX10_far_0 rfl 0 rfl rfl ?_
  refine a_iload_n (pc' := 2) O dX10_far_1 rfl 1 rfl rfl ?_
  obtain ⟨z1, h2, hf⟩ := bd_some hf
  refine a_callVI (pc' := 5) (n := 1) (As := [.int a0]) (st := []) (q0 := 0) O (ctX10_isGoer hE a0 σ z1 h2) wm_378 wm_379 wm_380 wm_2 wm_381 (by decide +kernel) (by decide) (gC_0 E _) hc_10 rfl rfl rfl (Nat.le_of_ble_eq_true rfl) dX10_far_2 rfl ?_
  refine a_if_eq (pc' := 8) (tgt := 17) O dX10_far_5 (by decide) rfl hf (fun hf => ?_) (fun hf => ?_)
  · refine a_bipush (pc' := 19) (v := (-2)) O dX10_far_17 (by decide) rfl ?_
    obtain ⟨z3, h4, hf⟩ := bd_some hf
    refine a_callSL (pc' := 22) (n := 1) (As := [.int (-2)]) (st := []) O (ctX10_refusal hE (-2) σ z3 h4) wm_382 wm_383 wm_2 wm_384 (by decide +kernel) (by decide) rfl rfl (Nat.le_of_ble_eq_true rfl) dX10_far_19 rfl ?_
    exact a_lret O hf dX10_far_22
  · refine a_iload_n (pc' := 9) O dX10_far_8 rfl 2 rfl rfl ?_
    refine a_iconst (pc' := 10) (v := 0) O dX10_far_9 (by decide) rfl ?_
    refine a_iconst (pc' := 11) (v := 1) O dX10_far_10 (by decide) rfl ?_
    obtain ⟨z5, h6, hf⟩ := bd_some hf
    refine a_callSI (pc' := 14) (n := 3) (As := [.int a1, .int 0, .int 1]) (st := []) O (ctX10_within hE a1 0 1 σ z5 h6) wm_153 wm_154 wm_2 wm_155 (by decide +kernel) (by decide) rfl rfl (Nat.le_of_ble_eq_true rfl) dX10_far_11 rfl ?_
    refine a_if_ne (pc' := 17) (tgt := 23) O dX10_far_14 (by decide) rfl hf (fun hf => ?_) (fun hf => ?_)
    · refine a_aload_n (pc' := 24) O dX10_far_23 rfl 0 rfl rfl ?_
      refine gfC_0_2 (pc' := 27) O dX10_far_24 rfl ?_
      refine a_aload_n (pc' := 28) O dX10_far_27 rfl 0 rfl rfl ?_
      refine gfC_0_10 (pc' := 31) O dX10_far_28 rfl ?_
      refine a_aload_n (pc' := 32) O dX10_far_31 rfl 0 rfl rfl ?_
      refine gfC_0_4 (pc' := 35) O dX10_far_32 rfl ?_
      refine a_iload_n (pc' := 36) O dX10_far_35 rfl 1 rfl rfl ?_
      obtain ⟨z7, h8, hf⟩ := bd_some hf
      refine a_callVI (pc' := 39) (n := 1) (As := [.int a0]) (st := [.ref (E.2.2.2.2 27), .ref (E.2.2.2.2 5)]) (q0 := 8) O (ctX3_burns hE a0 σ z7 h8) wm_315 wm_316 wm_317 wm_27 wm_318 (by decide +kernel) (by decide) (gC_8 E _) hc_3 rfl rfl rfl (Nat.le_of_ble_eq_true rfl) dX10_far_36 rfl ?_
      refine a_iconst (pc' := 40) (v := 1) O dX10_far_39 (by decide) rfl ?_
      refine a_iconst (pc' := 41) (v := 1) O dX10_far_40 (by decide) rfl ?_
      obtain ⟨z9, h10, hf⟩ := bd_some hf
      refine a_callVN (pc' := 44) (n := 4) (As := [.ref (E.2.2.2.2 27), .int z7, .int 1, .int 1]) (st := []) (q0 := 5) O (ctX1_reach hE z7 1 1 σ z9 h10) wm_386 wm_387 wm_388 wm_19 wm_389 (by decide +kernel) (by decide) (gC_5 E _) hc_1 rfl rfl rfl (Nat.le_of_ble_eq_true rfl) dX10_far_41 rfl ?_
      refine a_aload_n (pc' := 45) O dX10_far_44 rfl 0 rfl rfl ?_
      refine gfC_0_10 (pc' := 48) O dX10_far_45 rfl ?_
      refine a_iload_n (pc' := 49) O dX10_far_48 rfl 2 rfl rfl ?_
      obtain ⟨z11, h12, hf⟩ := bd_some hf
      refine a_callVL (pc' := 52) (n := 1) (As := [.int a1]) (st := []) (q0 := 27) O (ctX2_term hE a1 z9 z11 h12) wm_410 wm_411 wm_412 wm_51 wm_413 (by decide +kernel) (by decide) (gC_27 E _) hc_2 rfl rfl rfl (Nat.le_of_ble_eq_true rfl) dX10_far_49 rfl ?_
      exact a_lret O hf dX10_far_52
    · refine a_bipush (pc' := 19) (v := (-2)) O dX10_far_17 (by decide) rfl ?_
      obtain ⟨z13, h14, hf⟩ := bd_some hf
      refine a_callSL (pc' := 22) (n := 1) (As := [.int (-2)]) (st := []) O (ctX10_refusal hE (-2) σ z13 h14) wm_382 wm_383 wm_2 wm_384 (by decide +kernel) (by decide) rfl rfl (Nat.le_of_ble_eq_true rfl) dX10_far_19 rfl ?_
      exact a_lret O hf dX10_far_22
def rmX10_safe : Room := { frames := 4, cells := 0, slots := 0, locals := 96 }
def fX10_safe (a0 : Int32) (a1 : Int32) (σ : St) : Option (Int64 × St) :=
  (fX10_isGoer a0 σ).bind (fun z1 => if z1 = 0 then (fX10_refusal (-2)).bind (fun z3 => some (z3, σ)) else ((fX10_within a1 0 1).bind (fun z5 => if z5 = 0 then (fX10_refusal (-2)).bind (fun z17 => some (z17, σ)) else ((fX3_leastBurn σ).bind (fun z7 => (fX3_party σ).bind (fun z9 => (fX3_toALight (z9 - a0) σ).bind (fun z11 => (fX1_reach z7 1 z11 σ).bind (fun z13 => (fX2_term a1 z13).bind (fun z15 => some (z15, z13))))))))))
set_option maxRecDepth 100000 in
theorem ctX10_safe {E : ET} (hE : Dj (YC E)) (a0 : Int32) (a1 : Int32) (σ : St) (z : Int64 × St) (hf : fX10_safe a0 a1 σ = some z) : Ct (YC E) yX10_safe cX10_safe 3 (some .long) rmX10_safe [.ref (E.2.2.2.2 0), .int a0, .int a1] σ (some (.long z.1)) z.2 := by
  refine Ct.of hE (by decide) (Nat.le_of_ble_eq_true rfl) (fun X O => ?_)
  have O : Ok (YC E) X cX10_safe 3 RX10 (some .long) rmX10_safe (some (.long z.1)) z.2 := O
  show At (YC E) X 3 0 [(0, .ref (E.2.2.2.2 0)), (1, .int a0), (2, .int a1)] [] σ
  unfold fX10_safe at hf
  refine a_aload_n (pc' := 1) O dX10_safe_0 rfl 0 rfl rfl ?_
  refine a_iload_n (pc' := 2) O dX10_safe_1 rfl 1 rfl rfl ?_
  obtain ⟨z1, h2, hf⟩ := bd_some hf
  refine a_callVI (pc' := 5) (n := 1) (As := [.int a0]) (st := []) (q0 := 0) O (ctX10_isGoer hE a0 σ z1 h2) wm_378 wm_379 wm_380 wm_2 wm_381 (by decide +kernel) (by decide) (gC_0 E _) hc_10 rfl rfl rfl (Nat.le_of_ble_eq_true rfl) dX10_safe_2 rfl ?_
  refine a_if_eq (pc' := 8) (tgt := 17) O dX10_safe_5 (by decide) rfl hf (fun hf => ?_) (fun hf => ?_)
  · refine a_bipush (pc' := 19) (v := (-2)) O dX10_safe_17 (by decide) rfl ?_
    obtain ⟨z3, h4, hf⟩ := bd_some hf
    refine a_callSL (pc' := 22) (n := 1) (As := [.int (-2)]) (st := []) O (ctX10_refusal hE (-2) σ z3 h4) wm_382 wm_383 wm_2 wm_384 (by decide +kernel) (by decide) rfl rfl (Nat.le_of_ble_eq_true rfl) dX10_safe_19 rfl ?_
    exact a_lret O hf dX10_safe_22
  · refine a_iload_n (pc' := 9) O dX10_safe_8 rfl 2 rfl rfl ?_
    refine a_iconst (pc' := 10) (v := 0) O dX10_safe_9 (by decide) rfl ?_
    refine a_iconst (pc' := 11) (v := 1) O dX10_safe_10 (by decide) rfl ?_
    obtain ⟨z5, h6, hf⟩ := bd_some hf
    refine a_callSI (pc' := 14) (n := 3) (As := [.int a1, .int 0, .int 1]) (st := []) O (ctX10_within hE a1 0 1 σ z5 h6) wm_153 wm_154 wm_2 wm_155 (by decide +kernel) (by decide) rfl rfl (Nat.le_of_ble_eq_true rfl) dX10_safe_11 rfl ?_
    refine a_if_ne (pc' := 17) (tgt := 23) O dX10_safe_14 (by decide) rfl hf (fun hf => ?_) (fun hf => ?_)
    · refine a_aload_n (pc' := 24) O dX10_safe_23 rfl 0 rfl rfl ?_
      refine gfC_0_2 (pc' := 27) O dX10_safe_24 rfl ?_
      refine a_aload_n (pc' := 28) O dX10_safe_27 rfl 0 rfl rfl ?_
      refine gfC_0_10 (pc' := 31) O dX10_safe_28 rfl ?_
      refine a_aload_n (pc' := 32) O dX10_safe_31 rfl 0 rfl rfl ?_
      refine gfC_0_4 (pc' := 35) O dX10_safe_32 rfl ?_
      obtain ⟨z7, h8, hf⟩ := bd_some hf
      refine a_callVI (pc' := 38) (n := 0) (As := []) (st := [.ref (E.2.2.2.2 27), .ref (E.2.2.2.2 5)]) (q0 := 8) O (ctX3_leastBurn hE σ z7 h8) wm_441 wm_442 wm_443 wm_27 wm_444 (by decide +kernel) (by decide) (gC_8 E _) hc_3 rfl rfl rfl (Nat.le_of_ble_eq_true rfl) dX10_safe_35 rfl ?_
      refine a_iconst (pc' := 39) (v := 1) O dX10_safe_38 (by decide) rfl ?_
      refine a_aload_n (pc' := 40) O dX10_safe_39 rfl 0 rfl rfl ?_
      refine gfC_0_4 (pc' := 43) O dX10_safe_40 rfl ?_
      refine a_aload_n (pc' := 44) O dX10_safe_43 rfl 0 rfl rfl ?_
      refine gfC_0_4 (pc' := 47) O dX10_safe_44 rfl ?_
      obtain ⟨z9, h10, hf⟩ := bd_some hf
      refine a_callVI (pc' := 50) (n := 0) (As := []) (st := [.ref (E.2.2.2.2 8), .int 1, .int z7, .ref (E.2.2.2.2 27), .ref (E.2.2.2.2 5)]) (q0 := 8) O (ctX3_party hE σ z9 h10) wm_298 wm_299 wm_300 wm_27 wm_301 (by decide +kernel) (by decide) (gC_8 E _) hc_3 rfl rfl rfl (Nat.le_of_ble_eq_true rfl) dX10_safe_47 rfl ?_
      refine a_iload_n (pc' := 51) O dX10_safe_50 rfl 1 rfl rfl ?_
      refine a_isub (pc' := 52) O dX10_safe_51 rfl ?_
      obtain ⟨z11, h12, hf⟩ := bd_some hf
      refine a_callVI (pc' := 55) (n := 1) (As := [.int (z9 - a0)]) (st := [.int 1, .int z7, .ref (E.2.2.2.2 27), .ref (E.2.2.2.2 5)]) (q0 := 8) O (ctX3_toALight hE (z9 - a0) σ z11 h12) wm_447 wm_448 wm_449 wm_27 wm_450 (by decide +kernel) (by decide) (gC_8 E _) hc_3 rfl rfl rfl (Nat.le_of_ble_eq_true rfl) dX10_safe_52 rfl ?_
      obtain ⟨z13, h14, hf⟩ := bd_some hf
      refine a_callVN (pc' := 58) (n := 4) (As := [.ref (E.2.2.2.2 27), .int z7, .int 1, .int z11]) (st := []) (q0 := 5) O (ctX1_reach hE z7 1 z11 σ z13 h14) wm_386 wm_387 wm_388 wm_19 wm_389 (by decide +kernel) (by decide) (gC_5 E _) hc_1 rfl rfl rfl (Nat.le_of_ble_eq_true rfl) dX10_safe_55 rfl ?_
      refine a_aload_n (pc' := 59) O dX10_safe_58 rfl 0 rfl rfl ?_
      refine gfC_0_10 (pc' := 62) O dX10_safe_59 rfl ?_
      refine a_iload_n (pc' := 63) O dX10_safe_62 rfl 2 rfl rfl ?_
      obtain ⟨z15, h16, hf⟩ := bd_some hf
      refine a_callVL (pc' := 66) (n := 1) (As := [.int a1]) (st := []) (q0 := 27) O (ctX2_term hE a1 z13 z15 h16) wm_410 wm_411 wm_412 wm_51 wm_413 (by decide +kernel) (by decide) (gC_27 E _) hc_2 rfl rfl rfl (Nat.le_of_ble_eq_true rfl) dX10_safe_63 rfl ?_
      exact a_lret O hf dX10_safe_66
    · refine a_bipush (pc' := 19) (v := (-2)) O dX10_safe_17 (by decide) rfl ?_
      obtain ⟨z17, h18, hf⟩ := bd_some hf
      refine a_callSL (pc' := 22) (n := 1) (As := [.int (-2)]) (st := []) O (ctX10_refusal hE (-2) σ z17 h18) wm_382 wm_383 wm_2 wm_384 (by decide +kernel) (by decide) rfl rfl (Nat.le_of_ble_eq_true rfl) dX10_safe_19 rfl ?_
      exact a_lret O hf dX10_safe_22
def rmX10_rule : Room := { frames := 4, cells := 0, slots := 0, locals := 96 }
def fX10_rule (a0 : Int32) (a1 : Int32) (a2 : Int32) (σ : St) : Option (Int64 × St) :=
  (fX10_within a0 2 9).bind (fun z1 => if z1 = 0 then (fX10_refusal (-2)).bind (fun z3 => some (z3, σ)) else ((fX10_isGoer a1 σ).bind (fun z5 => if z5 = 0 then (fX10_refusal (-2)).bind (fun z7 => some (z7, σ)) else ((fX10_within a2 0 2).bind (fun z9 => if z9 = 0 then (fX10_refusal (-2)).bind (fun z23 => some (z23, σ)) else ((fX3_leastBurn σ).bind (fun z11 => (fX1_reach z11 a0 0 σ).bind (fun z13 => if a2 = 2 then (fX3_party z13).bind (fun z17 => (fX3_toALight (z17 - a1) z13).bind (fun z19 => (fX1_isOutWithin z11 z19 z13).bind (fun z21 => if z21 = 0 then some (0, z13) else (some (1, z13))))) else ((fX2_term a2 z13).bind (fun z15 => some (z15, z13)))))))))))
set_option maxRecDepth 100000 in
theorem ctX10_rule {E : ET} (hE : Dj (YC E)) (a0 : Int32) (a1 : Int32) (a2 : Int32) (σ : St) (z : Int64 × St) (hf : fX10_rule a0 a1 a2 σ = some z) : Ct (YC E) yX10_rule cX10_rule 5 (some .long) rmX10_rule [.ref (E.2.2.2.2 0), .int a0, .int a1, .int a2] σ (some (.long z.1)) z.2 := by
  refine Ct.of hE (by decide) (Nat.le_of_ble_eq_true rfl) (fun X O => ?_)
  have O : Ok (YC E) X cX10_rule 5 RX10 (some .long) rmX10_rule (some (.long z.1)) z.2 := O
  show At (YC E) X 5 0 [(0, .ref (E.2.2.2.2 0)), (1, .int a0), (2, .int a1), (3, .int a2)] [] σ
  unfold fX10_rule at hf
  refine a_iload_n (pc' := 1) O dX10_rule_0 rfl 1 rfl rfl ?_
  refine a_iconst (pc' := 2) (v := 2) O dX10_rule_1 (by decide) rfl ?_
  refine a_bipush (pc' := 4) (v := 9) O dX10_rule_2 (by decide) rfl ?_
  obtain ⟨z1, h2, hf⟩ := bd_some hf
  refine a_callSI (pc' := 7) (n := 3) (As := [.int a0, .int 2, .int 9]) (st := []) O (ctX10_within hE a0 2 9 σ z1 h2) wm_153 wm_154 wm_2 wm_155 (by decide +kernel) (by decide) rfl rfl (Nat.le_of_ble_eq_true rfl) dX10_rule_4 rfl ?_
  refine a_if_eq (pc' := 10) (tgt := 27) O dX10_rule_7 (by decide) rfl hf (fun hf => ?_) (fun hf => ?_)
  · refine a_bipush (pc' := 29) (v := (-2)) O dX10_rule_27 (by decide) rfl ?_
    obtain ⟨z3, h4, hf⟩ := bd_some hf
    refine a_callSL (pc' := 32) (n := 1) (As := [.int (-2)]) (st := []) O (ctX10_refusal hE (-2) σ z3 h4) wm_382 wm_383 wm_2 wm_384 (by decide +kernel) (by decide) rfl rfl (Nat.le_of_ble_eq_true rfl) dX10_rule_29 rfl ?_
    exact a_lret O hf dX10_rule_32
  · refine a_aload_n (pc' := 11) O dX10_rule_10 rfl 0 rfl rfl ?_
    refine a_iload_n (pc' := 12) O dX10_rule_11 rfl 2 rfl rfl ?_
    obtain ⟨z5, h6, hf⟩ := bd_some hf
    refine a_callVI (pc' := 15) (n := 1) (As := [.int a1]) (st := []) (q0 := 0) O (ctX10_isGoer hE a1 σ z5 h6) wm_378 wm_379 wm_380 wm_2 wm_381 (by decide +kernel) (by decide) (gC_0 E _) hc_10 rfl rfl rfl (Nat.le_of_ble_eq_true rfl) dX10_rule_12 rfl ?_
    refine a_if_eq (pc' := 18) (tgt := 27) O dX10_rule_15 (by decide) rfl hf (fun hf => ?_) (fun hf => ?_)
    · refine a_bipush (pc' := 29) (v := (-2)) O dX10_rule_27 (by decide) rfl ?_
      obtain ⟨z7, h8, hf⟩ := bd_some hf
      refine a_callSL (pc' := 32) (n := 1) (As := [.int (-2)]) (st := []) O (ctX10_refusal hE (-2) σ z7 h8) wm_382 wm_383 wm_2 wm_384 (by decide +kernel) (by decide) rfl rfl (Nat.le_of_ble_eq_true rfl) dX10_rule_29 rfl ?_
      exact a_lret O hf dX10_rule_32
    · refine a_iload_n (pc' := 19) O dX10_rule_18 rfl 3 rfl rfl ?_
      refine a_iconst (pc' := 20) (v := 0) O dX10_rule_19 (by decide) rfl ?_
      refine a_iconst (pc' := 21) (v := 2) O dX10_rule_20 (by decide) rfl ?_
      obtain ⟨z9, h10, hf⟩ := bd_some hf
      refine a_callSI (pc' := 24) (n := 3) (As := [.int a2, .int 0, .int 2]) (st := []) O (ctX10_within hE a2 0 2 σ z9 h10) wm_153 wm_154 wm_2 wm_155 (by decide +kernel) (by decide) rfl rfl (Nat.le_of_ble_eq_true rfl) dX10_rule_21 rfl ?_
      refine a_if_ne (pc' := 27) (tgt := 33) O dX10_rule_24 (by decide) rfl hf (fun hf => ?_) (fun hf => ?_)
      · refine a_aload_n (pc' := 34) O dX10_rule_33 rfl 0 rfl rfl ?_
        refine gfC_0_4 (pc' := 37) O dX10_rule_34 rfl ?_
        obtain ⟨z11, h12, hf⟩ := bd_some hf
        refine a_callVI (pc' := 40) (n := 0) (As := []) (st := []) (q0 := 8) O (ctX3_leastBurn hE σ z11 h12) wm_441 wm_442 wm_443 wm_27 wm_444 (by decide +kernel) (by decide) (gC_8 E _) hc_3 rfl rfl rfl (Nat.le_of_ble_eq_true rfl) dX10_rule_37 rfl ?_
        refine a_istore (pc' := 42) (lv' := [(4, .int z11), (0, .ref (E.2.2.2.2 0)), (1, .int a0), (2, .int a1), (3, .int a2)]) O dX10_rule_40 (by decide) rfl rfl ?_
        refine a_aload_n (pc' := 43) O dX10_rule_42 rfl 1 rfl rfl ?_
        refine gfC_0_2 (pc' := 46) O dX10_rule_43 rfl ?_
        refine a_aload_n (pc' := 47) O dX10_rule_46 rfl 1 rfl rfl ?_
        refine gfC_0_10 (pc' := 50) O dX10_rule_47 rfl ?_
        refine a_iload (pc' := 52) O dX10_rule_50 0 rfl rfl ?_
        refine a_iload_n (pc' := 53) O dX10_rule_52 rfl 2 rfl rfl ?_
        refine a_iconst (pc' := 54) (v := 0) O dX10_rule_53 (by decide) rfl ?_
        obtain ⟨z13, h14, hf⟩ := bd_some hf
        refine a_callVN (pc' := 57) (n := 4) (As := [.ref (E.2.2.2.2 27), .int z11, .int a0, .int 0]) (st := []) (q0 := 5) O (ctX1_reach hE z11 a0 0 σ z13 h14) wm_386 wm_387 wm_388 wm_19 wm_389 (by decide +kernel) (by decide) (gC_5 E _) hc_1 rfl rfl rfl (Nat.le_of_ble_eq_true rfl) dX10_rule_54 rfl ?_
        refine a_iload_n (pc' := 58) O dX10_rule_57 rfl 4 rfl rfl ?_
        refine a_iconst (pc' := 59) (v := 2) O dX10_rule_58 (by decide) rfl ?_
        refine a_icmp_ne (pc' := 62) (tgt := 100) O dX10_rule_59 (by decide) rfl hf (fun hf => ?_) (fun hf => ?_)
        · refine a_aload_n (pc' := 101) O dX10_rule_100 rfl 1 rfl rfl ?_
          refine gfC_0_10 (pc' := 104) O dX10_rule_101 rfl ?_
          refine a_iload_n (pc' := 105) O dX10_rule_104 rfl 4 rfl rfl ?_
          obtain ⟨z15, h16, hf⟩ := bd_some hf
          refine a_callVL (pc' := 108) (n := 1) (As := [.int a2]) (st := []) (q0 := 27) O (ctX2_term hE a2 z13 z15 h16) wm_410 wm_411 wm_412 wm_51 wm_413 (by decide +kernel) (by decide) (gC_27 E _) hc_2 rfl rfl rfl (Nat.le_of_ble_eq_true rfl) dX10_rule_105 rfl ?_
          exact a_lret O hf dX10_rule_108
        · refine a_aload_n (pc' := 63) O dX10_rule_62 rfl 1 rfl rfl ?_
          refine gfC_0_2 (pc' := 66) O dX10_rule_63 rfl ?_
          refine a_aload_n (pc' := 67) O dX10_rule_66 rfl 1 rfl rfl ?_
          refine gfC_0_10 (pc' := 70) O dX10_rule_67 rfl ?_
          refine a_iload (pc' := 72) O dX10_rule_70 0 rfl rfl ?_
          refine a_aload_n (pc' := 73) O dX10_rule_72 rfl 1 rfl rfl ?_
          refine gfC_0_4 (pc' := 76) O dX10_rule_73 rfl ?_
          refine a_aload_n (pc' := 77) O dX10_rule_76 rfl 1 rfl rfl ?_
          refine gfC_0_4 (pc' := 80) O dX10_rule_77 rfl ?_
          obtain ⟨z17, h18, hf⟩ := bd_some hf
          refine a_callVI (pc' := 83) (n := 0) (As := []) (st := [.ref (E.2.2.2.2 8), .int z11, .ref (E.2.2.2.2 27), .ref (E.2.2.2.2 5)]) (q0 := 8) O (ctX3_party hE z13 z17 h18) wm_298 wm_299 wm_300 wm_27 wm_301 (by decide +kernel) (by decide) (gC_8 E _) hc_3 rfl rfl rfl (Nat.le_of_ble_eq_true rfl) dX10_rule_80 rfl ?_
          refine a_iload_n (pc' := 84) O dX10_rule_83 rfl 3 rfl rfl ?_
          refine a_isub (pc' := 85) O dX10_rule_84 rfl ?_
          obtain ⟨z19, h20, hf⟩ := bd_some hf
          refine a_callVI (pc' := 88) (n := 1) (As := [.int (z17 - a1)]) (st := [.int z11, .ref (E.2.2.2.2 27), .ref (E.2.2.2.2 5)]) (q0 := 8) O (ctX3_toALight hE (z17 - a1) z13 z19 h20) wm_447 wm_448 wm_449 wm_27 wm_450 (by decide +kernel) (by decide) (gC_8 E _) hc_3 rfl rfl rfl (Nat.le_of_ble_eq_true rfl) dX10_rule_85 rfl ?_
          obtain ⟨z21, h22, hf⟩ := bd_some hf
          refine a_callVI (pc' := 91) (n := 3) (As := [.ref (E.2.2.2.2 27), .int z11, .int z19]) (st := []) (q0 := 5) O (ctX1_isOutWithin hE z11 z19 z13 z21 h22) wm_478 wm_479 wm_480 wm_19 wm_481 (by decide +kernel) (by decide) (gC_5 E _) hc_1 rfl rfl rfl (Nat.le_of_ble_eq_true rfl) dX10_rule_88 rfl ?_
          refine a_if_eq (pc' := 94) (tgt := 98) O dX10_rule_91 (by decide) rfl hf (fun hf => ?_) (fun hf => ?_)
          · refine a_lconst (pc' := 99) (v := 0) O dX10_rule_98 (by decide) rfl ?_
            exact a_lret O hf dX10_rule_99
          · refine a_lconst (pc' := 95) (v := 1) O dX10_rule_94 (by decide) rfl ?_
            refine a_goto (tgt := 99) O dX10_rule_95 (by decide) ?_
            exact a_lret O hf dX10_rule_99
      · refine a_bipush (pc' := 29) (v := (-2)) O dX10_rule_27 (by decide) rfl ?_
        obtain ⟨z23, h24, hf⟩ := bd_some hf
        refine a_callSL (pc' := 32) (n := 1) (As := [.int (-2)]) (st := []) O (ctX10_refusal hE (-2) σ z23 h24) wm_382 wm_383 wm_2 wm_384 (by decide +kernel) (by decide) rfl rfl (Nat.le_of_ble_eq_true rfl) dX10_rule_29 rfl ?_
        exact a_lret O hf dX10_rule_32
def rmX10_point : Room := { frames := 4, cells := 0, slots := 0, locals := 96 }
def fX10_point (a0 : Int32) (σ : St) : Option (Int64 × St) :=
  (fX10_within a0 0 1).bind (fun z1 => if z1 = 0 then (fX10_refusal (-2)).bind (fun z9 => some (z9, σ)) else ((fX1_allIn σ).bind (fun z3 => (fX1_reach z3 1 1 σ).bind (fun z5 => (fX2_term a0 z5).bind (fun z7 => some (z7, z5))))))
set_option maxRecDepth 100000 in
theorem ctX10_point {E : ET} (hE : Dj (YC E)) (a0 : Int32) (σ : St) (z : Int64 × St) (hf : fX10_point a0 σ = some z) : Ct (YC E) yX10_point cX10_point 2 (some .long) rmX10_point [.ref (E.2.2.2.2 0), .int a0] σ (some (.long z.1)) z.2 := by
  refine Ct.of hE (by decide) (Nat.le_of_ble_eq_true rfl) (fun X O => ?_)
  have O : Ok (YC E) X cX10_point 2 RX10 (some .long) rmX10_point (some (.long z.1)) z.2 := O
  show At (YC E) X 2 0 [(0, .ref (E.2.2.2.2 0)), (1, .int a0)] [] σ
  unfold fX10_point at hf
  refine a_iload_n (pc' := 1) O dX10_point_0 rfl 1 rfl rfl ?_
  refine a_iconst (pc' := 2) (v := 0) O dX10_point_1 (by decide) rfl ?_
  refine a_iconst (pc' := 3) (v := 1) O dX10_point_2 (by decide) rfl ?_
  obtain ⟨z1, h2, hf⟩ := bd_some hf
  refine a_callSI (pc' := 6) (n := 3) (As := [.int a0, .int 0, .int 1]) (st := []) O (ctX10_within hE a0 0 1 σ z1 h2) wm_153 wm_154 wm_2 wm_155 (by decide +kernel) (by decide) rfl rfl (Nat.le_of_ble_eq_true rfl) dX10_point_3 rfl ?_
  refine a_if_ne (pc' := 9) (tgt := 15) O dX10_point_6 (by decide) rfl hf (fun hf => ?_) (fun hf => ?_)
  · refine a_aload_n (pc' := 16) O dX10_point_15 rfl 0 rfl rfl ?_
    refine gfC_0_2 (pc' := 19) O dX10_point_16 rfl ?_
    refine a_aload_n (pc' := 20) O dX10_point_19 rfl 0 rfl rfl ?_
    refine gfC_0_10 (pc' := 23) O dX10_point_20 rfl ?_
    refine a_aload_n (pc' := 24) O dX10_point_23 rfl 0 rfl rfl ?_
    refine gfC_0_2 (pc' := 27) O dX10_point_24 rfl ?_
    obtain ⟨z3, h4, hf⟩ := bd_some hf
    refine a_callVI (pc' := 30) (n := 0) (As := []) (st := [.ref (E.2.2.2.2 27), .ref (E.2.2.2.2 5)]) (q0 := 5) O (ctX1_allIn hE σ z3 h4) wm_496 wm_497 wm_498 wm_19 wm_499 (by decide +kernel) (by decide) (gC_5 E _) hc_1 rfl rfl rfl (Nat.le_of_ble_eq_true rfl) dX10_point_27 rfl ?_
    refine a_iconst (pc' := 31) (v := 1) O dX10_point_30 (by decide) rfl ?_
    refine a_iconst (pc' := 32) (v := 1) O dX10_point_31 (by decide) rfl ?_
    obtain ⟨z5, h6, hf⟩ := bd_some hf
    refine a_callVN (pc' := 35) (n := 4) (As := [.ref (E.2.2.2.2 27), .int z3, .int 1, .int 1]) (st := []) (q0 := 5) O (ctX1_reach hE z3 1 1 σ z5 h6) wm_386 wm_387 wm_388 wm_19 wm_389 (by decide +kernel) (by decide) (gC_5 E _) hc_1 rfl rfl rfl (Nat.le_of_ble_eq_true rfl) dX10_point_32 rfl ?_
    refine a_aload_n (pc' := 36) O dX10_point_35 rfl 0 rfl rfl ?_
    refine gfC_0_10 (pc' := 39) O dX10_point_36 rfl ?_
    refine a_iload_n (pc' := 40) O dX10_point_39 rfl 1 rfl rfl ?_
    obtain ⟨z7, h8, hf⟩ := bd_some hf
    refine a_callVL (pc' := 43) (n := 1) (As := [.int a0]) (st := []) (q0 := 27) O (ctX2_term hE a0 z5 z7 h8) wm_410 wm_411 wm_412 wm_51 wm_413 (by decide +kernel) (by decide) (gC_27 E _) hc_2 rfl rfl rfl (Nat.le_of_ble_eq_true rfl) dX10_point_40 rfl ?_
    exact a_lret O hf dX10_point_43
  · refine a_bipush (pc' := 11) (v := (-2)) O dX10_point_9 (by decide) rfl ?_
    obtain ⟨z9, h10, hf⟩ := bd_some hf
    refine a_callSL (pc' := 14) (n := 1) (As := [.int (-2)]) (st := []) O (ctX10_refusal hE (-2) σ z9 h10) wm_382 wm_383 wm_2 wm_384 (by decide +kernel) (by decide) rfl rfl (Nat.le_of_ble_eq_true rfl) dX10_point_11 rfl ?_
    exact a_lret O hf dX10_point_14
def rmX10_judged : Room := { frames := 5, cells := 0, slots := 0, locals := 124 }
def fX10_judged (σ : St) : Option (Int32 × St) :=
  (fX4_size σ).bind (fun z1 => (fX9_run z1 σ).bind (fun z3 => (fX9_stuckAt z3).bind (fun z5 => some (z5, z3))))
set_option maxRecDepth 100000 in
theorem ctX10_judged {E : ET} (hE : Dj (YC E)) (σ : St) (z : Int32 × St) (hf : fX10_judged σ = some z) : Ct (YC E) yX10_judged cX10_judged 1 (some .int) rmX10_judged [.ref (E.2.2.2.2 0)] σ (some (.int z.1)) z.2 := by
  refine Ct.of hE (by decide) (Nat.le_of_ble_eq_true rfl) (fun X O => ?_)
  have O : Ok (YC E) X cX10_judged 1 RX10 (some .int) rmX10_judged (some (.int z.1)) z.2 := O
  show At (YC E) X 1 0 [(0, .ref (E.2.2.2.2 0))] [] σ
  unfold fX10_judged at hf
  refine a_aload_n (pc' := 1) O dX10_judged_0 rfl 0 rfl rfl ?_
  refine gfC_0_5 (pc' := 4) O dX10_judged_1 rfl ?_
  refine a_aload_n (pc' := 5) O dX10_judged_4 rfl 0 rfl rfl ?_
  refine gfC_0_1 (pc' := 8) O dX10_judged_5 rfl ?_
  refine a_aload_n (pc' := 9) O dX10_judged_8 rfl 0 rfl rfl ?_
  refine gfC_0_3 (pc' := 12) O dX10_judged_9 rfl ?_
  obtain ⟨z1, h2, hf⟩ := bd_some hf
  refine a_callVI (pc' := 15) (n := 0) (As := []) (st := [.ref (E.2.2.2.2 3), .ref (E.2.2.2.2 10)]) (q0 := 7) O (ctX4_size hE σ z1 h2) wm_520 wm_521 wm_522 wm_23 wm_523 (by decide +kernel) (by decide) (gC_7 E _) hc_4 rfl rfl rfl (Nat.le_of_ble_eq_true rfl) dX10_judged_12 rfl ?_
  refine a_aload_n (pc' := 16) O dX10_judged_15 rfl 0 rfl rfl ?_
  refine gfC_0_2 (pc' := 19) O dX10_judged_16 rfl ?_
  refine a_aload_n (pc' := 20) O dX10_judged_19 rfl 0 rfl rfl ?_
  refine gfC_0_4 (pc' := 23) O dX10_judged_20 rfl ?_
  obtain ⟨z3, h4, hf⟩ := bd_some hf
  refine a_callVN (pc' := 26) (n := 4) (As := [.ref (E.2.2.2.2 3), .int z1, .ref (E.2.2.2.2 5), .ref (E.2.2.2.2 8)]) (st := []) (q0 := 10) O (ctX9_run hE z1 σ z3 h4) wm_524 wm_525 wm_526 wm_31 wm_527 (by decide +kernel) (by decide) (gC_10 E _) hc_9 rfl rfl rfl (Nat.le_of_ble_eq_true rfl) dX10_judged_23 rfl ?_
  refine a_aload_n (pc' := 27) O dX10_judged_26 rfl 0 rfl rfl ?_
  refine gfC_0_5 (pc' := 30) O dX10_judged_27 rfl ?_
  obtain ⟨z5, h6, hf⟩ := bd_some hf
  refine a_callVI (pc' := 33) (n := 0) (As := []) (st := []) (q0 := 10) O (ctX9_stuckAt hE z3 z5 h6) wm_567 wm_568 wm_569 wm_31 wm_570 (by decide +kernel) (by decide) (gC_10 E _) hc_9 rfl rfl rfl (Nat.le_of_ble_eq_true rfl) dX10_judged_30 rfl ?_
  exact a_iret O hf dX10_judged_33
def rmX10_state : Room := { frames := 5, cells := 0, slots := 0, locals := 124 }
def fX10_state (a0 : Int32) (a1 : Int32) (σ : St) : Option (Int32 × St) :=
  (fX4_size σ).bind (fun z1 => (fX10_within a0 0 z1).bind (fun z3 => if z3 = 0 then some ((-2), σ) else ((fX10_within a1 0 1).bind (fun z5 => if z5 = 0 then some ((-2), σ) else ((fX9_run a0 σ).bind (fun z7 => if a1 = 0 then (fX9_depth z7).bind (fun z11 => some (z11, z7)) else ((fX9_spent z7).bind (fun z9 => some (z9, z7)))))))))
set_option maxRecDepth 100000 in
theorem ctX10_state {E : ET} (hE : Dj (YC E)) (a0 : Int32) (a1 : Int32) (σ : St) (z : Int32 × St) (hf : fX10_state a0 a1 σ = some z) : Ct (YC E) yX10_state cX10_state 3 (some .int) rmX10_state [.ref (E.2.2.2.2 0), .int a0, .int a1] σ (some (.int z.1)) z.2 := by
  refine Ct.of hE (by decide) (Nat.le_of_ble_eq_true rfl) (fun X O => ?_)
  have O : Ok (YC E) X cX10_state 3 RX10 (some .int) rmX10_state (some (.int z.1)) z.2 := O
  show At (YC E) X 3 0 [(0, .ref (E.2.2.2.2 0)), (1, .int a0), (2, .int a1)] [] σ
  unfold fX10_state at hf
  refine a_iload_n (pc' := 1) O dX10_state_0 rfl 1 rfl rfl ?_
  refine a_iconst (pc' := 2) (v := 0) O dX10_state_1 (by decide) rfl ?_
  refine a_aload_n (pc' := 3) O dX10_state_2 rfl 0 rfl rfl ?_
  refine gfC_0_3 (pc' := 6) O dX10_state_3 rfl ?_
  obtain ⟨z1, h2, hf⟩ := bd_some hf
  refine a_callVI (pc' := 9) (n := 0) (As := []) (st := [.int 0, .int a0]) (q0 := 7) O (ctX4_size hE σ z1 h2) wm_520 wm_521 wm_522 wm_23 wm_523 (by decide +kernel) (by decide) (gC_7 E _) hc_4 rfl rfl rfl (Nat.le_of_ble_eq_true rfl) dX10_state_6 rfl ?_
  obtain ⟨z3, h4, hf⟩ := bd_some hf
  refine a_callSI (pc' := 12) (n := 3) (As := [.int a0, .int 0, .int z1]) (st := []) O (ctX10_within hE a0 0 z1 σ z3 h4) wm_153 wm_154 wm_2 wm_155 (by decide +kernel) (by decide) rfl rfl (Nat.le_of_ble_eq_true rfl) dX10_state_9 rfl ?_
  refine a_if_eq (pc' := 15) (tgt := 24) O dX10_state_12 (by decide) rfl hf (fun hf => ?_) (fun hf => ?_)
  · refine a_bipush (pc' := 26) (v := (-2)) O dX10_state_24 (by decide) rfl ?_
    exact a_iret O hf dX10_state_26
  · refine a_iload_n (pc' := 16) O dX10_state_15 rfl 2 rfl rfl ?_
    refine a_iconst (pc' := 17) (v := 0) O dX10_state_16 (by decide) rfl ?_
    refine a_iconst (pc' := 18) (v := 1) O dX10_state_17 (by decide) rfl ?_
    obtain ⟨z5, h6, hf⟩ := bd_some hf
    refine a_callSI (pc' := 21) (n := 3) (As := [.int a1, .int 0, .int 1]) (st := []) O (ctX10_within hE a1 0 1 σ z5 h6) wm_153 wm_154 wm_2 wm_155 (by decide +kernel) (by decide) rfl rfl (Nat.le_of_ble_eq_true rfl) dX10_state_18 rfl ?_
    refine a_if_ne (pc' := 24) (tgt := 27) O dX10_state_21 (by decide) rfl hf (fun hf => ?_) (fun hf => ?_)
    · refine a_aload_n (pc' := 28) O dX10_state_27 rfl 0 rfl rfl ?_
      refine gfC_0_5 (pc' := 31) O dX10_state_28 rfl ?_
      refine a_aload_n (pc' := 32) O dX10_state_31 rfl 0 rfl rfl ?_
      refine gfC_0_1 (pc' := 35) O dX10_state_32 rfl ?_
      refine a_iload_n (pc' := 36) O dX10_state_35 rfl 1 rfl rfl ?_
      refine a_aload_n (pc' := 37) O dX10_state_36 rfl 0 rfl rfl ?_
      refine gfC_0_2 (pc' := 40) O dX10_state_37 rfl ?_
      refine a_aload_n (pc' := 41) O dX10_state_40 rfl 0 rfl rfl ?_
      refine gfC_0_4 (pc' := 44) O dX10_state_41 rfl ?_
      obtain ⟨z7, h8, hf⟩ := bd_some hf
      refine a_callVN (pc' := 47) (n := 4) (As := [.ref (E.2.2.2.2 3), .int a0, .ref (E.2.2.2.2 5), .ref (E.2.2.2.2 8)]) (st := []) (q0 := 10) O (ctX9_run hE a0 σ z7 h8) wm_524 wm_525 wm_526 wm_31 wm_527 (by decide +kernel) (by decide) (gC_10 E _) hc_9 rfl rfl rfl (Nat.le_of_ble_eq_true rfl) dX10_state_44 rfl ?_
      refine a_iload_n (pc' := 48) O dX10_state_47 rfl 2 rfl rfl ?_
      refine a_if_ne (pc' := 51) (tgt := 61) O dX10_state_48 (by decide) rfl hf (fun hf => ?_) (fun hf => ?_)
      · refine a_aload_n (pc' := 62) O dX10_state_61 rfl 0 rfl rfl ?_
        refine gfC_0_5 (pc' := 65) O dX10_state_62 rfl ?_
        obtain ⟨z9, h10, hf⟩ := bd_some hf
        refine a_callVI (pc' := 68) (n := 0) (As := []) (st := []) (q0 := 10) O (ctX9_spent hE z7 z9 h10) wm_610 wm_611 wm_612 wm_31 wm_613 (by decide +kernel) (by decide) (gC_10 E _) hc_9 rfl rfl rfl (Nat.le_of_ble_eq_true rfl) dX10_state_65 rfl ?_
        exact a_iret O hf dX10_state_68
      · refine a_aload_n (pc' := 52) O dX10_state_51 rfl 0 rfl rfl ?_
        refine gfC_0_5 (pc' := 55) O dX10_state_52 rfl ?_
        obtain ⟨z11, h12, hf⟩ := bd_some hf
        refine a_callVI (pc' := 58) (n := 0) (As := []) (st := []) (q0 := 10) O (ctX9_depth hE z7 z11 h12) wm_606 wm_607 wm_608 wm_31 wm_609 (by decide +kernel) (by decide) (gC_10 E _) hc_9 rfl rfl rfl (Nat.le_of_ble_eq_true rfl) dX10_state_55 rfl ?_
        refine a_goto (tgt := 68) O dX10_state_58 (by decide) ?_
        exact a_iret O hf dX10_state_68
    · refine a_bipush (pc' := 26) (v := (-2)) O dX10_state_24 (by decide) rfl ?_
      exact a_iret O hf dX10_state_26
def rmX10_left : Room := { frames := 5, cells := 0, slots := 0, locals := 124 }
def fX10_left (a0 : Int32) (a1 : Int32) (σ : St) : Option (Int32 × St) :=
  (fX4_size σ).bind (fun z1 => (fX10_within a0 0 z1).bind (fun z3 => if z3 = 0 then some ((-2), σ) else ((fX10_isGoer a1 σ).bind (fun z5 => if z5 = 0 then some ((-2), σ) else ((fX9_run a0 σ).bind (fun z7 => (fX9_remains a1 z7).bind (fun z9 => some (z9, z7))))))))
set_option maxRecDepth 100000 in
theorem ctX10_left {E : ET} (hE : Dj (YC E)) (a0 : Int32) (a1 : Int32) (σ : St) (z : Int32 × St) (hf : fX10_left a0 a1 σ = some z) : Ct (YC E) yX10_left cX10_left 3 (some .int) rmX10_left [.ref (E.2.2.2.2 0), .int a0, .int a1] σ (some (.int z.1)) z.2 := by
  refine Ct.of hE (by decide) (Nat.le_of_ble_eq_true rfl) (fun X O => ?_)
  have O : Ok (YC E) X cX10_left 3 RX10 (some .int) rmX10_left (some (.int z.1)) z.2 := O
  show At (YC E) X 3 0 [(0, .ref (E.2.2.2.2 0)), (1, .int a0), (2, .int a1)] [] σ
  unfold fX10_left at hf
  refine a_iload_n (pc' := 1) O dX10_left_0 rfl 1 rfl rfl ?_
  refine a_iconst (pc' := 2) (v := 0) O dX10_left_1 (by decide) rfl ?_
  refine a_aload_n (pc' := 3) O dX10_left_2 rfl 0 rfl rfl ?_
  refine gfC_0_3 (pc' := 6) O dX10_left_3 rfl ?_
  obtain ⟨z1, h2, hf⟩ := bd_some hf
  refine a_callVI (pc' := 9) (n := 0) (As := []) (st := [.int 0, .int a0]) (q0 := 7) O (ctX4_size hE σ z1 h2) wm_520 wm_521 wm_522 wm_23 wm_523 (by decide +kernel) (by decide) (gC_7 E _) hc_4 rfl rfl rfl (Nat.le_of_ble_eq_true rfl) dX10_left_6 rfl ?_
  obtain ⟨z3, h4, hf⟩ := bd_some hf
  refine a_callSI (pc' := 12) (n := 3) (As := [.int a0, .int 0, .int z1]) (st := []) O (ctX10_within hE a0 0 z1 σ z3 h4) wm_153 wm_154 wm_2 wm_155 (by decide +kernel) (by decide) rfl rfl (Nat.le_of_ble_eq_true rfl) dX10_left_9 rfl ?_
  refine a_if_eq (pc' := 15) (tgt := 23) O dX10_left_12 (by decide) rfl hf (fun hf => ?_) (fun hf => ?_)
  · refine a_bipush (pc' := 25) (v := (-2)) O dX10_left_23 (by decide) rfl ?_
    exact a_iret O hf dX10_left_25
  · refine a_aload_n (pc' := 16) O dX10_left_15 rfl 0 rfl rfl ?_
    refine a_iload_n (pc' := 17) O dX10_left_16 rfl 2 rfl rfl ?_
    obtain ⟨z5, h6, hf⟩ := bd_some hf
    refine a_callVI (pc' := 20) (n := 1) (As := [.int a1]) (st := []) (q0 := 0) O (ctX10_isGoer hE a1 σ z5 h6) wm_378 wm_379 wm_380 wm_2 wm_381 (by decide +kernel) (by decide) (gC_0 E _) hc_10 rfl rfl rfl (Nat.le_of_ble_eq_true rfl) dX10_left_17 rfl ?_
    refine a_if_ne (pc' := 23) (tgt := 26) O dX10_left_20 (by decide) rfl hf (fun hf => ?_) (fun hf => ?_)
    · refine a_aload_n (pc' := 27) O dX10_left_26 rfl 0 rfl rfl ?_
      refine gfC_0_5 (pc' := 30) O dX10_left_27 rfl ?_
      refine a_aload_n (pc' := 31) O dX10_left_30 rfl 0 rfl rfl ?_
      refine gfC_0_1 (pc' := 34) O dX10_left_31 rfl ?_
      refine a_iload_n (pc' := 35) O dX10_left_34 rfl 1 rfl rfl ?_
      refine a_aload_n (pc' := 36) O dX10_left_35 rfl 0 rfl rfl ?_
      refine gfC_0_2 (pc' := 39) O dX10_left_36 rfl ?_
      refine a_aload_n (pc' := 40) O dX10_left_39 rfl 0 rfl rfl ?_
      refine gfC_0_4 (pc' := 43) O dX10_left_40 rfl ?_
      obtain ⟨z7, h8, hf⟩ := bd_some hf
      refine a_callVN (pc' := 46) (n := 4) (As := [.ref (E.2.2.2.2 3), .int a0, .ref (E.2.2.2.2 5), .ref (E.2.2.2.2 8)]) (st := []) (q0 := 10) O (ctX9_run hE a0 σ z7 h8) wm_524 wm_525 wm_526 wm_31 wm_527 (by decide +kernel) (by decide) (gC_10 E _) hc_9 rfl rfl rfl (Nat.le_of_ble_eq_true rfl) dX10_left_43 rfl ?_
      refine a_aload_n (pc' := 47) O dX10_left_46 rfl 0 rfl rfl ?_
      refine gfC_0_5 (pc' := 50) O dX10_left_47 rfl ?_
      refine a_iload_n (pc' := 51) O dX10_left_50 rfl 2 rfl rfl ?_
      obtain ⟨z9, h10, hf⟩ := bd_some hf
      refine a_callVI (pc' := 54) (n := 1) (As := [.int a1]) (st := []) (q0 := 10) O (ctX9_remains hE a1 z7 z9 h10) wm_626 wm_627 wm_628 wm_31 wm_629 (by decide +kernel) (by decide) (gC_10 E _) hc_9 rfl rfl rfl (Nat.le_of_ble_eq_true rfl) dX10_left_51 rfl ?_
      exact a_iret O hf dX10_left_54
    · refine a_bipush (pc' := 25) (v := (-2)) O dX10_left_23 (by decide) rfl ?_
      exact a_iret O hf dX10_left_25
def rmX10_home : Room := { frames := 5, cells := 0, slots := 0, locals := 124 }
def fX10_home (σ : St) : Option (Int32 × St) :=
  (fX4_size σ).bind (fun z1 => (fX9_run z1 σ).bind (fun z3 => (fX9_stuckAt z3).bind (fun z5 => if z5 = (-1) then (fX9_depth z3).bind (fun z7 => if z7 = 0 then some (1, z3) else (some (0, z3))) else (some (0, z3)))))
set_option maxRecDepth 100000 in
theorem ctX10_home {E : ET} (hE : Dj (YC E)) (σ : St) (z : Int32 × St) (hf : fX10_home σ = some z) : Ct (YC E) yX10_home cX10_home 1 (some .int) rmX10_home [.ref (E.2.2.2.2 0)] σ (some (.int z.1)) z.2 := by
  refine Ct.of hE (by decide) (Nat.le_of_ble_eq_true rfl) (fun X O => ?_)
  have O : Ok (YC E) X cX10_home 1 RX10 (some .int) rmX10_home (some (.int z.1)) z.2 := O
  show At (YC E) X 1 0 [(0, .ref (E.2.2.2.2 0))] [] σ
  unfold fX10_home at hf
  refine a_aload_n (pc' := 1) O dX10_home_0 rfl 0 rfl rfl ?_
  refine gfC_0_5 (pc' := 4) O dX10_home_1 rfl ?_
  refine a_aload_n (pc' := 5) O dX10_home_4 rfl 0 rfl rfl ?_
  refine gfC_0_1 (pc' := 8) O dX10_home_5 rfl ?_
  refine a_aload_n (pc' := 9) O dX10_home_8 rfl 0 rfl rfl ?_
  refine gfC_0_3 (pc' := 12) O dX10_home_9 rfl ?_
  obtain ⟨z1, h2, hf⟩ := bd_some hf
  refine a_callVI (pc' := 15) (n := 0) (As := []) (st := [.ref (E.2.2.2.2 3), .ref (E.2.2.2.2 10)]) (q0 := 7) O (ctX4_size hE σ z1 h2) wm_520 wm_521 wm_522 wm_23 wm_523 (by decide +kernel) (by decide) (gC_7 E _) hc_4 rfl rfl rfl (Nat.le_of_ble_eq_true rfl) dX10_home_12 rfl ?_
  refine a_aload_n (pc' := 16) O dX10_home_15 rfl 0 rfl rfl ?_
  refine gfC_0_2 (pc' := 19) O dX10_home_16 rfl ?_
  refine a_aload_n (pc' := 20) O dX10_home_19 rfl 0 rfl rfl ?_
  refine gfC_0_4 (pc' := 23) O dX10_home_20 rfl ?_
  obtain ⟨z3, h4, hf⟩ := bd_some hf
  refine a_callVN (pc' := 26) (n := 4) (As := [.ref (E.2.2.2.2 3), .int z1, .ref (E.2.2.2.2 5), .ref (E.2.2.2.2 8)]) (st := []) (q0 := 10) O (ctX9_run hE z1 σ z3 h4) wm_524 wm_525 wm_526 wm_31 wm_527 (by decide +kernel) (by decide) (gC_10 E _) hc_9 rfl rfl rfl (Nat.le_of_ble_eq_true rfl) dX10_home_23 rfl ?_
  refine a_aload_n (pc' := 27) O dX10_home_26 rfl 0 rfl rfl ?_
  refine gfC_0_5 (pc' := 30) O dX10_home_27 rfl ?_
  obtain ⟨z5, h6, hf⟩ := bd_some hf
  refine a_callVI (pc' := 33) (n := 0) (As := []) (st := []) (q0 := 10) O (ctX9_stuckAt hE z3 z5 h6) wm_567 wm_568 wm_569 wm_31 wm_570 (by decide +kernel) (by decide) (gC_10 E _) hc_9 rfl rfl rfl (Nat.le_of_ble_eq_true rfl) dX10_home_30 rfl ?_
  refine a_iconst (pc' := 34) (v := (-1)) O dX10_home_33 (by decide) rfl ?_
  refine a_icmp_ne (pc' := 37) (tgt := 51) O dX10_home_34 (by decide) rfl hf (fun hf => ?_) (fun hf => ?_)
  · refine a_iconst (pc' := 52) (v := 0) O dX10_home_51 (by decide) rfl ?_
    exact a_iret O hf dX10_home_52
  · refine a_aload_n (pc' := 38) O dX10_home_37 rfl 0 rfl rfl ?_
    refine gfC_0_5 (pc' := 41) O dX10_home_38 rfl ?_
    obtain ⟨z7, h8, hf⟩ := bd_some hf
    refine a_callVI (pc' := 44) (n := 0) (As := []) (st := []) (q0 := 10) O (ctX9_depth hE z3 z7 h8) wm_606 wm_607 wm_608 wm_31 wm_609 (by decide +kernel) (by decide) (gC_10 E _) hc_9 rfl rfl rfl (Nat.le_of_ble_eq_true rfl) dX10_home_41 rfl ?_
    refine a_if_ne (pc' := 47) (tgt := 51) O dX10_home_44 (by decide) rfl hf (fun hf => ?_) (fun hf => ?_)
    · refine a_iconst (pc' := 52) (v := 0) O dX10_home_51 (by decide) rfl ?_
      exact a_iret O hf dX10_home_52
    · refine a_iconst (pc' := 48) (v := 1) O dX10_home_47 (by decide) rfl ?_
      refine a_goto (tgt := 52) O dX10_home_48 (by decide) ?_
      exact a_iret O hf dX10_home_52
def rmX10_unlit : Room := { frames := 3, cells := 0, slots := 0, locals := 74 }
def BX10_unlit_26 (σ : St) (x1 : Int32) (x2 : Int32) (x3 : Int32) (y0 : Int32) : Option (Int32 × St) :=
  if y0 = 0 then some ((-2), σ) else ((fX10_isGoer x2 σ).bind (fun z3 => if z3 = 0 then some ((-2), σ) else ((fX10_within x3 0 1).bind (fun z5 => if z5 = 0 then some ((-2), σ) else ((fX3_burns x2 σ).bind (fun z7 => (fX8_search x1 z7 σ).bind (fun z9 => if x3 = 0 then (fX8_minutes z9).bind (fun z13 => some (z13, z9)) else ((fX8_bits z9).bind (fun z11 => some (z11, z9))))))))))
set_option maxRecDepth 100000 in
theorem okBX10_unlit_26 {E : ET} {X : XT} {z : Int32 × St} (O : Ok (YC E) X cX10_unlit 5 RX10 (some .int) rmX10_unlit (some (.int z.1)) z.2) (σ : St) (x1 : Int32) (x2 : Int32) (x3 : Int32) (y0 : Int32) (hf : BX10_unlit_26 σ x1 x2 x3 y0 = some z) : At (YC E) X 5 26 [(0, .ref (E.2.2.2.2 0)), (1, .int x1), (2, .int x2), (3, .int x3)] [.int y0] σ := by
  have hE := O.2.2.2.2.2.2.2.2.2.1
  unfold BX10_unlit_26 at hf
  refine a_istore (pc' := 28) (lv' := [(4, .int y0), (0, .ref (E.2.2.2.2 0)), (1, .int x1), (2, .int x2), (3, .int x3)]) O dX10_unlit_26 (by decide) rfl rfl ?_
  refine a_iload (pc' := 30) O dX10_unlit_28 0 rfl rfl ?_
  refine a_if_eq (pc' := 33) (tgt := 50) O dX10_unlit_30 (by decide) rfl hf (fun hf => ?_) (fun hf => ?_)
  · refine a_bipush (pc' := 52) (v := (-2)) O dX10_unlit_50 (by decide) rfl ?_
    exact a_iret O hf dX10_unlit_52
  · refine a_aload_n (pc' := 34) O dX10_unlit_33 rfl 1 rfl rfl ?_
    refine a_iload_n (pc' := 35) O dX10_unlit_34 rfl 3 rfl rfl ?_
    obtain ⟨z3, h4, hf⟩ := bd_some hf
    refine a_callVI (pc' := 38) (n := 1) (As := [.int x2]) (st := []) (q0 := 0) O (ctX10_isGoer hE x2 σ z3 h4) wm_378 wm_379 wm_380 wm_2 wm_381 (by decide +kernel) (by decide) (gC_0 E _) hc_10 rfl rfl rfl (Nat.le_of_ble_eq_true rfl) dX10_unlit_35 rfl ?_
    refine a_if_eq (pc' := 41) (tgt := 50) O dX10_unlit_38 (by decide) rfl hf (fun hf => ?_) (fun hf => ?_)
    · refine a_bipush (pc' := 52) (v := (-2)) O dX10_unlit_50 (by decide) rfl ?_
      exact a_iret O hf dX10_unlit_52
    · refine a_iload_n (pc' := 42) O dX10_unlit_41 rfl 4 rfl rfl ?_
      refine a_iconst (pc' := 43) (v := 0) O dX10_unlit_42 (by decide) rfl ?_
      refine a_iconst (pc' := 44) (v := 1) O dX10_unlit_43 (by decide) rfl ?_
      obtain ⟨z5, h6, hf⟩ := bd_some hf
      refine a_callSI (pc' := 47) (n := 3) (As := [.int x3, .int 0, .int 1]) (st := []) O (ctX10_within hE x3 0 1 σ z5 h6) wm_153 wm_154 wm_2 wm_155 (by decide +kernel) (by decide) rfl rfl (Nat.le_of_ble_eq_true rfl) dX10_unlit_44 rfl ?_
      refine a_if_ne (pc' := 50) (tgt := 53) O dX10_unlit_47 (by decide) rfl hf (fun hf => ?_) (fun hf => ?_)
      · refine a_aload_n (pc' := 54) O dX10_unlit_53 rfl 1 rfl rfl ?_
        refine gfC_0_6 (pc' := 57) O dX10_unlit_54 rfl ?_
        refine a_aload_n (pc' := 58) O dX10_unlit_57 rfl 1 rfl rfl ?_
        refine gfC_0_2 (pc' := 61) O dX10_unlit_58 rfl ?_
        refine a_iload_n (pc' := 62) O dX10_unlit_61 rfl 2 rfl rfl ?_
        refine a_aload_n (pc' := 63) O dX10_unlit_62 rfl 1 rfl rfl ?_
        refine gfC_0_4 (pc' := 66) O dX10_unlit_63 rfl ?_
        refine a_iload_n (pc' := 67) O dX10_unlit_66 rfl 3 rfl rfl ?_
        obtain ⟨z7, h8, hf⟩ := bd_some hf
        refine a_callVI (pc' := 70) (n := 1) (As := [.int x2]) (st := [.int x1, .ref (E.2.2.2.2 5), .ref (E.2.2.2.2 13)]) (q0 := 8) O (ctX3_burns hE x2 σ z7 h8) wm_315 wm_316 wm_317 wm_27 wm_318 (by decide +kernel) (by decide) (gC_8 E _) hc_3 rfl rfl rfl (Nat.le_of_ble_eq_true rfl) dX10_unlit_67 rfl ?_
        obtain ⟨z9, h10, hf⟩ := bd_some hf
        refine a_callVN (pc' := 73) (n := 3) (As := [.ref (E.2.2.2.2 5), .int x1, .int z7]) (st := []) (q0 := 13) O (ctX8_search hE x1 z7 σ z9 h10) wm_654 wm_655 wm_656 wm_35 wm_657 (by decide +kernel) (by decide) (gC_13 E _) hc_8 rfl rfl rfl (Nat.le_of_ble_eq_true rfl) dX10_unlit_70 rfl ?_
        refine a_iload_n (pc' := 74) O dX10_unlit_73 rfl 4 rfl rfl ?_
        refine a_if_ne (pc' := 77) (tgt := 87) O dX10_unlit_74 (by decide) rfl hf (fun hf => ?_) (fun hf => ?_)
        · refine a_aload_n (pc' := 88) O dX10_unlit_87 rfl 1 rfl rfl ?_
          refine gfC_0_6 (pc' := 91) O dX10_unlit_88 rfl ?_
          obtain ⟨z11, h12, hf⟩ := bd_some hf
          refine a_callVI (pc' := 94) (n := 0) (As := []) (st := []) (q0 := 13) O (ctX8_bits hE z9 z11 h12) wm_670 wm_671 wm_672 wm_35 wm_673 (by decide +kernel) (by decide) (gC_13 E _) hc_8 rfl rfl rfl (Nat.le_of_ble_eq_true rfl) dX10_unlit_91 rfl ?_
          exact a_iret O hf dX10_unlit_94
        · refine a_aload_n (pc' := 78) O dX10_unlit_77 rfl 1 rfl rfl ?_
          refine gfC_0_6 (pc' := 81) O dX10_unlit_78 rfl ?_
          obtain ⟨z13, h14, hf⟩ := bd_some hf
          refine a_callVI (pc' := 84) (n := 0) (As := []) (st := []) (q0 := 13) O (ctX8_minutes hE z9 z13 h14) wm_666 wm_667 wm_668 wm_35 wm_669 (by decide +kernel) (by decide) (gC_13 E _) hc_8 rfl rfl rfl (Nat.le_of_ble_eq_true rfl) dX10_unlit_81 rfl ?_
          refine a_goto (tgt := 94) O dX10_unlit_84 (by decide) ?_
          exact a_iret O hf dX10_unlit_94
      · refine a_bipush (pc' := 52) (v := (-2)) O dX10_unlit_50 (by decide) rfl ?_
        exact a_iret O hf dX10_unlit_52
def BX10_unlit_25 (σ : St) (x1 : Int32) (x2 : Int32) (x3 : Int32) : Option (Int32 × St) :=
  BX10_unlit_26 σ x1 x2 x3 0
set_option maxRecDepth 100000 in
theorem okBX10_unlit_25 {E : ET} {X : XT} {z : Int32 × St} (O : Ok (YC E) X cX10_unlit 5 RX10 (some .int) rmX10_unlit (some (.int z.1)) z.2) (σ : St) (x1 : Int32) (x2 : Int32) (x3 : Int32) (hf : BX10_unlit_25 σ x1 x2 x3 = some z) : At (YC E) X 5 25 [(0, .ref (E.2.2.2.2 0)), (1, .int x1), (2, .int x2), (3, .int x3)] [] σ := by
  have hE := O.2.2.2.2.2.2.2.2.2.1
  unfold BX10_unlit_25 at hf
  refine a_iconst (pc' := 26) (v := 0) O dX10_unlit_25 (by decide) rfl ?_
  exact a_sub [0, 1, 2, 3] rfl (okBX10_unlit_26 O σ x1 x2 x3 0 hf)
def fX10_unlit (a0 : Int32) (a1 : Int32) (a2 : Int32) (σ : St) : Option (Int32 × St) :=
  (fX10_within a0 0 10).bind (fun z1 => if z1 = 0 then BX10_unlit_25 σ a0 a1 a2 else ((fX1_size σ).bind (fun z15 => if z15 < a0 then BX10_unlit_25 σ a0 a1 a2 else (BX10_unlit_26 σ a0 a1 a2 1))))
set_option maxRecDepth 100000 in
theorem ctX10_unlit {E : ET} (hE : Dj (YC E)) (a0 : Int32) (a1 : Int32) (a2 : Int32) (σ : St) (z : Int32 × St) (hf : fX10_unlit a0 a1 a2 σ = some z) : Ct (YC E) yX10_unlit cX10_unlit 5 (some .int) rmX10_unlit [.ref (E.2.2.2.2 0), .int a0, .int a1, .int a2] σ (some (.int z.1)) z.2 := by
  refine Ct.of hE (by decide) (Nat.le_of_ble_eq_true rfl) (fun X O => ?_)
  have O : Ok (YC E) X cX10_unlit 5 RX10 (some .int) rmX10_unlit (some (.int z.1)) z.2 := O
  show At (YC E) X 5 0 [(0, .ref (E.2.2.2.2 0)), (1, .int a0), (2, .int a1), (3, .int a2)] [] σ
  unfold fX10_unlit at hf
  refine a_iload_n (pc' := 1) O dX10_unlit_0 rfl 1 rfl rfl ?_
  refine a_iconst (pc' := 2) (v := 0) O dX10_unlit_1 (by decide) rfl ?_
  refine a_bipush (pc' := 4) (v := 10) O dX10_unlit_2 (by decide) rfl ?_
  obtain ⟨z1, h2, hf⟩ := bd_some hf
  refine a_callSI (pc' := 7) (n := 3) (As := [.int a0, .int 0, .int 10]) (st := []) O (ctX10_within hE a0 0 10 σ z1 h2) wm_153 wm_154 wm_2 wm_155 (by decide +kernel) (by decide) rfl rfl (Nat.le_of_ble_eq_true rfl) dX10_unlit_4 rfl ?_
  refine a_if_eq (pc' := 10) (tgt := 25) O dX10_unlit_7 (by decide) rfl hf (fun hf => ?_) (fun hf => ?_)
  · exact a_sub [0, 1, 2, 3] rfl (okBX10_unlit_25 O σ a0 a1 a2 hf)
  · refine a_iload_n (pc' := 11) O dX10_unlit_10 rfl 1 rfl rfl ?_
    refine a_aload_n (pc' := 12) O dX10_unlit_11 rfl 0 rfl rfl ?_
    refine gfC_0_2 (pc' := 15) O dX10_unlit_12 rfl ?_
    obtain ⟨z15, h16, hf⟩ := bd_some hf
    refine a_callVI (pc' := 18) (n := 0) (As := []) (st := [.int a0]) (q0 := 5) O (ctX1_size hE σ z15 h16) wm_273 wm_274 wm_275 wm_19 wm_276 (by decide +kernel) (by decide) (gC_5 E _) hc_1 rfl rfl rfl (Nat.le_of_ble_eq_true rfl) dX10_unlit_15 rfl ?_
    refine a_icmp_gt (pc' := 21) (tgt := 25) O dX10_unlit_18 (by decide) rfl hf (fun hf => ?_) (fun hf => ?_)
    · exact a_sub [0, 1, 2, 3] rfl (okBX10_unlit_25 O σ a0 a1 a2 hf)
    · refine a_iconst (pc' := 22) (v := 1) O dX10_unlit_21 (by decide) rfl ?_
      refine a_goto (tgt := 26) O dX10_unlit_22 (by decide) ?_
      exact a_sub [0, 1, 2, 3] rfl (okBX10_unlit_26 O σ a0 a1 a2 1 hf)
def rmX10_helped : Room := { frames := 2, cells := 0, slots := 0, locals := 56 }
def fX10_helped (a0 : Int32) (a1 : Int32) (σ : St) : Option St :=
  (fX2_set ((a1.toInt64) * (a0.toInt64)) ((a0 + 1).toInt64) σ).bind (fun z1 => some z1)
set_option maxRecDepth 100000 in
theorem ctX10_helped {E : ET} (hE : Dj (YC E)) (a0 : Int32) (a1 : Int32) (σ : St) (z : St) (hf : fX10_helped a0 a1 σ = some z) : Ct (YC E) yX10_helped cX10_helped 3 none rmX10_helped [.ref (E.2.2.2.2 0), .int a0, .int a1] σ none z := by
  refine Ct.of hE (by decide) (Nat.le_of_ble_eq_true rfl) (fun X O => ?_)
  have O : Ok (YC E) X cX10_helped 3 RX10 none rmX10_helped none z := O
  show At (YC E) X 3 0 [(0, .ref (E.2.2.2.2 0)), (1, .int a0), (2, .int a1)] [] σ
  unfold fX10_helped at hf
  refine a_aload_n (pc' := 1) O dX10_helped_0 rfl 0 rfl rfl ?_
  refine gfC_0_10 (pc' := 4) O dX10_helped_1 rfl ?_
  refine a_iload_n (pc' := 5) O dX10_helped_4 rfl 2 rfl rfl ?_
  refine a_i2l (pc' := 6) O dX10_helped_5 rfl rfl ?_
  refine a_iload_n (pc' := 7) O dX10_helped_6 rfl 1 rfl rfl ?_
  refine a_i2l (pc' := 8) O dX10_helped_7 rfl rfl ?_
  refine a_lmul (pc' := 9) O dX10_helped_8 rfl ?_
  refine a_iload_n (pc' := 10) O dX10_helped_9 rfl 1 rfl rfl ?_
  refine a_iconst (pc' := 11) (v := 1) O dX10_helped_10 (by decide) rfl ?_
  refine a_iadd (pc' := 12) O dX10_helped_11 rfl ?_
  refine a_i2l (pc' := 13) O dX10_helped_12 rfl rfl ?_
  obtain ⟨z1, h2, hf⟩ := bd_some hf
  refine a_callVN (pc' := 16) (n := 2) (As := [.long ((a1.toInt64) * (a0.toInt64)), .long ((a0 + 1).toInt64)]) (st := []) (q0 := 27) O (ctX2_set hE ((a1.toInt64) * (a0.toInt64)) ((a0 + 1).toInt64) σ z1 h2) wm_693 wm_404 wm_405 wm_51 wm_406 (by decide +kernel) (by decide) (gC_27 E _) hc_2 rfl rfl rfl (Nat.le_of_ble_eq_true rfl) dX10_helped_13 rfl ?_
  exact a_vret O hf dX10_helped_16
def rmX10_help : Room := { frames := 3, cells := 0, slots := 0, locals := 78 }
def fX10_help (a0 : Int32) (a1 : Int32) (a2 : Int32) (σ : St) : Option (Int64 × St) :=
  (fX10_within a0 1 6).bind (fun z1 => if z1 = 0 then (fX10_refusal (-2)).bind (fun z3 => some (z3, σ)) else ((fX10_within a1 1 999).bind (fun z5 => if z5 = 0 then (fX10_refusal (-2)).bind (fun z7 => some (z7, σ)) else ((fX10_within a2 0 1).bind (fun z9 => if z9 = 0 then (fX10_refusal (-2)).bind (fun z15 => some (z15, σ)) else ((fX10_helped a0 a1 σ).bind (fun z11 => (fX2_term a2 z11).bind (fun z13 => some (z13, z11)))))))))
set_option maxRecDepth 100000 in
theorem ctX10_help {E : ET} (hE : Dj (YC E)) (a0 : Int32) (a1 : Int32) (a2 : Int32) (σ : St) (z : Int64 × St) (hf : fX10_help a0 a1 a2 σ = some z) : Ct (YC E) yX10_help cX10_help 4 (some .long) rmX10_help [.ref (E.2.2.2.2 0), .int a0, .int a1, .int a2] σ (some (.long z.1)) z.2 := by
  refine Ct.of hE (by decide) (Nat.le_of_ble_eq_true rfl) (fun X O => ?_)
  have O : Ok (YC E) X cX10_help 4 RX10 (some .long) rmX10_help (some (.long z.1)) z.2 := O
  show At (YC E) X 4 0 [(0, .ref (E.2.2.2.2 0)), (1, .int a0), (2, .int a1), (3, .int a2)] [] σ
  unfold fX10_help at hf
  refine a_iload_n (pc' := 1) O dX10_help_0 rfl 1 rfl rfl ?_
  refine a_iconst (pc' := 2) (v := 1) O dX10_help_1 (by decide) rfl ?_
  refine a_bipush (pc' := 4) (v := 6) O dX10_help_2 (by decide) rfl ?_
  obtain ⟨z1, h2, hf⟩ := bd_some hf
  refine a_callSI (pc' := 7) (n := 3) (As := [.int a0, .int 1, .int 6]) (st := []) O (ctX10_within hE a0 1 6 σ z1 h2) wm_153 wm_154 wm_2 wm_155 (by decide +kernel) (by decide) rfl rfl (Nat.le_of_ble_eq_true rfl) dX10_help_4 rfl ?_
  refine a_if_eq (pc' := 10) (tgt := 30) O dX10_help_7 (by decide) rfl hf (fun hf => ?_) (fun hf => ?_)
  · refine a_bipush (pc' := 32) (v := (-2)) O dX10_help_30 (by decide) rfl ?_
    obtain ⟨z3, h4, hf⟩ := bd_some hf
    refine a_callSL (pc' := 35) (n := 1) (As := [.int (-2)]) (st := []) O (ctX10_refusal hE (-2) σ z3 h4) wm_382 wm_383 wm_2 wm_384 (by decide +kernel) (by decide) rfl rfl (Nat.le_of_ble_eq_true rfl) dX10_help_32 rfl ?_
    exact a_lret O hf dX10_help_35
  · refine a_iload_n (pc' := 11) O dX10_help_10 rfl 2 rfl rfl ?_
    refine a_iconst (pc' := 12) (v := 1) O dX10_help_11 (by decide) rfl ?_
    refine a_sipush (pc' := 15) (v := 999) O dX10_help_12 (by decide) rfl ?_
    obtain ⟨z5, h6, hf⟩ := bd_some hf
    refine a_callSI (pc' := 18) (n := 3) (As := [.int a1, .int 1, .int 999]) (st := []) O (ctX10_within hE a1 1 999 σ z5 h6) wm_153 wm_154 wm_2 wm_155 (by decide +kernel) (by decide) rfl rfl (Nat.le_of_ble_eq_true rfl) dX10_help_15 rfl ?_
    refine a_if_eq (pc' := 21) (tgt := 30) O dX10_help_18 (by decide) rfl hf (fun hf => ?_) (fun hf => ?_)
    · refine a_bipush (pc' := 32) (v := (-2)) O dX10_help_30 (by decide) rfl ?_
      obtain ⟨z7, h8, hf⟩ := bd_some hf
      refine a_callSL (pc' := 35) (n := 1) (As := [.int (-2)]) (st := []) O (ctX10_refusal hE (-2) σ z7 h8) wm_382 wm_383 wm_2 wm_384 (by decide +kernel) (by decide) rfl rfl (Nat.le_of_ble_eq_true rfl) dX10_help_32 rfl ?_
      exact a_lret O hf dX10_help_35
    · refine a_iload_n (pc' := 22) O dX10_help_21 rfl 3 rfl rfl ?_
      refine a_iconst (pc' := 23) (v := 0) O dX10_help_22 (by decide) rfl ?_
      refine a_iconst (pc' := 24) (v := 1) O dX10_help_23 (by decide) rfl ?_
      obtain ⟨z9, h10, hf⟩ := bd_some hf
      refine a_callSI (pc' := 27) (n := 3) (As := [.int a2, .int 0, .int 1]) (st := []) O (ctX10_within hE a2 0 1 σ z9 h10) wm_153 wm_154 wm_2 wm_155 (by decide +kernel) (by decide) rfl rfl (Nat.le_of_ble_eq_true rfl) dX10_help_24 rfl ?_
      refine a_if_ne (pc' := 30) (tgt := 36) O dX10_help_27 (by decide) rfl hf (fun hf => ?_) (fun hf => ?_)
      · refine a_aload_n (pc' := 37) O dX10_help_36 rfl 0 rfl rfl ?_
        refine a_iload_n (pc' := 38) O dX10_help_37 rfl 1 rfl rfl ?_
        refine a_iload_n (pc' := 39) O dX10_help_38 rfl 2 rfl rfl ?_
        obtain ⟨z11, h12, hf⟩ := bd_some hf
        refine a_callVN (pc' := 42) (n := 2) (As := [.int a0, .int a1]) (st := []) (q0 := 0) O (ctX10_helped hE a0 a1 σ z11 h12) wm_689 wm_690 wm_691 wm_2 wm_692 (by decide +kernel) (by decide) (gC_0 E _) hc_10 rfl rfl rfl (Nat.le_of_ble_eq_true rfl) dX10_help_39 rfl ?_
        refine a_aload_n (pc' := 43) O dX10_help_42 rfl 0 rfl rfl ?_
        refine gfC_0_10 (pc' := 46) O dX10_help_43 rfl ?_
        refine a_iload_n (pc' := 47) O dX10_help_46 rfl 3 rfl rfl ?_
        obtain ⟨z13, h14, hf⟩ := bd_some hf
        refine a_callVL (pc' := 50) (n := 1) (As := [.int a2]) (st := []) (q0 := 27) O (ctX2_term hE a2 z11 z13 h14) wm_410 wm_411 wm_412 wm_51 wm_413 (by decide +kernel) (by decide) (gC_27 E _) hc_2 rfl rfl rfl (Nat.le_of_ble_eq_true rfl) dX10_help_47 rfl ?_
        exact a_lret O hf dX10_help_50
      · refine a_bipush (pc' := 32) (v := (-2)) O dX10_help_30 (by decide) rfl ?_
        obtain ⟨z15, h16, hf⟩ := bd_some hf
        refine a_callSL (pc' := 35) (n := 1) (As := [.int (-2)]) (st := []) O (ctX10_refusal hE (-2) σ z15 h16) wm_382 wm_383 wm_2 wm_384 (by decide +kernel) (by decide) rfl rfl (Nat.le_of_ble_eq_true rfl) dX10_help_32 rfl ?_
        exact a_lret O hf dX10_help_35
def rmX10_least : Room := { frames := 3, cells := 0, slots := 0, locals := 78 }
def BX10_least_27 (k27 : St → Int32 → Int32 → Int32 → Option (Int32 × St)) (σ : St) (x1 : Int32) (x2 : Int32) (x3 : Int32) : Option (Int32 × St) :=
  if 6 < x3 then some ((-1), σ) else ((fX10_helped x3 x2 σ).bind (fun z5 => (fX2_term 0 z5).bind (fun z7 => (fX2_term 1 z5).bind (fun z9 => if z7 < ((x1.toInt64) * z9) then bI (x3 + 1) (fun v11 => k27 z5 x1 x2 v11) else (some (x3, z5))))))
set_option maxRecDepth 100000 in
theorem okBX10_least_27 {E : ET} {X : XT} {z : Int32 × St} (O : Ok (YC E) X cX10_least 4 RX10 (some .int) rmX10_least (some (.int z.1)) z.2) (k27 : St → Int32 → Int32 → Int32 → Option (Int32 × St)) (hk27 : ∀ (σ : St) (x1 : Int32) (x2 : Int32) (x3 : Int32), k27 σ x1 x2 x3 = some z → At (YC E) X 4 27 [(0, .ref (E.2.2.2.2 0)), (1, .int x1), (2, .int x2), (3, .int x3)] [] σ) (σ : St) (x1 : Int32) (x2 : Int32) (x3 : Int32) (hf : BX10_least_27 k27 σ x1 x2 x3 = some z) : At (YC E) X 4 27 [(0, .ref (E.2.2.2.2 0)), (1, .int x1), (2, .int x2), (3, .int x3)] [] σ := by
  have hE := O.2.2.2.2.2.2.2.2.2.1
  unfold BX10_least_27 at hf
  refine a_iload_n (pc' := 28) O dX10_least_27 rfl 3 rfl rfl ?_
  refine a_bipush (pc' := 30) (v := 6) O dX10_least_28 (by decide) rfl ?_
  refine a_icmp_gt (pc' := 33) (tgt := 70) O dX10_least_30 (by decide) rfl hf (fun hf => ?_) (fun hf => ?_)
  · refine a_iconst (pc' := 71) (v := (-1)) O dX10_least_70 (by decide) rfl ?_
    exact a_iret O hf dX10_least_71
  · refine a_aload_n (pc' := 34) O dX10_least_33 rfl 0 rfl rfl ?_
    refine a_iload_n (pc' := 35) O dX10_least_34 rfl 3 rfl rfl ?_
    refine a_iload_n (pc' := 36) O dX10_least_35 rfl 2 rfl rfl ?_
    obtain ⟨z5, h6, hf⟩ := bd_some hf
    refine a_callVN (pc' := 39) (n := 2) (As := [.int x3, .int x2]) (st := []) (q0 := 0) O (ctX10_helped hE x3 x2 σ z5 h6) wm_689 wm_690 wm_691 wm_2 wm_692 (by decide +kernel) (by decide) (gC_0 E _) hc_10 rfl rfl rfl (Nat.le_of_ble_eq_true rfl) dX10_least_36 rfl ?_
    refine a_aload_n (pc' := 40) O dX10_least_39 rfl 0 rfl rfl ?_
    refine gfC_0_10 (pc' := 43) O dX10_least_40 rfl ?_
    refine a_iconst (pc' := 44) (v := 0) O dX10_least_43 (by decide) rfl ?_
    obtain ⟨z7, h8, hf⟩ := bd_some hf
    refine a_callVL (pc' := 47) (n := 1) (As := [.int 0]) (st := []) (q0 := 27) O (ctX2_term hE 0 z5 z7 h8) wm_410 wm_411 wm_412 wm_51 wm_413 (by decide +kernel) (by decide) (gC_27 E _) hc_2 rfl rfl rfl (Nat.le_of_ble_eq_true rfl) dX10_least_44 rfl ?_
    refine a_iload_n (pc' := 48) O dX10_least_47 rfl 1 rfl rfl ?_
    refine a_i2l (pc' := 49) O dX10_least_48 rfl rfl ?_
    refine a_aload_n (pc' := 50) O dX10_least_49 rfl 0 rfl rfl ?_
    refine gfC_0_10 (pc' := 53) O dX10_least_50 rfl ?_
    refine a_iconst (pc' := 54) (v := 1) O dX10_least_53 (by decide) rfl ?_
    obtain ⟨z9, h10, hf⟩ := bd_some hf
    refine a_callVL (pc' := 57) (n := 1) (As := [.int 1]) (st := [.long (x1.toInt64), .long z7]) (q0 := 27) O (ctX2_term hE 1 z5 z9 h10) wm_410 wm_411 wm_412 wm_51 wm_413 (by decide +kernel) (by decide) (gC_27 E _) hc_2 rfl rfl rfl (Nat.le_of_ble_eq_true rfl) dX10_least_54 rfl ?_
    refine a_lmul (pc' := 58) O dX10_least_57 rfl ?_
    refine a_lcmp_lt (pc' := 62) (pc1 := 59) (tgt := 64) O dX10_least_58 rfl dX10_least_59 (by decide) rfl hf (fun hf => ?_) (fun hf => ?_)
    · refine a_iincB (pc' := 67) (lv' := fun v11 => [(3, .int v11), (0, .ref (E.2.2.2.2 0)), (1, .int x1), (2, .int x2)]) (c0 := 1) O dX10_least_64 3 rfl (by decide) (by decide) (fun _ => rfl) rfl hf (fun v11 hf => ?_)
      refine a_goto (tgt := 27) O dX10_least_67 (by decide) ?_
      exact a_sub [1, 2, 3, 0] rfl (hk27 z5 x1 x2 v11 hf)
    · refine a_iload_n (pc' := 63) O dX10_least_62 rfl 3 rfl rfl ?_
      exact a_iret O hf dX10_least_63
def LX10_least_27 : Nat → St → Int32 → Int32 → Int32 → Option (Int32 × St)
  | 0, _, _, _, _ => none
  | n + 1, σ, x1, x2, x3 => BX10_least_27 (LX10_least_27 n) σ x1 x2 x3
theorem okLX10_least_27 {E : ET} {X : XT} {z : Int32 × St} (O : Ok (YC E) X cX10_least 4 RX10 (some .int) rmX10_least (some (.int z.1)) z.2) : ∀ (n : Nat) (σ : St) (x1 : Int32) (x2 : Int32) (x3 : Int32), LX10_least_27 n σ x1 x2 x3 = some z → At (YC E) X 4 27 [(0, .ref (E.2.2.2.2 0)), (1, .int x1), (2, .int x2), (3, .int x3)] [] σ := by
  intro n
  induction n with
  | zero =>
    intro σ x1 x2 x3 hf
    rw [LX10_least_27] at hf
    cases hf
  | succ n ih =>
    intro σ x1 x2 x3 hf
    rw [LX10_least_27] at hf
    exact okBX10_least_27 O (LX10_least_27 n) ih σ x1 x2 x3 hf
def fX10_least (a0 : Int32) (a1 : Int32) (σ : St) : Option (Int32 × St) :=
  (fX10_within a0 1 999).bind (fun z1 => if z1 = 0 then some ((-2), σ) else ((fX10_within a1 1 999).bind (fun z3 => if z3 = 0 then some ((-2), σ) else (LX10_least_27 fu σ a0 a1 1))))
set_option maxRecDepth 100000 in
theorem ctX10_least {E : ET} (hE : Dj (YC E)) (a0 : Int32) (a1 : Int32) (σ : St) (z : Int32 × St) (hf : fX10_least a0 a1 σ = some z) : Ct (YC E) yX10_least cX10_least 4 (some .int) rmX10_least [.ref (E.2.2.2.2 0), .int a0, .int a1] σ (some (.int z.1)) z.2 := by
  refine Ct.of hE (by decide) (Nat.le_of_ble_eq_true rfl) (fun X O => ?_)
  have O : Ok (YC E) X cX10_least 4 RX10 (some .int) rmX10_least (some (.int z.1)) z.2 := O
  show At (YC E) X 4 0 [(0, .ref (E.2.2.2.2 0)), (1, .int a0), (2, .int a1)] [] σ
  unfold fX10_least at hf
  refine a_iload_n (pc' := 1) O dX10_least_0 rfl 1 rfl rfl ?_
  refine a_iconst (pc' := 2) (v := 1) O dX10_least_1 (by decide) rfl ?_
  refine a_sipush (pc' := 5) (v := 999) O dX10_least_2 (by decide) rfl ?_
  obtain ⟨z1, h2, hf⟩ := bd_some hf
  refine a_callSI (pc' := 8) (n := 3) (As := [.int a0, .int 1, .int 999]) (st := []) O (ctX10_within hE a0 1 999 σ z1 h2) wm_153 wm_154 wm_2 wm_155 (by decide +kernel) (by decide) rfl rfl (Nat.le_of_ble_eq_true rfl) dX10_least_5 rfl ?_
  refine a_if_eq (pc' := 11) (tgt := 22) O dX10_least_8 (by decide) rfl hf (fun hf => ?_) (fun hf => ?_)
  · refine a_bipush (pc' := 24) (v := (-2)) O dX10_least_22 (by decide) rfl ?_
    exact a_iret O hf dX10_least_24
  · refine a_iload_n (pc' := 12) O dX10_least_11 rfl 2 rfl rfl ?_
    refine a_iconst (pc' := 13) (v := 1) O dX10_least_12 (by decide) rfl ?_
    refine a_sipush (pc' := 16) (v := 999) O dX10_least_13 (by decide) rfl ?_
    obtain ⟨z3, h4, hf⟩ := bd_some hf
    refine a_callSI (pc' := 19) (n := 3) (As := [.int a1, .int 1, .int 999]) (st := []) O (ctX10_within hE a1 1 999 σ z3 h4) wm_153 wm_154 wm_2 wm_155 (by decide +kernel) (by decide) rfl rfl (Nat.le_of_ble_eq_true rfl) dX10_least_16 rfl ?_
    refine a_if_ne (pc' := 22) (tgt := 25) O dX10_least_19 (by decide) rfl hf (fun hf => ?_) (fun hf => ?_)
    · refine a_iconst (pc' := 26) (v := 1) O dX10_least_25 (by decide) rfl ?_
      refine a_istore_n (pc' := 27) (lv' := [(3, .int 1), (0, .ref (E.2.2.2.2 0)), (1, .int a0), (2, .int a1)]) O dX10_least_26 rfl (by decide) rfl rfl ?_
      exact a_sub [1, 2, 3, 0] rfl (okLX10_least_27 O fu σ a0 a1 1 hf)
    · refine a_bipush (pc' := 24) (v := (-2)) O dX10_least_22 (by decide) rfl ?_
      exact a_iret O hf dX10_least_24
def rmX10_side : Room := { frames := 3, cells := 0, slots := 0, locals := 66 }
def fX10_side (a0 : Int32) (a1 : Int32) (σ : St) : Option (Int32 × St) :=
  (fX10_within a0 0 16).bind (fun z1 => if z1 = 0 then some ((-2), σ) else ((fX10_within a1 1 99).bind (fun z3 => if z3 = 0 then some ((-2), σ) else ((fX6_add a0 a1 σ).bind (fun z5 => if z5.1 = 0 then some ((-4), z5.2) else ((fX6_size z5.2).bind (fun z7 => some (z7, z5.2))))))))
set_option maxRecDepth 100000 in
theorem ctX10_side {E : ET} (hE : Dj (YC E)) (a0 : Int32) (a1 : Int32) (σ : St) (z : Int32 × St) (hf : fX10_side a0 a1 σ = some z) : Ct (YC E) yX10_side cX10_side 3 (some .int) rmX10_side [.ref (E.2.2.2.2 0), .int a0, .int a1] σ (some (.int z.1)) z.2 := by
  refine Ct.of hE (by decide) (Nat.le_of_ble_eq_true rfl) (fun X O => ?_)
  have O : Ok (YC E) X cX10_side 3 RX10 (some .int) rmX10_side (some (.int z.1)) z.2 := O
  show At (YC E) X 3 0 [(0, .ref (E.2.2.2.2 0)), (1, .int a0), (2, .int a1)] [] σ
  unfold fX10_side at hf
  refine a_iload_n (pc' := 1) O dX10_side_0 rfl 1 rfl rfl ?_
  refine a_iconst (pc' := 2) (v := 0) O dX10_side_1 (by decide) rfl ?_
  refine a_bipush (pc' := 4) (v := 16) O dX10_side_2 (by decide) rfl ?_
  obtain ⟨z1, h2, hf⟩ := bd_some hf
  refine a_callSI (pc' := 7) (n := 3) (As := [.int a0, .int 0, .int 16]) (st := []) O (ctX10_within hE a0 0 16 σ z1 h2) wm_153 wm_154 wm_2 wm_155 (by decide +kernel) (by decide) rfl rfl (Nat.le_of_ble_eq_true rfl) dX10_side_4 rfl ?_
  refine a_if_eq (pc' := 10) (tgt := 20) O dX10_side_7 (by decide) rfl hf (fun hf => ?_) (fun hf => ?_)
  · refine a_bipush (pc' := 22) (v := (-2)) O dX10_side_20 (by decide) rfl ?_
    exact a_iret O hf dX10_side_22
  · refine a_iload_n (pc' := 11) O dX10_side_10 rfl 2 rfl rfl ?_
    refine a_iconst (pc' := 12) (v := 1) O dX10_side_11 (by decide) rfl ?_
    refine a_bipush (pc' := 14) (v := 99) O dX10_side_12 (by decide) rfl ?_
    obtain ⟨z3, h4, hf⟩ := bd_some hf
    refine a_callSI (pc' := 17) (n := 3) (As := [.int a1, .int 1, .int 99]) (st := []) O (ctX10_within hE a1 1 99 σ z3 h4) wm_153 wm_154 wm_2 wm_155 (by decide +kernel) (by decide) rfl rfl (Nat.le_of_ble_eq_true rfl) dX10_side_14 rfl ?_
    refine a_if_ne (pc' := 20) (tgt := 23) O dX10_side_17 (by decide) rfl hf (fun hf => ?_) (fun hf => ?_)
    · refine a_aload_n (pc' := 24) O dX10_side_23 rfl 0 rfl rfl ?_
      refine gfC_0_7 (pc' := 27) O dX10_side_24 rfl ?_
      refine a_iload_n (pc' := 28) O dX10_side_27 rfl 1 rfl rfl ?_
      refine a_iload_n (pc' := 29) O dX10_side_28 rfl 2 rfl rfl ?_
      obtain ⟨z5, h6, hf⟩ := bd_some hf
      refine a_callVI (pc' := 32) (n := 2) (As := [.int a0, .int a1]) (st := []) (q0 := 14) O (ctX6_add hE a0 a1 σ z5 h6) wm_714 wm_715 wm_716 wm_39 wm_717 (by decide +kernel) (by decide) (gC_14 E _) hc_6 rfl rfl rfl (Nat.le_of_ble_eq_true rfl) dX10_side_29 rfl ?_
      refine a_if_eq (pc' := 35) (tgt := 45) O dX10_side_32 (by decide) rfl hf (fun hf => ?_) (fun hf => ?_)
      · refine a_bipush (pc' := 47) (v := (-4)) O dX10_side_45 (by decide) rfl ?_
        exact a_iret O hf dX10_side_47
      · refine a_aload_n (pc' := 36) O dX10_side_35 rfl 0 rfl rfl ?_
        refine gfC_0_7 (pc' := 39) O dX10_side_36 rfl ?_
        obtain ⟨z7, h8, hf⟩ := bd_some hf
        refine a_callVI (pc' := 42) (n := 0) (As := []) (st := []) (q0 := 14) O (ctX6_size hE z5.2 z7 h8) wm_730 wm_731 wm_732 wm_39 wm_733 (by decide +kernel) (by decide) (gC_14 E _) hc_6 rfl rfl rfl (Nat.le_of_ble_eq_true rfl) dX10_side_39 rfl ?_
        refine a_goto (tgt := 47) O dX10_side_42 (by decide) ?_
        exact a_iret O hf dX10_side_47
    · refine a_bipush (pc' := 22) (v := (-2)) O dX10_side_20 (by decide) rfl ?_
      exact a_iret O hf dX10_side_22
def rmX10_gone : Room := { frames := 3, cells := 0, slots := 0, locals := 64 }
def fX10_gone (σ : St) : Option (Int32 × St) :=
  (fX6_dropLast σ).bind (fun z1 => if z1.1 = 0 then some ((-3), z1.2) else ((fX6_size z1.2).bind (fun z3 => some (z3, z1.2))))
set_option maxRecDepth 100000 in
theorem ctX10_gone {E : ET} (hE : Dj (YC E)) (σ : St) (z : Int32 × St) (hf : fX10_gone σ = some z) : Ct (YC E) yX10_gone cX10_gone 1 (some .int) rmX10_gone [.ref (E.2.2.2.2 0)] σ (some (.int z.1)) z.2 := by
  refine Ct.of hE (by decide) (Nat.le_of_ble_eq_true rfl) (fun X O => ?_)
  have O : Ok (YC E) X cX10_gone 1 RX10 (some .int) rmX10_gone (some (.int z.1)) z.2 := O
  show At (YC E) X 1 0 [(0, .ref (E.2.2.2.2 0))] [] σ
  unfold fX10_gone at hf
  refine a_aload_n (pc' := 1) O dX10_gone_0 rfl 0 rfl rfl ?_
  refine gfC_0_7 (pc' := 4) O dX10_gone_1 rfl ?_
  obtain ⟨z1, h2, hf⟩ := bd_some hf
  refine a_callVI (pc' := 7) (n := 0) (As := []) (st := []) (q0 := 14) O (ctX6_dropLast hE σ z1 h2) wm_749 wm_750 wm_751 wm_39 wm_752 (by decide +kernel) (by decide) (gC_14 E _) hc_6 rfl rfl rfl (Nat.le_of_ble_eq_true rfl) dX10_gone_4 rfl ?_
  refine a_if_eq (pc' := 10) (tgt := 20) O dX10_gone_7 (by decide) rfl hf (fun hf => ?_) (fun hf => ?_)
  · refine a_bipush (pc' := 22) (v := (-3)) O dX10_gone_20 (by decide) rfl ?_
    exact a_iret O hf dX10_gone_22
  · refine a_aload_n (pc' := 11) O dX10_gone_10 rfl 0 rfl rfl ?_
    refine gfC_0_7 (pc' := 14) O dX10_gone_11 rfl ?_
    obtain ⟨z3, h4, hf⟩ := bd_some hf
    refine a_callVI (pc' := 17) (n := 0) (As := []) (st := []) (q0 := 14) O (ctX6_size hE z1.2 z3 h4) wm_730 wm_731 wm_732 wm_39 wm_733 (by decide +kernel) (by decide) (gC_14 E _) hc_6 rfl rfl rfl (Nat.le_of_ble_eq_true rfl) dX10_gone_14 rfl ?_
    refine a_goto (tgt := 22) O dX10_gone_17 (by decide) ?_
    exact a_iret O hf dX10_gone_22
def rmX10_first : Room := { frames := 1, cells := 0, slots := 0, locals := 22 }
def fX10_first (a0 : Int32) (σ : St) : Option Int32 :=
  (fX10_within a0 0 5).bind (fun z1 => if z1 = 0 then some (-2) else ((fX6_tried a0 σ).bind (fun z3 => some z3)))
set_option maxRecDepth 100000 in
theorem ctX10_first {E : ET} (hE : Dj (YC E)) (a0 : Int32) (σ : St) (z : Int32) (hf : fX10_first a0 σ = some z) : Ct (YC E) yX10_first cX10_first 2 (some .int) rmX10_first [.ref (E.2.2.2.2 0), .int a0] σ (some (.int z)) σ := by
  refine Ct.of hE (by decide) (Nat.le_of_ble_eq_true rfl) (fun X O => ?_)
  have O : Ok (YC E) X cX10_first 2 RX10 (some .int) rmX10_first (some (.int z)) σ := O
  show At (YC E) X 2 0 [(0, .ref (E.2.2.2.2 0)), (1, .int a0)] [] σ
  unfold fX10_first at hf
  refine a_iload_n (pc' := 1) O dX10_first_0 rfl 1 rfl rfl ?_
  refine a_iconst (pc' := 2) (v := 0) O dX10_first_1 (by decide) rfl ?_
  refine a_iconst (pc' := 3) (v := 5) O dX10_first_2 (by decide) rfl ?_
  obtain ⟨z1, h2, hf⟩ := bd_some hf
  refine a_callSI (pc' := 6) (n := 3) (As := [.int a0, .int 0, .int 5]) (st := []) O (ctX10_within hE a0 0 5 σ z1 h2) wm_153 wm_154 wm_2 wm_155 (by decide +kernel) (by decide) rfl rfl (Nat.le_of_ble_eq_true rfl) dX10_first_3 rfl ?_
  refine a_if_ne (pc' := 9) (tgt := 12) O dX10_first_6 (by decide) rfl hf (fun hf => ?_) (fun hf => ?_)
  · refine a_aload_n (pc' := 13) O dX10_first_12 rfl 0 rfl rfl ?_
    refine gfC_0_7 (pc' := 16) O dX10_first_13 rfl ?_
    refine a_iload_n (pc' := 17) O dX10_first_16 rfl 1 rfl rfl ?_
    obtain ⟨z3, h4, hf⟩ := bd_some hf
    refine a_callVI (pc' := 20) (n := 1) (As := [.int a0]) (st := []) (q0 := 14) O (ctX6_tried hE a0 σ z3 h4) wm_761 wm_762 wm_763 wm_39 wm_764 (by decide +kernel) (by decide) (gC_14 E _) hc_6 rfl rfl rfl (Nat.le_of_ble_eq_true rfl) dX10_first_17 rfl ?_
    exact a_iretP O hf dX10_first_20
  · refine a_bipush (pc' := 11) (v := (-2)) O dX10_first_9 (by decide) rfl ?_
    exact a_iretP O hf dX10_first_11
def rmX10_mean : Room := { frames := 2, cells := 0, slots := 0, locals := 56 }
def fX10_mean (a0 : Int32) (σ : St) : Option (Int64 × St) :=
  (fX10_within a0 0 1).bind (fun z1 => if z1 = 0 then (fX10_refusal (-2)).bind (fun z9 => some (z9, σ)) else ((fX6_meanSixteenths σ).bind (fun z3 => (fX2_set (z3.toInt64) 16 σ).bind (fun z5 => (fX2_term a0 z5).bind (fun z7 => some (z7, z5))))))
set_option maxRecDepth 100000 in
theorem ctX10_mean {E : ET} (hE : Dj (YC E)) (a0 : Int32) (σ : St) (z : Int64 × St) (hf : fX10_mean a0 σ = some z) : Ct (YC E) yX10_mean cX10_mean 2 (some .long) rmX10_mean [.ref (E.2.2.2.2 0), .int a0] σ (some (.long z.1)) z.2 := by
  refine Ct.of hE (by decide) (Nat.le_of_ble_eq_true rfl) (fun X O => ?_)
  have O : Ok (YC E) X cX10_mean 2 RX10 (some .long) rmX10_mean (some (.long z.1)) z.2 := O
  show At (YC E) X 2 0 [(0, .ref (E.2.2.2.2 0)), (1, .int a0)] [] σ
  unfold fX10_mean at hf
  refine a_iload_n (pc' := 1) O dX10_mean_0 rfl 1 rfl rfl ?_
  refine a_iconst (pc' := 2) (v := 0) O dX10_mean_1 (by decide) rfl ?_
  refine a_iconst (pc' := 3) (v := 1) O dX10_mean_2 (by decide) rfl ?_
  obtain ⟨z1, h2, hf⟩ := bd_some hf
  refine a_callSI (pc' := 6) (n := 3) (As := [.int a0, .int 0, .int 1]) (st := []) O (ctX10_within hE a0 0 1 σ z1 h2) wm_153 wm_154 wm_2 wm_155 (by decide +kernel) (by decide) rfl rfl (Nat.le_of_ble_eq_true rfl) dX10_mean_3 rfl ?_
  refine a_if_ne (pc' := 9) (tgt := 15) O dX10_mean_6 (by decide) rfl hf (fun hf => ?_) (fun hf => ?_)
  · refine a_aload_n (pc' := 16) O dX10_mean_15 rfl 0 rfl rfl ?_
    refine gfC_0_10 (pc' := 19) O dX10_mean_16 rfl ?_
    refine a_aload_n (pc' := 20) O dX10_mean_19 rfl 0 rfl rfl ?_
    refine gfC_0_7 (pc' := 23) O dX10_mean_20 rfl ?_
    obtain ⟨z3, h4, hf⟩ := bd_some hf
    refine a_callVI (pc' := 26) (n := 0) (As := []) (st := [.ref (E.2.2.2.2 27)]) (q0 := 14) O (ctX6_meanSixteenths hE σ z3 h4) wm_783 wm_784 wm_785 wm_39 wm_786 (by decide +kernel) (by decide) (gC_14 E _) hc_6 rfl rfl rfl (Nat.le_of_ble_eq_true rfl) dX10_mean_23 rfl ?_
    refine a_i2l (pc' := 27) O dX10_mean_26 rfl rfl ?_
    refine a_ldc2 (pc' := 30) (v := 16) O wm_782 dX10_mean_27 rfl ?_
    obtain ⟨z5, h6, hf⟩ := bd_some hf
    refine a_callVN (pc' := 33) (n := 2) (As := [.long (z3.toInt64), .long 16]) (st := []) (q0 := 27) O (ctX2_set hE (z3.toInt64) 16 σ z5 h6) wm_693 wm_404 wm_405 wm_51 wm_406 (by decide +kernel) (by decide) (gC_27 E _) hc_2 rfl rfl rfl (Nat.le_of_ble_eq_true rfl) dX10_mean_30 rfl ?_
    refine a_aload_n (pc' := 34) O dX10_mean_33 rfl 0 rfl rfl ?_
    refine gfC_0_10 (pc' := 37) O dX10_mean_34 rfl ?_
    refine a_iload_n (pc' := 38) O dX10_mean_37 rfl 1 rfl rfl ?_
    obtain ⟨z7, h8, hf⟩ := bd_some hf
    refine a_callVL (pc' := 41) (n := 1) (As := [.int a0]) (st := []) (q0 := 27) O (ctX2_term hE a0 z5 z7 h8) wm_410 wm_411 wm_412 wm_51 wm_413 (by decide +kernel) (by decide) (gC_27 E _) hc_2 rfl rfl rfl (Nat.le_of_ble_eq_true rfl) dX10_mean_38 rfl ?_
    exact a_lret O hf dX10_mean_41
  · refine a_bipush (pc' := 11) (v := (-2)) O dX10_mean_9 (by decide) rfl ?_
    obtain ⟨z9, h10, hf⟩ := bd_some hf
    refine a_callSL (pc' := 14) (n := 1) (As := [.int (-2)]) (st := []) O (ctX10_refusal hE (-2) σ z9 h10) wm_382 wm_383 wm_2 wm_384 (by decide +kernel) (by decide) rfl rfl (Nat.le_of_ble_eq_true rfl) dX10_mean_11 rfl ?_
    exact a_lret O hf dX10_mean_14
def rmX10_can : Room := { frames := 1, cells := 0, slots := 0, locals := 24 }
def BX10_can_45 (σ : St) (x1 : Int32) (x2 : Int32) (x3 : Int32) (x4 : Int32) (y0 : Int32) : Option (Int32 × St) :=
  if y0 = 0 then some ((-2), σ) else ((fX0_add x1 x2 x3 x4 σ).bind (fun z3 => if z3.1 = 0 then some ((-4), z3.2) else ((fX0_size z3.2).bind (fun z5 => some (z5, z3.2)))))
set_option maxRecDepth 100000 in
theorem okBX10_can_45 {E : ET} {X : XT} {z : Int32 × St} (O : Ok (YC E) X cX10_can 6 RX10 (some .int) rmX10_can (some (.int z.1)) z.2) (σ : St) (x1 : Int32) (x2 : Int32) (x3 : Int32) (x4 : Int32) (y0 : Int32) (hf : BX10_can_45 σ x1 x2 x3 x4 y0 = some z) : At (YC E) X 6 45 [(0, .ref (E.2.2.2.2 0)), (1, .int x1), (2, .int x2), (3, .int x3), (4, .int x4)] [.int y0] σ := by
  have hE := O.2.2.2.2.2.2.2.2.2.1
  unfold BX10_can_45 at hf
  refine a_istore (pc' := 47) (lv' := [(5, .int y0), (0, .ref (E.2.2.2.2 0)), (1, .int x1), (2, .int x2), (3, .int x3), (4, .int x4)]) O dX10_can_45 (by decide) rfl rfl ?_
  refine a_iload (pc' := 49) O dX10_can_47 0 rfl rfl ?_
  refine a_if_ne (pc' := 52) (tgt := 55) O dX10_can_49 (by decide) rfl hf (fun hf => ?_) (fun hf => ?_)
  · refine a_aload_n (pc' := 56) O dX10_can_55 rfl 1 rfl rfl ?_
    refine gfC_0_8 (pc' := 59) O dX10_can_56 rfl ?_
    refine a_iload_n (pc' := 60) O dX10_can_59 rfl 2 rfl rfl ?_
    refine a_iload_n (pc' := 61) O dX10_can_60 rfl 3 rfl rfl ?_
    refine a_iload_n (pc' := 62) O dX10_can_61 rfl 4 rfl rfl ?_
    refine a_iload (pc' := 64) O dX10_can_62 5 rfl rfl ?_
    obtain ⟨z3, h4, hf⟩ := bd_some hf
    refine a_callVI (pc' := 67) (n := 4) (As := [.int x1, .int x2, .int x3, .int x4]) (st := []) (q0 := 18) O (ctX0_add hE x1 x2 x3 x4 σ z3 h4) wm_799 wm_800 wm_801 wm_43 wm_802 (by decide +kernel) (by decide) (gC_18 E _) hc_0 rfl rfl rfl (Nat.le_of_ble_eq_true rfl) dX10_can_64 rfl ?_
    refine a_if_eq (pc' := 70) (tgt := 80) O dX10_can_67 (by decide) rfl hf (fun hf => ?_) (fun hf => ?_)
    · refine a_bipush (pc' := 82) (v := (-4)) O dX10_can_80 (by decide) rfl ?_
      exact a_iret O hf dX10_can_82
    · refine a_aload_n (pc' := 71) O dX10_can_70 rfl 1 rfl rfl ?_
      refine gfC_0_8 (pc' := 74) O dX10_can_71 rfl ?_
      obtain ⟨z5, h6, hf⟩ := bd_some hf
      refine a_callVI (pc' := 77) (n := 0) (As := []) (st := []) (q0 := 18) O (ctX0_size hE z3.2 z5 h6) wm_803 wm_804 wm_805 wm_43 wm_806 (by decide +kernel) (by decide) (gC_18 E _) hc_0 rfl rfl rfl (Nat.le_of_ble_eq_true rfl) dX10_can_74 rfl ?_
      refine a_goto (tgt := 82) O dX10_can_77 (by decide) ?_
      exact a_iret O hf dX10_can_82
  · refine a_bipush (pc' := 54) (v := (-2)) O dX10_can_52 (by decide) rfl ?_
    exact a_iret O hf dX10_can_54
def BX10_can_44 (σ : St) (x1 : Int32) (x2 : Int32) (x3 : Int32) (x4 : Int32) : Option (Int32 × St) :=
  BX10_can_45 σ x1 x2 x3 x4 0
set_option maxRecDepth 100000 in
theorem okBX10_can_44 {E : ET} {X : XT} {z : Int32 × St} (O : Ok (YC E) X cX10_can 6 RX10 (some .int) rmX10_can (some (.int z.1)) z.2) (σ : St) (x1 : Int32) (x2 : Int32) (x3 : Int32) (x4 : Int32) (hf : BX10_can_44 σ x1 x2 x3 x4 = some z) : At (YC E) X 6 44 [(0, .ref (E.2.2.2.2 0)), (1, .int x1), (2, .int x2), (3, .int x3), (4, .int x4)] [] σ := by
  have hE := O.2.2.2.2.2.2.2.2.2.1
  unfold BX10_can_44 at hf
  refine a_iconst (pc' := 45) (v := 0) O dX10_can_44 (by decide) rfl ?_
  exact a_sub [0, 1, 2, 3, 4] rfl (okBX10_can_45 O σ x1 x2 x3 x4 0 hf)
def fX10_can (a0 : Int32) (a1 : Int32) (a2 : Int32) (a3 : Int32) (σ : St) : Option (Int32 × St) :=
  (fX10_within a0 0 16).bind (fun z1 => if z1 = 0 then BX10_can_44 σ a0 a1 a2 a3 else ((fX10_within a1 0 3).bind (fun z7 => if z7 = 0 then BX10_can_44 σ a0 a1 a2 a3 else ((fX10_within a2 0 999).bind (fun z9 => if z9 = 0 then BX10_can_44 σ a0 a1 a2 a3 else ((fX10_within a3 0 1).bind (fun z11 => if z11 = 0 then BX10_can_44 σ a0 a1 a2 a3 else (BX10_can_45 σ a0 a1 a2 a3 1))))))))
set_option maxRecDepth 100000 in
theorem ctX10_can {E : ET} (hE : Dj (YC E)) (a0 : Int32) (a1 : Int32) (a2 : Int32) (a3 : Int32) (σ : St) (z : Int32 × St) (hf : fX10_can a0 a1 a2 a3 σ = some z) : Ct (YC E) yX10_can cX10_can 6 (some .int) rmX10_can [.ref (E.2.2.2.2 0), .int a0, .int a1, .int a2, .int a3] σ (some (.int z.1)) z.2 := by
  refine Ct.of hE (by decide) (Nat.le_of_ble_eq_true rfl) (fun X O => ?_)
  have O : Ok (YC E) X cX10_can 6 RX10 (some .int) rmX10_can (some (.int z.1)) z.2 := O
  show At (YC E) X 6 0 [(0, .ref (E.2.2.2.2 0)), (1, .int a0), (2, .int a1), (3, .int a2), (4, .int a3)] [] σ
  unfold fX10_can at hf
  refine a_iload_n (pc' := 1) O dX10_can_0 rfl 1 rfl rfl ?_
  refine a_iconst (pc' := 2) (v := 0) O dX10_can_1 (by decide) rfl ?_
  refine a_bipush (pc' := 4) (v := 16) O dX10_can_2 (by decide) rfl ?_
  obtain ⟨z1, h2, hf⟩ := bd_some hf
  refine a_callSI (pc' := 7) (n := 3) (As := [.int a0, .int 0, .int 16]) (st := []) O (ctX10_within hE a0 0 16 σ z1 h2) wm_153 wm_154 wm_2 wm_155 (by decide +kernel) (by decide) rfl rfl (Nat.le_of_ble_eq_true rfl) dX10_can_4 rfl ?_
  refine a_if_eq (pc' := 10) (tgt := 44) O dX10_can_7 (by decide) rfl hf (fun hf => ?_) (fun hf => ?_)
  · exact a_sub [0, 1, 2, 3, 4] rfl (okBX10_can_44 O σ a0 a1 a2 a3 hf)
  · refine a_iload_n (pc' := 11) O dX10_can_10 rfl 2 rfl rfl ?_
    refine a_iconst (pc' := 12) (v := 0) O dX10_can_11 (by decide) rfl ?_
    refine a_iconst (pc' := 13) (v := 3) O dX10_can_12 (by decide) rfl ?_
    obtain ⟨z7, h8, hf⟩ := bd_some hf
    refine a_callSI (pc' := 16) (n := 3) (As := [.int a1, .int 0, .int 3]) (st := []) O (ctX10_within hE a1 0 3 σ z7 h8) wm_153 wm_154 wm_2 wm_155 (by decide +kernel) (by decide) rfl rfl (Nat.le_of_ble_eq_true rfl) dX10_can_13 rfl ?_
    refine a_if_eq (pc' := 19) (tgt := 44) O dX10_can_16 (by decide) rfl hf (fun hf => ?_) (fun hf => ?_)
    · exact a_sub [0, 1, 2, 3, 4] rfl (okBX10_can_44 O σ a0 a1 a2 a3 hf)
    · refine a_iload_n (pc' := 20) O dX10_can_19 rfl 3 rfl rfl ?_
      refine a_iconst (pc' := 21) (v := 0) O dX10_can_20 (by decide) rfl ?_
      refine a_sipush (pc' := 24) (v := 999) O dX10_can_21 (by decide) rfl ?_
      obtain ⟨z9, h10, hf⟩ := bd_some hf
      refine a_callSI (pc' := 27) (n := 3) (As := [.int a2, .int 0, .int 999]) (st := []) O (ctX10_within hE a2 0 999 σ z9 h10) wm_153 wm_154 wm_2 wm_155 (by decide +kernel) (by decide) rfl rfl (Nat.le_of_ble_eq_true rfl) dX10_can_24 rfl ?_
      refine a_if_eq (pc' := 30) (tgt := 44) O dX10_can_27 (by decide) rfl hf (fun hf => ?_) (fun hf => ?_)
      · exact a_sub [0, 1, 2, 3, 4] rfl (okBX10_can_44 O σ a0 a1 a2 a3 hf)
      · refine a_iload (pc' := 32) O dX10_can_30 4 rfl rfl ?_
        refine a_iconst (pc' := 33) (v := 0) O dX10_can_32 (by decide) rfl ?_
        refine a_iconst (pc' := 34) (v := 1) O dX10_can_33 (by decide) rfl ?_
        obtain ⟨z11, h12, hf⟩ := bd_some hf
        refine a_callSI (pc' := 37) (n := 3) (As := [.int a3, .int 0, .int 1]) (st := []) O (ctX10_within hE a3 0 1 σ z11 h12) wm_153 wm_154 wm_2 wm_155 (by decide +kernel) (by decide) rfl rfl (Nat.le_of_ble_eq_true rfl) dX10_can_34 rfl ?_
        refine a_if_eq (pc' := 40) (tgt := 44) O dX10_can_37 (by decide) rfl hf (fun hf => ?_) (fun hf => ?_)
        · exact a_sub [0, 1, 2, 3, 4] rfl (okBX10_can_44 O σ a0 a1 a2 a3 hf)
        · refine a_iconst (pc' := 41) (v := 1) O dX10_can_40 (by decide) rfl ?_
          refine a_goto (tgt := 45) O dX10_can_41 (by decide) ?_
          exact a_sub [0, 1, 2, 3, 4] rfl (okBX10_can_45 O σ a0 a1 a2 a3 1 hf)
def rmX10_forget : Room := { frames := 1, cells := 0, slots := 0, locals := 20 }
def fX10_forget (σ : St) : Option (Int32 × St) :=
  (fX0_size σ).bind (fun z1 => (fX0_clear σ).bind (fun z3 => some (z1, z3)))
set_option maxRecDepth 100000 in
theorem ctX10_forget {E : ET} (hE : Dj (YC E)) (σ : St) (z : Int32 × St) (hf : fX10_forget σ = some z) : Ct (YC E) yX10_forget cX10_forget 2 (some .int) rmX10_forget [.ref (E.2.2.2.2 0)] σ (some (.int z.1)) z.2 := by
  refine Ct.of hE (by decide) (Nat.le_of_ble_eq_true rfl) (fun X O => ?_)
  have O : Ok (YC E) X cX10_forget 2 RX10 (some .int) rmX10_forget (some (.int z.1)) z.2 := O
  show At (YC E) X 2 0 [(0, .ref (E.2.2.2.2 0))] [] σ
  unfold fX10_forget at hf
  refine a_aload_n (pc' := 1) O dX10_forget_0 rfl 0 rfl rfl ?_
  refine gfC_0_8 (pc' := 4) O dX10_forget_1 rfl ?_
  obtain ⟨z1, h2, hf⟩ := bd_some hf
  refine a_callVI (pc' := 7) (n := 0) (As := []) (st := []) (q0 := 18) O (ctX0_size hE σ z1 h2) wm_803 wm_804 wm_805 wm_43 wm_806 (by decide +kernel) (by decide) (gC_18 E _) hc_0 rfl rfl rfl (Nat.le_of_ble_eq_true rfl) dX10_forget_4 rfl ?_
  refine a_istore_n (pc' := 8) (lv' := [(1, .int z1), (0, .ref (E.2.2.2.2 0))]) O dX10_forget_7 rfl (by decide) rfl rfl ?_
  refine a_aload_n (pc' := 9) O dX10_forget_8 rfl 1 rfl rfl ?_
  refine gfC_0_8 (pc' := 12) O dX10_forget_9 rfl ?_
  obtain ⟨z3, h4, hf⟩ := bd_some hf
  refine a_callVN (pc' := 15) (n := 0) (As := []) (st := []) (q0 := 18) O (ctX0_clear hE σ z3 h4) wm_816 wm_817 wm_818 wm_43 wm_819 (by decide +kernel) (by decide) (gC_18 E _) hc_0 rfl rfl rfl (Nat.le_of_ble_eq_true rfl) dX10_forget_12 rfl ?_
  refine a_iload_n (pc' := 16) O dX10_forget_15 rfl 0 rfl rfl ?_
  exact a_iret O hf dX10_forget_16
def rmX10_turned : Room := { frames := 4, cells := 0, slots := 0, locals := 94 }
def BX10_turned_4 (k4 : Int32 → Int32 → Option Int32) (σ : St) (x1 : Int32) (x2 : Int32) : Option Int32 :=
  (fX1_size σ).bind (fun z1 => if z1 < x2 then some x1 else ((fX0_allow x2 σ).bind (fun z3 => if z3 = 0 then bI (x2 + 1) (fun v5 => k4 x1 v5) else (bI (x1 ||| (1 <<< (x2 &&& 31))) (fun v6 => bI (x2 + 1) (fun v7 => k4 v6 v7))))))
set_option maxRecDepth 100000 in
theorem okBX10_turned_4 {E : ET} {X : XT} {z : Int32} {σ : St} (O : Ok (YC E) X cX10_turned 3 RX10 (some .int) rmX10_turned (some (.int z)) σ) (k4 : Int32 → Int32 → Option Int32) (hk4 : ∀ (x1 : Int32) (x2 : Int32), k4 x1 x2 = some z → At (YC E) X 3 4 [(0, .ref (E.2.2.2.2 0)), (1, .int x1), (2, .int x2)] [] σ) (x1 : Int32) (x2 : Int32) (hf : BX10_turned_4 k4 σ x1 x2 = some z) : At (YC E) X 3 4 [(0, .ref (E.2.2.2.2 0)), (1, .int x1), (2, .int x2)] [] σ := by
  have hE := O.2.2.2.2.2.2.2.2.2.1
  unfold BX10_turned_4 at hf
  refine a_iload_n (pc' := 5) O dX10_turned_4 rfl 2 rfl rfl ?_
  refine a_aload_n (pc' := 6) O dX10_turned_5 rfl 0 rfl rfl ?_
  refine gfC_0_2 (pc' := 9) O dX10_turned_6 rfl ?_
  obtain ⟨z1, h2, hf⟩ := bd_some hf
  refine a_callVI (pc' := 12) (n := 0) (As := []) (st := [.int x2]) (q0 := 5) O (ctX1_size hE σ z1 h2) wm_273 wm_274 wm_275 wm_19 wm_276 (by decide +kernel) (by decide) (gC_5 E _) hc_1 rfl rfl rfl (Nat.le_of_ble_eq_true rfl) dX10_turned_9 rfl ?_
  refine a_icmp_gt (pc' := 15) (tgt := 46) O dX10_turned_12 (by decide) rfl hf (fun hf => ?_) (fun hf => ?_)
  · refine a_iload_n (pc' := 47) O dX10_turned_46 rfl 1 rfl rfl ?_
    exact a_iretP O hf dX10_turned_47
  · refine a_aload_n (pc' := 16) O dX10_turned_15 rfl 0 rfl rfl ?_
    refine gfC_0_8 (pc' := 19) O dX10_turned_16 rfl ?_
    refine a_iload_n (pc' := 20) O dX10_turned_19 rfl 2 rfl rfl ?_
    refine a_aload_n (pc' := 21) O dX10_turned_20 rfl 0 rfl rfl ?_
    refine gfC_0_2 (pc' := 24) O dX10_turned_21 rfl ?_
    refine a_aload_n (pc' := 25) O dX10_turned_24 rfl 0 rfl rfl ?_
    refine gfC_0_4 (pc' := 28) O dX10_turned_25 rfl ?_
    obtain ⟨z3, h4, hf⟩ := bd_some hf
    refine a_callVI (pc' := 31) (n := 3) (As := [.int x2, .ref (E.2.2.2.2 5), .ref (E.2.2.2.2 8)]) (st := []) (q0 := 18) O (ctX0_allow hE x2 σ z3 h4) wm_828 wm_829 wm_830 wm_43 wm_831 (by decide +kernel) (by decide) (gC_18 E _) hc_0 rfl rfl rfl (Nat.le_of_ble_eq_true rfl) dX10_turned_28 rfl ?_
    refine a_if_eq (pc' := 34) (tgt := 40) O dX10_turned_31 (by decide) rfl hf (fun hf => ?_) (fun hf => ?_)
    · refine a_iincB (pc' := 43) (lv' := fun v5 => [(2, .int v5), (0, .ref (E.2.2.2.2 0)), (1, .int x1)]) (c0 := 1) O dX10_turned_40 2 rfl (by decide) (by decide) (fun _ => rfl) rfl hf (fun v5 hf => ?_)
      refine a_goto (tgt := 4) O dX10_turned_43 (by decide) ?_
      exact a_sub [1, 2, 0] rfl (hk4 x1 v5 hf)
    · refine a_iload_n (pc' := 35) O dX10_turned_34 rfl 1 rfl rfl ?_
      refine a_iconst (pc' := 36) (v := 1) O dX10_turned_35 (by decide) rfl ?_
      refine a_iload_n (pc' := 37) O dX10_turned_36 rfl 2 rfl rfl ?_
      refine a_ishl (pc' := 38) O dX10_turned_37 rfl ?_
      refine a_ior (pc' := 39) O dX10_turned_38 rfl ?_
      refine a_topi hf (fun v6 hf => ?_)
      refine a_istore_n (pc' := 40) (lv' := [(1, .int v6), (0, .ref (E.2.2.2.2 0)), (2, .int x2)]) O dX10_turned_39 rfl (by decide) rfl rfl ?_
      refine a_iincB (pc' := 43) (lv' := fun v7 => [(2, .int v7), (1, .int v6), (0, .ref (E.2.2.2.2 0))]) (c0 := 1) O dX10_turned_40 2 rfl (by decide) (by decide) (fun _ => rfl) rfl hf (fun v7 hf => ?_)
      refine a_goto (tgt := 4) O dX10_turned_43 (by decide) ?_
      exact a_sub [2, 1, 0] rfl (hk4 v6 v7 hf)
def LX10_turned_4 (σ : St) : Nat → Int32 → Int32 → Option Int32
  | 0, _, _ => none
  | n + 1, x1, x2 => BX10_turned_4 (LX10_turned_4 σ n) σ x1 x2
theorem okLX10_turned_4 {E : ET} {X : XT} {z : Int32} {σ : St} (O : Ok (YC E) X cX10_turned 3 RX10 (some .int) rmX10_turned (some (.int z)) σ) : ∀ (n : Nat) (x1 : Int32) (x2 : Int32), LX10_turned_4 σ n x1 x2 = some z → At (YC E) X 3 4 [(0, .ref (E.2.2.2.2 0)), (1, .int x1), (2, .int x2)] [] σ := by
  intro n
  induction n with
  | zero =>
    intro x1 x2 hf
    rw [LX10_turned_4] at hf
    cases hf
  | succ n ih =>
    intro x1 x2 hf
    rw [LX10_turned_4] at hf
    exact okBX10_turned_4 O (LX10_turned_4 σ n) ih x1 x2 hf
def fX10_turned (σ : St) : Option Int32 :=
  LX10_turned_4 σ fu 0 0
set_option maxRecDepth 100000 in
theorem ctX10_turned {E : ET} (hE : Dj (YC E)) (σ : St) (z : Int32) (hf : fX10_turned σ = some z) : Ct (YC E) yX10_turned cX10_turned 3 (some .int) rmX10_turned [.ref (E.2.2.2.2 0)] σ (some (.int z)) σ := by
  refine Ct.of hE (by decide) (Nat.le_of_ble_eq_true rfl) (fun X O => ?_)
  have O : Ok (YC E) X cX10_turned 3 RX10 (some .int) rmX10_turned (some (.int z)) σ := O
  show At (YC E) X 3 0 [(0, .ref (E.2.2.2.2 0))] [] σ
  unfold fX10_turned at hf
  refine a_iconst (pc' := 1) (v := 0) O dX10_turned_0 (by decide) rfl ?_
  refine a_istore_n (pc' := 2) (lv' := [(1, .int 0), (0, .ref (E.2.2.2.2 0))]) O dX10_turned_1 rfl (by decide) rfl rfl ?_
  refine a_iconst (pc' := 3) (v := 0) O dX10_turned_2 (by decide) rfl ?_
  refine a_istore_n (pc' := 4) (lv' := [(2, .int 0), (1, .int 0), (0, .ref (E.2.2.2.2 0))]) O dX10_turned_3 rfl (by decide) rfl rfl ?_
  exact a_sub [2, 1, 0] rfl (okLX10_turned_4 O fu 0 0 hf)
def rmX10_sheet : Room := { frames := 2, cells := 0, slots := 0, locals := 44 }
def fX10_sheet (a0 : Int32) (a1 : Int32) (a2 : Int32) (σ : St) : Option (Int32 × St) :=
  (fX5_exists a0).bind (fun z1 => if z1 = 0 then some ((-2), σ) else ((fX5_isForm a1).bind (fun z3 => if z3 = 0 then some ((-2), σ) else (if a2 ≤ 60 then if 0 ≤ a2 then (fX5_make a0 a1 a2 σ).bind (fun z5 => some (a2, z5)) else ((fX5_found 5 σ).bind (fun z7 => some (z7.1, z7.2))) else (some ((-2), σ))))))
set_option maxRecDepth 100000 in
theorem ctX10_sheet {E : ET} (hE : Dj (YC E)) (a0 : Int32) (a1 : Int32) (a2 : Int32) (σ : St) (z : Int32 × St) (hf : fX10_sheet a0 a1 a2 σ = some z) : Ct (YC E) yX10_sheet cX10_sheet 4 (some .int) rmX10_sheet [.ref (E.2.2.2.2 0), .int a0, .int a1, .int a2] σ (some (.int z.1)) z.2 := by
  refine Ct.of hE (by decide) (Nat.le_of_ble_eq_true rfl) (fun X O => ?_)
  have O : Ok (YC E) X cX10_sheet 4 RX10 (some .int) rmX10_sheet (some (.int z.1)) z.2 := O
  show At (YC E) X 4 0 [(0, .ref (E.2.2.2.2 0)), (1, .int a0), (2, .int a1), (3, .int a2)] [] σ
  unfold fX10_sheet at hf
  refine a_iload_n (pc' := 1) O dX10_sheet_0 rfl 1 rfl rfl ?_
  obtain ⟨z1, h2, hf⟩ := bd_some hf
  refine a_callSI (pc' := 4) (n := 1) (As := [.int a0]) (st := []) O (ctX5_exists hE a0 σ z1 h2) wm_335 wm_336 wm_47 wm_337 (by decide +kernel) (by decide) rfl rfl (Nat.le_of_ble_eq_true rfl) dX10_sheet_1 rfl ?_
  refine a_if_eq (pc' := 7) (tgt := 20) O dX10_sheet_4 (by decide) rfl hf (fun hf => ?_) (fun hf => ?_)
  · refine a_bipush (pc' := 22) (v := (-2)) O dX10_sheet_20 (by decide) rfl ?_
    exact a_iret O hf dX10_sheet_22
  · refine a_iload_n (pc' := 8) O dX10_sheet_7 rfl 2 rfl rfl ?_
    obtain ⟨z3, h4, hf⟩ := bd_some hf
    refine a_callSI (pc' := 11) (n := 1) (As := [.int a1]) (st := []) O (ctX5_isForm hE a1 σ z3 h4) wm_858 wm_859 wm_47 wm_860 (by decide +kernel) (by decide) rfl rfl (Nat.le_of_ble_eq_true rfl) dX10_sheet_8 rfl ?_
    refine a_if_eq (pc' := 14) (tgt := 20) O dX10_sheet_11 (by decide) rfl hf (fun hf => ?_) (fun hf => ?_)
    · refine a_bipush (pc' := 22) (v := (-2)) O dX10_sheet_20 (by decide) rfl ?_
      exact a_iret O hf dX10_sheet_22
    · refine a_iload_n (pc' := 15) O dX10_sheet_14 rfl 3 rfl rfl ?_
      refine a_bipush (pc' := 17) (v := 60) O dX10_sheet_15 (by decide) rfl ?_
      refine a_icmp_le (pc' := 20) (tgt := 23) O dX10_sheet_17 (by decide) rfl hf (fun hf => ?_) (fun hf => ?_)
      · refine a_iload_n (pc' := 24) O dX10_sheet_23 rfl 3 rfl rfl ?_
        refine a_if_ge (pc' := 27) (tgt := 36) O dX10_sheet_24 (by decide) rfl hf (fun hf => ?_) (fun hf => ?_)
        · refine a_aload_n (pc' := 37) O dX10_sheet_36 rfl 0 rfl rfl ?_
          refine gfC_0_9 (pc' := 40) O dX10_sheet_37 rfl ?_
          refine a_iload_n (pc' := 41) O dX10_sheet_40 rfl 1 rfl rfl ?_
          refine a_iload_n (pc' := 42) O dX10_sheet_41 rfl 2 rfl rfl ?_
          refine a_iload_n (pc' := 43) O dX10_sheet_42 rfl 3 rfl rfl ?_
          obtain ⟨z5, h6, hf⟩ := bd_some hf
          refine a_callVN (pc' := 46) (n := 3) (As := [.int a0, .int a1, .int a2]) (st := []) (q0 := 23) O (ctX5_make hE a0 a1 a2 σ z5 h6) wm_861 wm_862 wm_863 wm_47 wm_864 (by decide +kernel) (by decide) (gC_23 E _) hc_5 rfl rfl rfl (Nat.le_of_ble_eq_true rfl) dX10_sheet_43 rfl ?_
          refine a_iload_n (pc' := 47) O dX10_sheet_46 rfl 3 rfl rfl ?_
          exact a_iret O hf dX10_sheet_47
        · refine a_aload_n (pc' := 28) O dX10_sheet_27 rfl 0 rfl rfl ?_
          refine gfC_0_9 (pc' := 31) O dX10_sheet_28 rfl ?_
          refine a_iconst (pc' := 32) (v := 5) O dX10_sheet_31 (by decide) rfl ?_
          obtain ⟨z7, h8, hf⟩ := bd_some hf
          refine a_callVI (pc' := 35) (n := 1) (As := [.int 5]) (st := []) (q0 := 23) O (ctX5_found hE 5 σ z7 h8) wm_343 wm_344 wm_345 wm_47 wm_346 (by decide +kernel) (by decide) (gC_23 E _) hc_5 rfl rfl rfl (Nat.le_of_ble_eq_true rfl) dX10_sheet_32 rfl ?_
          exact a_iret O hf dX10_sheet_35
      · refine a_bipush (pc' := 22) (v := (-2)) O dX10_sheet_20 (by decide) rfl ?_
        exact a_iret O hf dX10_sheet_22
def rmX10_lose : Room := { frames := 3, cells := 0, slots := 0, locals := 62 }
def fX10_lose (a0 : Int32) (σ : St) : Option (Int32 × St) :=
  (fX5_exists a0).bind (fun z1 => if z1 = 0 then some ((-2), σ) else ((fX5_isLost a0 σ).bind (fun z3 => if z3 = 0 then (fX5_size a0 σ).bind (fun z5 => (fX5_drop a0 σ).bind (fun z7 => some (z5, z7))) else ((fX5_found 1 σ).bind (fun z9 => some (z9.1, z9.2))))))
set_option maxRecDepth 100000 in
theorem ctX10_lose {E : ET} (hE : Dj (YC E)) (a0 : Int32) (σ : St) (z : Int32 × St) (hf : fX10_lose a0 σ = some z) : Ct (YC E) yX10_lose cX10_lose 3 (some .int) rmX10_lose [.ref (E.2.2.2.2 0), .int a0] σ (some (.int z.1)) z.2 := by
  refine Ct.of hE (by decide) (Nat.le_of_ble_eq_true rfl) (fun X O => ?_)
  have O : Ok (YC E) X cX10_lose 3 RX10 (some .int) rmX10_lose (some (.int z.1)) z.2 := O
  show At (YC E) X 3 0 [(0, .ref (E.2.2.2.2 0)), (1, .int a0)] [] σ
  unfold fX10_lose at hf
  refine a_iload_n (pc' := 1) O dX10_lose_0 rfl 1 rfl rfl ?_
  obtain ⟨z1, h2, hf⟩ := bd_some hf
  refine a_callSI (pc' := 4) (n := 1) (As := [.int a0]) (st := []) O (ctX5_exists hE a0 σ z1 h2) wm_335 wm_336 wm_47 wm_337 (by decide +kernel) (by decide) rfl rfl (Nat.le_of_ble_eq_true rfl) dX10_lose_1 rfl ?_
  refine a_if_ne (pc' := 7) (tgt := 10) O dX10_lose_4 (by decide) rfl hf (fun hf => ?_) (fun hf => ?_)
  · refine a_aload_n (pc' := 11) O dX10_lose_10 rfl 0 rfl rfl ?_
    refine gfC_0_9 (pc' := 14) O dX10_lose_11 rfl ?_
    refine a_iload_n (pc' := 15) O dX10_lose_14 rfl 1 rfl rfl ?_
    obtain ⟨z3, h4, hf⟩ := bd_some hf
    refine a_callVI (pc' := 18) (n := 1) (As := [.int a0]) (st := []) (q0 := 23) O (ctX5_isLost hE a0 σ z3 h4) wm_338 wm_339 wm_340 wm_47 wm_341 (by decide +kernel) (by decide) (gC_23 E _) hc_5 rfl rfl rfl (Nat.le_of_ble_eq_true rfl) dX10_lose_15 rfl ?_
    refine a_if_eq (pc' := 21) (tgt := 30) O dX10_lose_18 (by decide) rfl hf (fun hf => ?_) (fun hf => ?_)
    · refine a_aload_n (pc' := 31) O dX10_lose_30 rfl 0 rfl rfl ?_
      refine gfC_0_9 (pc' := 34) O dX10_lose_31 rfl ?_
      refine a_iload_n (pc' := 35) O dX10_lose_34 rfl 1 rfl rfl ?_
      obtain ⟨z5, h6, hf⟩ := bd_some hf
      refine a_callVI (pc' := 38) (n := 1) (As := [.int a0]) (st := []) (q0 := 23) O (ctX5_size hE a0 σ z5 h6) wm_347 wm_348 wm_349 wm_47 wm_350 (by decide +kernel) (by decide) (gC_23 E _) hc_5 rfl rfl rfl (Nat.le_of_ble_eq_true rfl) dX10_lose_35 rfl ?_
      refine a_istore_n (pc' := 39) (lv' := [(2, .int z5), (0, .ref (E.2.2.2.2 0)), (1, .int a0)]) O dX10_lose_38 rfl (by decide) rfl rfl ?_
      refine a_aload_n (pc' := 40) O dX10_lose_39 rfl 1 rfl rfl ?_
      refine gfC_0_9 (pc' := 43) O dX10_lose_40 rfl ?_
      refine a_iload_n (pc' := 44) O dX10_lose_43 rfl 2 rfl rfl ?_
      obtain ⟨z7, h8, hf⟩ := bd_some hf
      refine a_callVN (pc' := 47) (n := 1) (As := [.int a0]) (st := []) (q0 := 23) O (ctX5_drop hE a0 σ z7 h8) wm_873 wm_874 wm_875 wm_47 wm_876 (by decide +kernel) (by decide) (gC_23 E _) hc_5 rfl rfl rfl (Nat.le_of_ble_eq_true rfl) dX10_lose_44 rfl ?_
      refine a_iload_n (pc' := 48) O dX10_lose_47 rfl 0 rfl rfl ?_
      exact a_iret O hf dX10_lose_48
    · refine a_aload_n (pc' := 22) O dX10_lose_21 rfl 0 rfl rfl ?_
      refine gfC_0_9 (pc' := 25) O dX10_lose_22 rfl ?_
      refine a_iconst (pc' := 26) (v := 1) O dX10_lose_25 (by decide) rfl ?_
      obtain ⟨z9, h10, hf⟩ := bd_some hf
      refine a_callVI (pc' := 29) (n := 1) (As := [.int 1]) (st := []) (q0 := 23) O (ctX5_found hE 1 σ z9 h10) wm_343 wm_344 wm_345 wm_47 wm_346 (by decide +kernel) (by decide) (gC_23 E _) hc_5 rfl rfl rfl (Nat.le_of_ble_eq_true rfl) dX10_lose_26 rfl ?_
      exact a_iret O hf dX10_lose_29
  · refine a_bipush (pc' := 9) (v := (-2)) O dX10_lose_7 (by decide) rfl ?_
    exact a_iret O hf dX10_lose_9
def rmX10_lay : Room := { frames := 5, cells := 0, slots := 0, locals := 108 }
def fX10_lay (a0 : Int32) (a1 : Int32) (a2 : Int32) (a3 : Int32) (σ : St) : Option (Int32 × St) :=
  (fX5_look a0 a1 a2 σ).bind (fun z1 => bI z1.1 (fun v3 => if v3 = 0 then (fX5_put a0 a2 a3 z1.2).bind (fun z4 => some (1, z4)) else (some (v3, z1.2))))
set_option maxRecDepth 100000 in
theorem ctX10_lay {E : ET} (hE : Dj (YC E)) (a0 : Int32) (a1 : Int32) (a2 : Int32) (a3 : Int32) (σ : St) (z : Int32 × St) (hf : fX10_lay a0 a1 a2 a3 σ = some z) : Ct (YC E) yX10_lay cX10_lay 6 (some .int) rmX10_lay [.ref (E.2.2.2.2 0), .int a0, .int a1, .int a2, .int a3] σ (some (.int z.1)) z.2 := by
  refine Ct.of hE (by decide) (Nat.le_of_ble_eq_true rfl) (fun X O => ?_)
  have O : Ok (YC E) X cX10_lay 6 RX10 (some .int) rmX10_lay (some (.int z.1)) z.2 := O
  show At (YC E) X 6 0 [(0, .ref (E.2.2.2.2 0)), (1, .int a0), (2, .int a1), (3, .int a2), (4, .int a3)] [] σ
  unfold fX10_lay at hf
  refine a_aload_n (pc' := 1) O dX10_lay_0 rfl 0 rfl rfl ?_
  refine gfC_0_9 (pc' := 4) O dX10_lay_1 rfl ?_
  refine a_iload_n (pc' := 5) O dX10_lay_4 rfl 1 rfl rfl ?_
  refine a_iload_n (pc' := 6) O dX10_lay_5 rfl 2 rfl rfl ?_
  refine a_iload_n (pc' := 7) O dX10_lay_6 rfl 3 rfl rfl ?_
  obtain ⟨z1, h2, hf⟩ := bd_some hf
  refine a_callVI (pc' := 10) (n := 3) (As := [.int a0, .int a1, .int a2]) (st := []) (q0 := 23) O (ctX5_look hE a0 a1 a2 σ z1 h2) wm_885 wm_886 wm_887 wm_47 wm_888 (by decide +kernel) (by decide) (gC_23 E _) hc_5 rfl rfl rfl (Nat.le_of_ble_eq_true rfl) dX10_lay_7 rfl ?_
  refine a_topi hf (fun v3 hf => ?_)
  refine a_istore (pc' := 12) (lv' := [(5, .int v3), (0, .ref (E.2.2.2.2 0)), (1, .int a0), (2, .int a1), (3, .int a2), (4, .int a3)]) O dX10_lay_10 (by decide) rfl rfl ?_
  refine a_iload (pc' := 14) O dX10_lay_12 0 rfl rfl ?_
  refine a_if_eq (pc' := 17) (tgt := 20) O dX10_lay_14 (by decide) rfl hf (fun hf => ?_) (fun hf => ?_)
  · refine a_aload_n (pc' := 21) O dX10_lay_20 rfl 1 rfl rfl ?_
    refine gfC_0_9 (pc' := 24) O dX10_lay_21 rfl ?_
    refine a_iload_n (pc' := 25) O dX10_lay_24 rfl 2 rfl rfl ?_
    refine a_iload_n (pc' := 26) O dX10_lay_25 rfl 4 rfl rfl ?_
    refine a_iload (pc' := 28) O dX10_lay_26 5 rfl rfl ?_
    obtain ⟨z4, h5, hf⟩ := bd_some hf
    refine a_callVN (pc' := 31) (n := 3) (As := [.int a0, .int a2, .int a3]) (st := []) (q0 := 23) O (ctX5_put hE a0 a2 a3 z1.2 z4 h5) wm_891 wm_892 wm_893 wm_47 wm_894 (by decide +kernel) (by decide) (gC_23 E _) hc_5 rfl rfl rfl (Nat.le_of_ble_eq_true rfl) dX10_lay_28 rfl ?_
    refine a_iconst (pc' := 32) (v := 1) O dX10_lay_31 (by decide) rfl ?_
    exact a_iret O hf dX10_lay_32
  · refine a_iload (pc' := 19) O dX10_lay_17 0 rfl rfl ?_
    exact a_iret O hf dX10_lay_19
def rmX10_get : Room := { frames := 5, cells := 0, slots := 0, locals := 108 }
def fX10_get (a0 : Int32) (a1 : Int32) (a2 : Int32) (σ : St) : Option (Int32 × St) :=
  (fX5_look a0 a1 a2 σ).bind (fun z1 => if z1.1 = 0 then (fX5_item a0 a2 z1.2).bind (fun z3 => some (z3, z1.2)) else (some ((-2147483648), z1.2)))
set_option maxRecDepth 100000 in
theorem ctX10_get {E : ET} (hE : Dj (YC E)) (a0 : Int32) (a1 : Int32) (a2 : Int32) (σ : St) (z : Int32 × St) (hf : fX10_get a0 a1 a2 σ = some z) : Ct (YC E) yX10_get cX10_get 4 (some .int) rmX10_get [.ref (E.2.2.2.2 0), .int a0, .int a1, .int a2] σ (some (.int z.1)) z.2 := by
  refine Ct.of hE (by decide) (Nat.le_of_ble_eq_true rfl) (fun X O => ?_)
  have O : Ok (YC E) X cX10_get 4 RX10 (some .int) rmX10_get (some (.int z.1)) z.2 := O
  show At (YC E) X 4 0 [(0, .ref (E.2.2.2.2 0)), (1, .int a0), (2, .int a1), (3, .int a2)] [] σ
  unfold fX10_get at hf
  refine a_aload_n (pc' := 1) O dX10_get_0 rfl 0 rfl rfl ?_
  refine gfC_0_9 (pc' := 4) O dX10_get_1 rfl ?_
  refine a_iload_n (pc' := 5) O dX10_get_4 rfl 1 rfl rfl ?_
  refine a_iload_n (pc' := 6) O dX10_get_5 rfl 2 rfl rfl ?_
  refine a_iload_n (pc' := 7) O dX10_get_6 rfl 3 rfl rfl ?_
  obtain ⟨z1, h2, hf⟩ := bd_some hf
  refine a_callVI (pc' := 10) (n := 3) (As := [.int a0, .int a1, .int a2]) (st := []) (q0 := 23) O (ctX5_look hE a0 a1 a2 σ z1 h2) wm_885 wm_886 wm_887 wm_47 wm_888 (by decide +kernel) (by decide) (gC_23 E _) hc_5 rfl rfl rfl (Nat.le_of_ble_eq_true rfl) dX10_get_7 rfl ?_
  refine a_if_eq (pc' := 13) (tgt := 19) O dX10_get_10 (by decide) rfl hf (fun hf => ?_) (fun hf => ?_)
  · refine a_aload_n (pc' := 20) O dX10_get_19 rfl 0 rfl rfl ?_
    refine gfC_0_9 (pc' := 23) O dX10_get_20 rfl ?_
    refine a_iload_n (pc' := 24) O dX10_get_23 rfl 1 rfl rfl ?_
    refine a_iload_n (pc' := 25) O dX10_get_24 rfl 3 rfl rfl ?_
    obtain ⟨z3, h4, hf⟩ := bd_some hf
    refine a_callVI (pc' := 28) (n := 2) (As := [.int a0, .int a2]) (st := []) (q0 := 23) O (ctX5_item hE a0 a2 z1.2 z3 h4) wm_352 wm_353 wm_354 wm_47 wm_355 (by decide +kernel) (by decide) (gC_23 E _) hc_5 rfl rfl rfl (Nat.le_of_ble_eq_true rfl) dX10_get_25 rfl ?_
    exact a_iret O hf dX10_get_28
  · refine a_ldcw (pc' := 16) (v := (-2147483648)) O wm_913 dX10_get_13 rfl ?_
    refine a_goto (tgt := 28) O dX10_get_16 (by decide) ?_
    exact a_iret O hf dX10_get_28
