def rmX11_in : Room := { frames := 0, cells := 0, slots := 0, locals := 0 }
def fX11_in (a0 : Int64) (a1 : Int64) (a2 : Int64) : Option Int32 :=
  if a0 < a1 then some 0 else (if a2 < a0 then some 0 else (some 1))
set_option maxRecDepth 100000 in
theorem ctX11_in {E : ET} (hE : Dj (YM E)) (a0 : Int64) (a1 : Int64) (a2 : Int64) (σ : St) (z : Int32) (hf : fX11_in a0 a1 a2 = some z) : Ct (YM E) yX11_in cX11_in 6 (some .boolean) rmX11_in [.long a0, .long a1, .long a2] σ (some (.int z)) σ := by
  refine Ct.of hE (by decide) (Nat.le_of_ble_eq_true rfl) (fun X O => ?_)
  have O : Ok (YM E) X cX11_in 6 RX11 (some .boolean) rmX11_in (some (.int z)) σ := O
  show At (YM E) X 6 0 [(0, .long a0), (2, .long a1), (4, .long a2)] [] σ
  unfold fX11_in at hf
  refine a_lload_n (pc' := 1) O dX11_in_0 rfl 0 rfl rfl ?_
  refine a_lload_n (pc' := 2) O dX11_in_1 rfl 1 rfl rfl ?_
  refine a_lcmp_lt (pc' := 6) (pc1 := 3) (tgt := 17) O dX11_in_2 rfl dX11_in_3 (by decide) rfl hf (fun hf => ?_) (fun hf => ?_)
  · refine a_iconst (pc' := 18) (v := 0) O dX11_in_17 (by decide) rfl ?_
    exact a_zretP (Or.inl rfl) O hf dX11_in_18
  · refine a_lload_n (pc' := 7) O dX11_in_6 rfl 0 rfl rfl ?_
    refine a_lload (pc' := 9) O dX11_in_7 2 rfl rfl ?_
    refine a_lcmp_gt (pc' := 13) (pc1 := 10) (tgt := 17) O dX11_in_9 rfl dX11_in_10 (by decide) rfl hf (fun hf => ?_) (fun hf => ?_)
    · refine a_iconst (pc' := 18) (v := 0) O dX11_in_17 (by decide) rfl ?_
      exact a_zretP (Or.inl rfl) O hf dX11_in_18
    · refine a_iconst (pc' := 14) (v := 1) O dX11_in_13 (by decide) rfl ?_
      refine a_goto (tgt := 18) O dX11_in_14 (by decide) ?_
      exact a_zretP (Or.inr rfl) O hf dX11_in_18
def rmX11_no : Room := { frames := 0, cells := 0, slots := 0, locals := 0 }
def fX11_no (a0 : Int32) : Option Int64 :=
  some ((-9223372036854775808) - (a0.toInt64))
set_option maxRecDepth 100000 in
theorem ctX11_no {E : ET} (hE : Dj (YM E)) (a0 : Int32) (σ : St) (z : Int64) (hf : fX11_no a0 = some z) : Ct (YM E) yX11_no cX11_no 1 (some .long) rmX11_no [.int a0] σ (some (.long z)) σ := by
  refine Ct.of hE (by decide) (Nat.le_of_ble_eq_true rfl) (fun X O => ?_)
  have O : Ok (YM E) X cX11_no 1 RX11 (some .long) rmX11_no (some (.long z)) σ := O
  show At (YM E) X 1 0 [(0, .int a0)] [] σ
  unfold fX11_no at hf
  refine a_ldc2 (pc' := 3) (v := (-9223372036854775808)) O wm_436 dX11_no_0 rfl ?_
  refine a_iload_n (pc' := 4) O dX11_no_3 rfl 0 rfl rfl ?_
  refine a_i2l (pc' := 5) O dX11_no_4 rfl rfl ?_
  refine a_lsub (pc' := 6) O dX11_no_5 rfl ?_
  exact a_lretP O hf dX11_no_6
def rmX11_isTwo : Room := { frames := 1, cells := 0, slots := 0, locals := 25 }
def fX11_isTwo (a0 : Int32) : Option Int32 :=
  (fX11_in (a0.toInt64) 0 1).bind (fun z1 => gB z1 (some z1))
set_option maxRecDepth 100000 in
theorem ctX11_isTwo {E : ET} (hE : Dj (YM E)) (a0 : Int32) (σ : St) (z : Int32) (hf : fX11_isTwo a0 = some z) : Ct (YM E) yX11_isTwo cX11_isTwo 1 (some .boolean) rmX11_isTwo [.int a0] σ (some (.int z)) σ := by
  refine Ct.of hE (by decide) (Nat.le_of_ble_eq_true rfl) (fun X O => ?_)
  have O : Ok (YM E) X cX11_isTwo 1 RX11 (some .boolean) rmX11_isTwo (some (.int z)) σ := O
  show At (YM E) X 1 0 [(0, .int a0)] [] σ
  unfold fX11_isTwo at hf
  refine a_iload_n (pc' := 1) O dX11_isTwo_0 rfl 0 rfl rfl ?_
  refine a_i2l (pc' := 2) O dX11_isTwo_1 rfl rfl ?_
  refine a_lconst (pc' := 3) (v := 0) O dX11_isTwo_2 (by decide) rfl ?_
  refine a_lconst (pc' := 4) (v := 1) O dX11_isTwo_3 (by decide) rfl ?_
  obtain ⟨z1, h2, hf⟩ := bd_some hf
  refine a_callSI (pc' := 7) (n := 3) (As := [.long (a0.toInt64), .long 0, .long 1]) (st := []) O (ctX11_in hE (a0.toInt64) 0 1 σ z1 h2) wm_201 wm_202 wm_5 wm_203 (by decide +kernel) (by decide) rfl rfl (Nat.le_of_ble_eq_true rfl) dX11_isTwo_4 rfl ?_
  obtain ⟨h3, hf⟩ := gB_some hf
  exact a_zretP h3 O hf dX11_isTwo_7
def rmX11_isIn : Room := { frames := 0, cells := 0, slots := 0, locals := 0 }
def fX11_isIn (a0 : Int32) (a1 : Int32) : Option Int32 :=
  if ((a0 >>> (a1 &&& 31)) &&& 1) = 1 then some 1 else (some 0)
set_option maxRecDepth 100000 in
theorem ctX11_isIn {E : ET} (hE : Dj (YM E)) (a0 : Int32) (a1 : Int32) (σ : St) (z : Int32) (hf : fX11_isIn a0 a1 = some z) : Ct (YM E) yX11_isIn cX11_isIn 2 (some .boolean) rmX11_isIn [.int a0, .int a1] σ (some (.int z)) σ := by
  refine Ct.of hE (by decide) (Nat.le_of_ble_eq_true rfl) (fun X O => ?_)
  have O : Ok (YM E) X cX11_isIn 2 RX11 (some .boolean) rmX11_isIn (some (.int z)) σ := O
  show At (YM E) X 2 0 [(0, .int a0), (1, .int a1)] [] σ
  unfold fX11_isIn at hf
  refine a_iload_n (pc' := 1) O dX11_isIn_0 rfl 0 rfl rfl ?_
  refine a_iload_n (pc' := 2) O dX11_isIn_1 rfl 1 rfl rfl ?_
  refine a_ishr (pc' := 3) O dX11_isIn_2 rfl ?_
  refine a_iconst (pc' := 4) (v := 1) O dX11_isIn_3 (by decide) rfl ?_
  refine a_iand (pc' := 5) O dX11_isIn_4 rfl ?_
  refine a_iconst (pc' := 6) (v := 1) O dX11_isIn_5 (by decide) rfl ?_
  refine a_icmp_ne (pc' := 9) (tgt := 13) O dX11_isIn_6 (by decide) rfl hf (fun hf => ?_) (fun hf => ?_)
  · refine a_iconst (pc' := 14) (v := 0) O dX11_isIn_13 (by decide) rfl ?_
    exact a_zretP (Or.inl rfl) O hf dX11_isIn_14
  · refine a_iconst (pc' := 10) (v := 1) O dX11_isIn_9 (by decide) rfl ?_
    refine a_goto (tgt := 14) O dX11_isIn_10 (by decide) ?_
    exact a_zretP (Or.inr rfl) O hf dX11_isIn_14
def rmX11_lesser : Room := { frames := 0, cells := 0, slots := 0, locals := 0 }
def fX11_lesser (a0 : Int32) (a1 : Int32) : Option Int32 :=
  if a1 ≤ a0 then some a1 else (some a0)
set_option maxRecDepth 100000 in
theorem ctX11_lesser {E : ET} (hE : Dj (YM E)) (a0 : Int32) (a1 : Int32) (σ : St) (z : Int32) (hf : fX11_lesser a0 a1 = some z) : Ct (YM E) yX11_lesser cX11_lesser 2 (some .int) rmX11_lesser [.int a0, .int a1] σ (some (.int z)) σ := by
  refine Ct.of hE (by decide) (Nat.le_of_ble_eq_true rfl) (fun X O => ?_)
  have O : Ok (YM E) X cX11_lesser 2 RX11 (some .int) rmX11_lesser (some (.int z)) σ := O
  show At (YM E) X 2 0 [(0, .int a0), (1, .int a1)] [] σ
  unfold fX11_lesser at hf
  refine a_iload_n (pc' := 1) O dX11_lesser_0 rfl 0 rfl rfl ?_
  refine a_iload_n (pc' := 2) O dX11_lesser_1 rfl 1 rfl rfl ?_
  refine a_icmp_ge (pc' := 5) (tgt := 9) O dX11_lesser_2 (by decide) rfl hf (fun hf => ?_) (fun hf => ?_)
  · refine a_iload_n (pc' := 10) O dX11_lesser_9 rfl 1 rfl rfl ?_
    exact a_iretP O hf dX11_lesser_10
  · refine a_iload_n (pc' := 6) O dX11_lesser_5 rfl 0 rfl rfl ?_
    refine a_goto (tgt := 10) O dX11_lesser_6 (by decide) ?_
    exact a_iretP O hf dX11_lesser_10
def rmX11_part : Room := { frames := 0, cells := 0, slots := 0, locals := 0 }
def BX11_part_31 (x0 : Int64) (x2 : Int64) (x4 : Int32) (x5 : Int64) : Option Int64 :=
  if x4 = 0 then gNl x5 (some (x0 / x5)) else (gNl x5 (some (x2 / x5)))
set_option maxRecDepth 100000 in
theorem okBX11_part_31 {E : ET} {X : XT} {z : Int64} {σ : St} (O : Ok (YM E) X cX11_part 11 RX11 (some .long) rmX11_part (some (.long z)) σ) (x0 : Int64) (x2 : Int64) (x4 : Int32) (x5 : Int64) (hf : BX11_part_31 x0 x2 x4 x5 = some z) : At (YM E) X 11 31 [(0, .long x0), (2, .long x2), (4, .int x4), (5, .long x5)] [] σ := by
  have hE := O.2.2.2.2.2.2.2.2.2.1
  unfold BX11_part_31 at hf
  refine a_iload (pc' := 33) O dX11_part_31 2 rfl rfl ?_
  refine a_if_ne (pc' := 36) (tgt := 40) O dX11_part_33 (by decide) rfl hf (fun hf => ?_) (fun hf => ?_)
  · refine a_lload_n (pc' := 41) O dX11_part_40 rfl 1 rfl rfl ?_
    refine a_lload (pc' := 43) O dX11_part_41 3 rfl rfl ?_
    obtain ⟨h1, hf⟩ := gNl_some hf
    refine a_ldiv (pc' := 44) O dX11_part_43 h1 rfl ?_
    exact a_lretP O hf dX11_part_44
  · refine a_lload_n (pc' := 37) O dX11_part_36 rfl 0 rfl rfl ?_
    refine a_goto (tgt := 41) O dX11_part_37 (by decide) ?_
    refine a_lload (pc' := 43) O dX11_part_41 3 rfl rfl ?_
    obtain ⟨h2, hf⟩ := gNl_some hf
    refine a_ldiv (pc' := 44) O dX11_part_43 h2 rfl ?_
    exact a_lretP O hf dX11_part_44
def BX11_part_6 (k6 : Int64 → Int64 → Int32 → Int64 → Int64 → Option Int64) (x0 : Int64) (x2 : Int64) (x4 : Int32) (x5 : Int64) (x7 : Int64) : Option Int64 :=
  if x7 = 0 then BX11_part_31 x0 x2 x4 x5 else (gNl x7 (bL (x5 - x5 / x7 * x7) (fun v4 => k6 x0 x2 x4 x7 v4)))
set_option maxRecDepth 100000 in
theorem okBX11_part_6 {E : ET} {X : XT} {z : Int64} {σ : St} (O : Ok (YM E) X cX11_part 11 RX11 (some .long) rmX11_part (some (.long z)) σ) (k6 : Int64 → Int64 → Int32 → Int64 → Int64 → Option Int64) (hk6 : ∀ (x0 : Int64) (x2 : Int64) (x4 : Int32) (x5 : Int64) (x7 : Int64), k6 x0 x2 x4 x5 x7 = some z → At (YM E) X 11 6 [(0, .long x0), (2, .long x2), (4, .int x4), (5, .long x5), (7, .long x7)] [] σ) (x0 : Int64) (x2 : Int64) (x4 : Int32) (x5 : Int64) (x7 : Int64) (hf : BX11_part_6 k6 x0 x2 x4 x5 x7 = some z) : At (YM E) X 11 6 [(0, .long x0), (2, .long x2), (4, .int x4), (5, .long x5), (7, .long x7)] [] σ := by
  have hE := O.2.2.2.2.2.2.2.2.2.1
  unfold BX11_part_6 at hf
  refine a_lload (pc' := 8) O dX11_part_6 4 rfl rfl ?_
  refine a_lconst (pc' := 9) (v := 0) O dX11_part_8 (by decide) rfl ?_
  refine a_lcmp_eq (pc' := 13) (pc1 := 10) (tgt := 31) O dX11_part_9 rfl dX11_part_10 (by decide) rfl hf (fun hf => ?_) (fun hf => ?_)
  · exact a_sub [0, 1, 2, 3] rfl (okBX11_part_31 O x0 x2 x4 x5 hf)
  · refine a_lload (pc' := 15) O dX11_part_13 3 rfl rfl ?_
    refine a_lload (pc' := 17) O dX11_part_15 4 rfl rfl ?_
    obtain ⟨h3, hf⟩ := gNl_some hf
    refine a_lrem (pc' := 18) O dX11_part_17 h3 rfl ?_
    refine a_topl hf (fun v4 hf => ?_)
    refine a_lstore (pc' := 20) (lv' := [(9, .long v4), (0, .long x0), (2, .long x2), (4, .int x4), (5, .long x5), (7, .long x7)]) O dX11_part_18 (by decide) rfl rfl ?_
    refine a_lload (pc' := 22) O dX11_part_20 5 rfl rfl ?_
    refine a_lstore (pc' := 24) (lv' := [(5, .long x7), (9, .long v4), (0, .long x0), (2, .long x2), (4, .int x4), (7, .long x7)]) O dX11_part_22 (by decide) rfl rfl ?_
    refine a_lload (pc' := 26) O dX11_part_24 1 rfl rfl ?_
    refine a_lstore (pc' := 28) (lv' := [(7, .long v4), (5, .long x7), (9, .long v4), (0, .long x0), (2, .long x2), (4, .int x4)]) O dX11_part_26 (by decide) rfl rfl ?_
    refine a_goto (tgt := 6) O dX11_part_28 (by decide) ?_
    exact a_sub [3, 4, 5, 1, 0] rfl (hk6 x0 x2 x4 x7 v4 hf)
def LX11_part_6 : Nat → Int64 → Int64 → Int32 → Int64 → Int64 → Option Int64
  | 0, _, _, _, _, _ => none
  | n + 1, x0, x2, x4, x5, x7 => BX11_part_6 (LX11_part_6 n) x0 x2 x4 x5 x7
theorem okLX11_part_6 {E : ET} {X : XT} {z : Int64} {σ : St} (O : Ok (YM E) X cX11_part 11 RX11 (some .long) rmX11_part (some (.long z)) σ) : ∀ (n : Nat) (x0 : Int64) (x2 : Int64) (x4 : Int32) (x5 : Int64) (x7 : Int64), LX11_part_6 n x0 x2 x4 x5 x7 = some z → At (YM E) X 11 6 [(0, .long x0), (2, .long x2), (4, .int x4), (5, .long x5), (7, .long x7)] [] σ := by
  intro n
  induction n with
  | zero =>
    intro x0 x2 x4 x5 x7 hf
    rw [LX11_part_6] at hf
    cases hf
  | succ n ih =>
    intro x0 x2 x4 x5 x7 hf
    rw [LX11_part_6] at hf
    exact okBX11_part_6 O (LX11_part_6 n) ih x0 x2 x4 x5 x7 hf
def fX11_part (a0 : Int64) (a1 : Int64) (a2 : Int32) : Option Int64 :=
  LX11_part_6 fu a0 a1 a2 a0 a1
set_option maxRecDepth 100000 in
theorem ctX11_part {E : ET} (hE : Dj (YM E)) (a0 : Int64) (a1 : Int64) (a2 : Int32) (σ : St) (z : Int64) (hf : fX11_part a0 a1 a2 = some z) : Ct (YM E) yX11_part cX11_part 11 (some .long) rmX11_part [.long a0, .long a1, .int a2] σ (some (.long z)) σ := by
  refine Ct.of hE (by decide) (Nat.le_of_ble_eq_true rfl) (fun X O => ?_)
  have O : Ok (YM E) X cX11_part 11 RX11 (some .long) rmX11_part (some (.long z)) σ := O
  show At (YM E) X 11 0 [(0, .long a0), (2, .long a1), (4, .int a2)] [] σ
  unfold fX11_part at hf
  refine a_lload_n (pc' := 1) O dX11_part_0 rfl 0 rfl rfl ?_
  refine a_lstore (pc' := 3) (lv' := [(5, .long a0), (0, .long a0), (2, .long a1), (4, .int a2)]) O dX11_part_1 (by decide) rfl rfl ?_
  refine a_lload_n (pc' := 4) O dX11_part_3 rfl 2 rfl rfl ?_
  refine a_lstore (pc' := 6) (lv' := [(7, .long a1), (5, .long a0), (0, .long a0), (2, .long a1), (4, .int a2)]) O dX11_part_4 (by decide) rfl rfl ?_
  exact a_sub [2, 3, 4, 1, 0] rfl (okLX11_part_6 O fu a0 a1 a2 a0 a1 hf)
def rmX11_met : Room := { frames := 0, cells := 0, slots := 0, locals := 0 }
def fX11_met (a0 : Int32) (σ : St) : Option (Int32 × St) :=
  bS (sI σ 4 a0) (fun σ1 => some (((-10) - a0), σ1))
set_option maxRecDepth 100000 in
theorem ctX11_met {E : ET} (hE : Dj (YM E)) (a0 : Int32) (σ : St) (z : Int32 × St) (hf : fX11_met a0 σ = some z) : Ct (YM E) yX11_met cX11_met 2 (some .int) rmX11_met [.ref (E.2.2.2.2 0), .int a0] σ (some (.int z.1)) z.2 := by
  refine Ct.of hE (by decide) (Nat.le_of_ble_eq_true rfl) (fun X O => ?_)
  have O : Ok (YM E) X cX11_met 2 RX11 (some .int) rmX11_met (some (.int z.1)) z.2 := O
  show At (YM E) X 2 0 [(0, .ref (E.2.2.2.2 0)), (1, .int a0)] [] σ
  unfold fX11_met at hf
  refine a_aload_n (pc' := 1) O dX11_met_0 rfl 0 rfl rfl ?_
  refine a_iload_n (pc' := 2) O dX11_met_1 rfl 1 rfl rfl ?_
  refine pfM_0_4 (pc' := 5) O hf dX11_met_2 rfl (fun σ1 hf => ?_)
  refine a_bipush (pc' := 7) (v := (-10)) O dX11_met_5 (by decide) rfl ?_
  refine a_iload_n (pc' := 8) O dX11_met_7 rfl 1 rfl rfl ?_
  refine a_isub (pc' := 9) O dX11_met_8 rfl ?_
  exact a_iret O hf dX11_met_9
def rmX11_isSheet : Room := { frames := 1, cells := 0, slots := 0, locals := 25 }
def fX11_isSheet (a0 : Int32) : Option Int32 :=
  (fX11_in (a0.toInt64) 0 3).bind (fun z1 => gB z1 (some z1))
set_option maxRecDepth 100000 in
theorem ctX11_isSheet {E : ET} (hE : Dj (YM E)) (a0 : Int32) (σ : St) (z : Int32) (hf : fX11_isSheet a0 = some z) : Ct (YM E) yX11_isSheet cX11_isSheet 1 (some .boolean) rmX11_isSheet [.int a0] σ (some (.int z)) σ := by
  refine Ct.of hE (by decide) (Nat.le_of_ble_eq_true rfl) (fun X O => ?_)
  have O : Ok (YM E) X cX11_isSheet 1 RX11 (some .boolean) rmX11_isSheet (some (.int z)) σ := O
  show At (YM E) X 1 0 [(0, .int a0)] [] σ
  unfold fX11_isSheet at hf
  refine a_iload_n (pc' := 1) O dX11_isSheet_0 rfl 0 rfl rfl ?_
  refine a_i2l (pc' := 2) O dX11_isSheet_1 rfl rfl ?_
  refine a_lconst (pc' := 3) (v := 0) O dX11_isSheet_2 (by decide) rfl ?_
  refine a_ldc2 (pc' := 6) (v := 3) O wm_285 dX11_isSheet_3 rfl ?_
  obtain ⟨z1, h2, hf⟩ := bd_some hf
  refine a_callSI (pc' := 9) (n := 3) (As := [.long (a0.toInt64), .long 0, .long 3]) (st := []) O (ctX11_in hE (a0.toInt64) 0 3 σ z1 h2) wm_201 wm_202 wm_5 wm_203 (by decide +kernel) (by decide) rfl rfl (Nat.le_of_ble_eq_true rfl) dX11_isSheet_6 rfl ?_
  obtain ⟨h3, hf⟩ := gB_some hf
  exact a_zretP h3 O hf dX11_isSheet_9
def rmX11_sheet : Room := { frames := 2, cells := 0, slots := 0, locals := 45 }
def BX11_sheet_55 (k55 : St → Int32 → Int32 → Int32 → Option (Int32 × St)) (σ : St) (x1 : Int32) (x3 : Int32) (x4 : Int32) : Option (Int32 × St) :=
  if x3 ≤ x4 then some (x3, σ) else (gIn ((60 * x1) + x4) 240 (bS (sA σ 3 ((60 * x1) + x4).toNatClampNeg 0) (fun σ7 => bI (x4 + 1) (fun v8 => k55 σ7 x1 x3 v8))))
set_option maxRecDepth 100000 in
theorem okBX11_sheet_55 {E : ET} {X : XT} {z : Int32 × St} (O : Ok (YM E) X cX11_sheet 5 RX11 (some .int) rmX11_sheet (some (.int z.1)) z.2) (k55 : St → Int32 → Int32 → Int32 → Option (Int32 × St)) (hk55 : ∀ (σ : St) (x1 : Int32) (x3 : Int32) (x4 : Int32), k55 σ x1 x3 x4 = some z → At (YM E) X 5 55 [(0, .ref (E.2.2.2.2 0)), (1, .int x1), (3, .int x3), (4, .int x4)] [] σ) (σ : St) (x1 : Int32) (x3 : Int32) (x4 : Int32) (hf : BX11_sheet_55 k55 σ x1 x3 x4 = some z) : At (YM E) X 5 55 [(0, .ref (E.2.2.2.2 0)), (1, .int x1), (3, .int x3), (4, .int x4)] [] σ := by
  have hE := O.2.2.2.2.2.2.2.2.2.1
  unfold BX11_sheet_55 at hf
  refine a_iload (pc' := 57) O dX11_sheet_55 3 rfl rfl ?_
  refine a_iload_n (pc' := 58) O dX11_sheet_57 rfl 2 rfl rfl ?_
  refine a_icmp_ge (pc' := 61) (tgt := 80) O dX11_sheet_58 (by decide) rfl hf (fun hf => ?_) (fun hf => ?_)
  · refine a_iload_n (pc' := 81) O dX11_sheet_80 rfl 2 rfl rfl ?_
    exact a_iret O hf dX11_sheet_81
  · refine a_aload_n (pc' := 62) O dX11_sheet_61 rfl 0 rfl rfl ?_
    refine gfM_0_2 (pc' := 65) O dX11_sheet_62 rfl ?_
    refine a_bipush (pc' := 67) (v := 60) O dX11_sheet_65 (by decide) rfl ?_
    refine a_iload_n (pc' := 68) O dX11_sheet_67 rfl 1 rfl rfl ?_
    refine a_imul (pc' := 69) O dX11_sheet_68 rfl ?_
    refine a_iload (pc' := 71) O dX11_sheet_69 3 rfl rfl ?_
    refine a_iadd (pc' := 72) O dX11_sheet_71 rfl ?_
    refine a_iconst (pc' := 73) (v := 0) O dX11_sheet_72 (by decide) rfl ?_
    refine saM_3 (pc' := 74) O hf dX11_sheet_73 rfl (fun σ7 hf => ?_)
    refine a_iincB (pc' := 77) (lv' := fun v8 => [(4, .int v8), (0, .ref (E.2.2.2.2 0)), (1, .int x1), (3, .int x3)]) (c0 := 1) O dX11_sheet_74 3 rfl (by decide) (by decide) (fun _ => rfl) rfl hf (fun v8 hf => ?_)
    refine a_goto (tgt := 55) O dX11_sheet_77 (by decide) ?_
    exact a_sub [1, 2, 3, 0] rfl (hk55 σ7 x1 x3 v8 hf)
def LX11_sheet_55 : Nat → St → Int32 → Int32 → Int32 → Option (Int32 × St)
  | 0, _, _, _, _ => none
  | n + 1, σ, x1, x3, x4 => BX11_sheet_55 (LX11_sheet_55 n) σ x1 x3 x4
theorem okLX11_sheet_55 {E : ET} {X : XT} {z : Int32 × St} (O : Ok (YM E) X cX11_sheet 5 RX11 (some .int) rmX11_sheet (some (.int z.1)) z.2) : ∀ (n : Nat) (σ : St) (x1 : Int32) (x3 : Int32) (x4 : Int32), LX11_sheet_55 n σ x1 x3 x4 = some z → At (YM E) X 5 55 [(0, .ref (E.2.2.2.2 0)), (1, .int x1), (3, .int x3), (4, .int x4)] [] σ := by
  intro n
  induction n with
  | zero =>
    intro σ x1 x3 x4 hf
    rw [LX11_sheet_55] at hf
    cases hf
  | succ n ih =>
    intro σ x1 x3 x4 hf
    rw [LX11_sheet_55] at hf
    exact okBX11_sheet_55 O (LX11_sheet_55 n) ih σ x1 x3 x4 hf
def fX11_sheet (a0 : Int32) (a1 : Int32) (a2 : Int32) (σ : St) : Option (Int32 × St) :=
  (fX11_isSheet a0).bind (fun z1 => if z1 = 0 then some ((-2), σ) else ((fX11_in (a1.toInt64) 0 2).bind (fun z3 => if z3 = 0 then some ((-2), σ) else (if a2 ≤ 60 then if 0 ≤ a2 then gIn a0 4 (bS (sA σ 1 a0.toNatClampNeg a1) (fun σ5 => gIn a0 4 (bS (sA σ5 2 a0.toNatClampNeg a2) (fun σ6 => LX11_sheet_55 fu σ6 a0 a2 0)))) else ((fX11_met 5 σ).bind (fun z9 => some (z9.1, z9.2))) else (some ((-2), σ))))))
set_option maxRecDepth 100000 in
theorem ctX11_sheet {E : ET} (hE : Dj (YM E)) (a0 : Int32) (a1 : Int32) (a2 : Int32) (σ : St) (z : Int32 × St) (hf : fX11_sheet a0 a1 a2 σ = some z) : Ct (YM E) yX11_sheet cX11_sheet 5 (some .int) rmX11_sheet [.ref (E.2.2.2.2 0), .int a0, .int a1, .int a2] σ (some (.int z.1)) z.2 := by
  refine Ct.of hE (by decide) (Nat.le_of_ble_eq_true rfl) (fun X O => ?_)
  have O : Ok (YM E) X cX11_sheet 5 RX11 (some .int) rmX11_sheet (some (.int z.1)) z.2 := O
  show At (YM E) X 5 0 [(0, .ref (E.2.2.2.2 0)), (1, .int a0), (2, .int a1), (3, .int a2)] [] σ
  unfold fX11_sheet at hf
  refine a_iload_n (pc' := 1) O dX11_sheet_0 rfl 1 rfl rfl ?_
  obtain ⟨z1, h2, hf⟩ := bd_some hf
  refine a_callSI (pc' := 4) (n := 1) (As := [.int a0]) (st := []) O (ctX11_isSheet hE a0 σ z1 h2) wm_365 wm_366 wm_5 wm_367 (by decide +kernel) (by decide) rfl rfl (Nat.le_of_ble_eq_true rfl) dX11_sheet_1 rfl ?_
  refine a_if_eq (pc' := 7) (tgt := 25) O dX11_sheet_4 (by decide) rfl hf (fun hf => ?_) (fun hf => ?_)
  · refine a_bipush (pc' := 27) (v := (-2)) O dX11_sheet_25 (by decide) rfl ?_
    exact a_iret O hf dX11_sheet_27
  · refine a_iload_n (pc' := 8) O dX11_sheet_7 rfl 2 rfl rfl ?_
    refine a_i2l (pc' := 9) O dX11_sheet_8 rfl rfl ?_
    refine a_lconst (pc' := 10) (v := 0) O dX11_sheet_9 (by decide) rfl ?_
    refine a_ldc2 (pc' := 13) (v := 2) O wm_487 dX11_sheet_10 rfl ?_
    obtain ⟨z3, h4, hf⟩ := bd_some hf
    refine a_callSI (pc' := 16) (n := 3) (As := [.long (a1.toInt64), .long 0, .long 2]) (st := []) O (ctX11_in hE (a1.toInt64) 0 2 σ z3 h4) wm_201 wm_202 wm_5 wm_203 (by decide +kernel) (by decide) rfl rfl (Nat.le_of_ble_eq_true rfl) dX11_sheet_13 rfl ?_
    refine a_if_eq (pc' := 19) (tgt := 25) O dX11_sheet_16 (by decide) rfl hf (fun hf => ?_) (fun hf => ?_)
    · refine a_bipush (pc' := 27) (v := (-2)) O dX11_sheet_25 (by decide) rfl ?_
      exact a_iret O hf dX11_sheet_27
    · refine a_iload_n (pc' := 20) O dX11_sheet_19 rfl 3 rfl rfl ?_
      refine a_bipush (pc' := 22) (v := 60) O dX11_sheet_20 (by decide) rfl ?_
      refine a_icmp_le (pc' := 25) (tgt := 28) O dX11_sheet_22 (by decide) rfl hf (fun hf => ?_) (fun hf => ?_)
      · refine a_iload_n (pc' := 29) O dX11_sheet_28 rfl 3 rfl rfl ?_
        refine a_if_ge (pc' := 32) (tgt := 38) O dX11_sheet_29 (by decide) rfl hf (fun hf => ?_) (fun hf => ?_)
        · refine a_aload_n (pc' := 39) O dX11_sheet_38 rfl 0 rfl rfl ?_
          refine gfM_0_0 (pc' := 42) O dX11_sheet_39 rfl ?_
          refine a_iload_n (pc' := 43) O dX11_sheet_42 rfl 1 rfl rfl ?_
          refine a_iload_n (pc' := 44) O dX11_sheet_43 rfl 2 rfl rfl ?_
          refine saM_1 (pc' := 45) O hf dX11_sheet_44 rfl (fun σ5 hf => ?_)
          refine a_aload_n (pc' := 46) O dX11_sheet_45 rfl 0 rfl rfl ?_
          refine gfM_0_1 (pc' := 49) O dX11_sheet_46 rfl ?_
          refine a_iload_n (pc' := 50) O dX11_sheet_49 rfl 1 rfl rfl ?_
          refine a_iload_n (pc' := 51) O dX11_sheet_50 rfl 3 rfl rfl ?_
          refine saM_2 (pc' := 52) O hf dX11_sheet_51 rfl (fun σ6 hf => ?_)
          refine a_iconst (pc' := 53) (v := 0) O dX11_sheet_52 (by decide) rfl ?_
          refine a_istore (pc' := 55) (lv' := [(4, .int 0), (0, .ref (E.2.2.2.2 0)), (1, .int a0), (2, .int a1), (3, .int a2)]) O dX11_sheet_53 (by decide) rfl rfl ?_
          exact a_sub [1, 2, 4, 0] rfl (okLX11_sheet_55 O fu σ6 a0 a2 0 hf)
        · refine a_aload_n (pc' := 33) O dX11_sheet_32 rfl 0 rfl rfl ?_
          refine a_iconst (pc' := 34) (v := 5) O dX11_sheet_33 (by decide) rfl ?_
          obtain ⟨z9, h10, hf⟩ := bd_some hf
          refine a_callVI (pc' := 37) (n := 1) (As := [.int 5]) (st := []) (q0 := 0) O (ctX11_met hE 5 σ z9 h10) wm_368 wm_369 wm_370 wm_5 wm_371 (by decide +kernel) (by decide) (gM_0 E _) hc_11 rfl rfl rfl (Nat.le_of_ble_eq_true rfl) dX11_sheet_34 rfl ?_
          exact a_iret O hf dX11_sheet_37
      · refine a_bipush (pc' := 27) (v := (-2)) O dX11_sheet_25 (by decide) rfl ?_
        exact a_iret O hf dX11_sheet_27
def rmX11_lose : Room := { frames := 2, cells := 0, slots := 0, locals := 45 }
def fX11_lose (a0 : Int32) (σ : St) : Option (Int32 × St) :=
  (fX11_isSheet a0).bind (fun z1 => if z1 = 0 then some ((-2), σ) else (gIn a0 4 (if 0 ≤ (σ.2.2 1 a0.toNatClampNeg) then gIn a0 4 (bS (sA σ 1 a0.toNatClampNeg (-1)) (fun σ3 => gIn a0 4 (some ((σ3.2.2 2 a0.toNatClampNeg), σ3)))) else ((fX11_met 1 σ).bind (fun z4 => some (z4.1, z4.2))))))
set_option maxRecDepth 100000 in
theorem ctX11_lose {E : ET} (hE : Dj (YM E)) (a0 : Int32) (σ : St) (z : Int32 × St) (hf : fX11_lose a0 σ = some z) : Ct (YM E) yX11_lose cX11_lose 2 (some .int) rmX11_lose [.ref (E.2.2.2.2 0), .int a0] σ (some (.int z.1)) z.2 := by
  refine Ct.of hE (by decide) (Nat.le_of_ble_eq_true rfl) (fun X O => ?_)
  have O : Ok (YM E) X cX11_lose 2 RX11 (some .int) rmX11_lose (some (.int z.1)) z.2 := O
  show At (YM E) X 2 0 [(0, .ref (E.2.2.2.2 0)), (1, .int a0)] [] σ
  unfold fX11_lose at hf
  refine a_iload_n (pc' := 1) O dX11_lose_0 rfl 1 rfl rfl ?_
  obtain ⟨z1, h2, hf⟩ := bd_some hf
  refine a_callSI (pc' := 4) (n := 1) (As := [.int a0]) (st := []) O (ctX11_isSheet hE a0 σ z1 h2) wm_365 wm_366 wm_5 wm_367 (by decide +kernel) (by decide) rfl rfl (Nat.le_of_ble_eq_true rfl) dX11_lose_1 rfl ?_
  refine a_if_ne (pc' := 7) (tgt := 10) O dX11_lose_4 (by decide) rfl hf (fun hf => ?_) (fun hf => ?_)
  · refine a_aload_n (pc' := 11) O dX11_lose_10 rfl 0 rfl rfl ?_
    refine gfM_0_0 (pc' := 14) O dX11_lose_11 rfl ?_
    refine a_iload_n (pc' := 15) O dX11_lose_14 rfl 1 rfl rfl ?_
    refine laM_1 (pc' := 16) O hf dX11_lose_15 rfl (fun hf => ?_)
    refine a_if_ge (pc' := 19) (tgt := 25) O dX11_lose_16 (by decide) rfl hf (fun hf => ?_) (fun hf => ?_)
    · refine a_aload_n (pc' := 26) O dX11_lose_25 rfl 0 rfl rfl ?_
      refine gfM_0_0 (pc' := 29) O dX11_lose_26 rfl ?_
      refine a_iload_n (pc' := 30) O dX11_lose_29 rfl 1 rfl rfl ?_
      refine a_iconst (pc' := 31) (v := (-1)) O dX11_lose_30 (by decide) rfl ?_
      refine saM_1 (pc' := 32) O hf dX11_lose_31 rfl (fun σ3 hf => ?_)
      refine a_aload_n (pc' := 33) O dX11_lose_32 rfl 0 rfl rfl ?_
      refine gfM_0_1 (pc' := 36) O dX11_lose_33 rfl ?_
      refine a_iload_n (pc' := 37) O dX11_lose_36 rfl 1 rfl rfl ?_
      refine laM_2 (pc' := 38) O hf dX11_lose_37 rfl (fun hf => ?_)
      exact a_iret O hf dX11_lose_38
    · refine a_aload_n (pc' := 20) O dX11_lose_19 rfl 0 rfl rfl ?_
      refine a_iconst (pc' := 21) (v := 1) O dX11_lose_20 (by decide) rfl ?_
      obtain ⟨z4, h5, hf⟩ := bd_some hf
      refine a_callVI (pc' := 24) (n := 1) (As := [.int 1]) (st := []) (q0 := 0) O (ctX11_met hE 1 σ z4 h5) wm_368 wm_369 wm_370 wm_5 wm_371 (by decide +kernel) (by decide) (gM_0 E _) hc_11 rfl rfl rfl (Nat.le_of_ble_eq_true rfl) dX11_lose_21 rfl ?_
      exact a_iret O hf dX11_lose_24
  · refine a_bipush (pc' := 9) (v := (-2)) O dX11_lose_7 (by decide) rfl ?_
    exact a_iret O hf dX11_lose_9
def rmX11_lacks : Room := { frames := 1, cells := 0, slots := 0, locals := 25 }
def fX11_lacks (a0 : Int32) (a1 : Int32) (a2 : Int32) (σ : St) : Option (Int32 × St) :=
  gIn a0 4 (if 0 ≤ (σ.2.2 1 a0.toNatClampNeg) then gIn a0 4 (if (σ.2.2 1 a0.toNatClampNeg) = a1 then gIn a0 4 ((fX11_in (a2.toInt64) 0 (((σ.2.2 2 a0.toNatClampNeg) - 1).toInt64)).bind (fun z1 => if z1 = 0 then (fX11_met 2 σ).bind (fun z3 => some (z3.1, z3.2)) else (some (0, σ)))) else ((fX11_met 3 σ).bind (fun z5 => some (z5.1, z5.2)))) else ((fX11_met 1 σ).bind (fun z7 => some (z7.1, z7.2))))
set_option maxRecDepth 100000 in
theorem ctX11_lacks {E : ET} (hE : Dj (YM E)) (a0 : Int32) (a1 : Int32) (a2 : Int32) (σ : St) (z : Int32 × St) (hf : fX11_lacks a0 a1 a2 σ = some z) : Ct (YM E) yX11_lacks cX11_lacks 4 (some .int) rmX11_lacks [.ref (E.2.2.2.2 0), .int a0, .int a1, .int a2] σ (some (.int z.1)) z.2 := by
  refine Ct.of hE (by decide) (Nat.le_of_ble_eq_true rfl) (fun X O => ?_)
  have O : Ok (YM E) X cX11_lacks 4 RX11 (some .int) rmX11_lacks (some (.int z.1)) z.2 := O
  show At (YM E) X 4 0 [(0, .ref (E.2.2.2.2 0)), (1, .int a0), (2, .int a1), (3, .int a2)] [] σ
  unfold fX11_lacks at hf
  refine a_aload_n (pc' := 1) O dX11_lacks_0 rfl 0 rfl rfl ?_
  refine gfM_0_0 (pc' := 4) O dX11_lacks_1 rfl ?_
  refine a_iload_n (pc' := 5) O dX11_lacks_4 rfl 1 rfl rfl ?_
  refine laM_1 (pc' := 6) O hf dX11_lacks_5 rfl (fun hf => ?_)
  refine a_if_ge (pc' := 9) (tgt := 15) O dX11_lacks_6 (by decide) rfl hf (fun hf => ?_) (fun hf => ?_)
  · refine a_aload_n (pc' := 16) O dX11_lacks_15 rfl 0 rfl rfl ?_
    refine gfM_0_0 (pc' := 19) O dX11_lacks_16 rfl ?_
    refine a_iload_n (pc' := 20) O dX11_lacks_19 rfl 1 rfl rfl ?_
    refine laM_1 (pc' := 21) O hf dX11_lacks_20 rfl (fun hf => ?_)
    refine a_iload_n (pc' := 22) O dX11_lacks_21 rfl 2 rfl rfl ?_
    refine a_icmp_eq (pc' := 25) (tgt := 31) O dX11_lacks_22 (by decide) rfl hf (fun hf => ?_) (fun hf => ?_)
    · refine a_iload_n (pc' := 32) O dX11_lacks_31 rfl 3 rfl rfl ?_
      refine a_i2l (pc' := 33) O dX11_lacks_32 rfl rfl ?_
      refine a_lconst (pc' := 34) (v := 0) O dX11_lacks_33 (by decide) rfl ?_
      refine a_aload_n (pc' := 35) O dX11_lacks_34 rfl 0 rfl rfl ?_
      refine gfM_0_1 (pc' := 38) O dX11_lacks_35 rfl ?_
      refine a_iload_n (pc' := 39) O dX11_lacks_38 rfl 1 rfl rfl ?_
      refine laM_2 (pc' := 40) O hf dX11_lacks_39 rfl (fun hf => ?_)
      refine a_iconst (pc' := 41) (v := 1) O dX11_lacks_40 (by decide) rfl ?_
      refine a_isub (pc' := 42) O dX11_lacks_41 rfl ?_
      refine a_i2l (pc' := 43) O dX11_lacks_42 rfl rfl ?_
      obtain ⟨z1, h2, hf⟩ := bd_some hf
      refine a_callSI (pc' := 46) (n := 3) (As := [.long (a2.toInt64), .long 0, .long (((σ.2.2 2 a0.toNatClampNeg) - 1).toInt64)]) (st := []) O (ctX11_in hE (a2.toInt64) 0 (((σ.2.2 2 a0.toNatClampNeg) - 1).toInt64) σ z1 h2) wm_201 wm_202 wm_5 wm_203 (by decide +kernel) (by decide) rfl rfl (Nat.le_of_ble_eq_true rfl) dX11_lacks_43 rfl ?_
      refine a_if_eq (pc' := 49) (tgt := 53) O dX11_lacks_46 (by decide) rfl hf (fun hf => ?_) (fun hf => ?_)
      · refine a_aload_n (pc' := 54) O dX11_lacks_53 rfl 0 rfl rfl ?_
        refine a_iconst (pc' := 55) (v := 2) O dX11_lacks_54 (by decide) rfl ?_
        obtain ⟨z3, h4, hf⟩ := bd_some hf
        refine a_callVI (pc' := 58) (n := 1) (As := [.int 2]) (st := []) (q0 := 0) O (ctX11_met hE 2 σ z3 h4) wm_368 wm_369 wm_370 wm_5 wm_371 (by decide +kernel) (by decide) (gM_0 E _) hc_11 rfl rfl rfl (Nat.le_of_ble_eq_true rfl) dX11_lacks_55 rfl ?_
        exact a_iret O hf dX11_lacks_58
      · refine a_iconst (pc' := 50) (v := 0) O dX11_lacks_49 (by decide) rfl ?_
        refine a_goto (tgt := 58) O dX11_lacks_50 (by decide) ?_
        exact a_iret O hf dX11_lacks_58
    · refine a_aload_n (pc' := 26) O dX11_lacks_25 rfl 0 rfl rfl ?_
      refine a_iconst (pc' := 27) (v := 3) O dX11_lacks_26 (by decide) rfl ?_
      obtain ⟨z5, h6, hf⟩ := bd_some hf
      refine a_callVI (pc' := 30) (n := 1) (As := [.int 3]) (st := []) (q0 := 0) O (ctX11_met hE 3 σ z5 h6) wm_368 wm_369 wm_370 wm_5 wm_371 (by decide +kernel) (by decide) (gM_0 E _) hc_11 rfl rfl rfl (Nat.le_of_ble_eq_true rfl) dX11_lacks_27 rfl ?_
      exact a_iret O hf dX11_lacks_30
  · refine a_aload_n (pc' := 10) O dX11_lacks_9 rfl 0 rfl rfl ?_
    refine a_iconst (pc' := 11) (v := 1) O dX11_lacks_10 (by decide) rfl ?_
    obtain ⟨z7, h8, hf⟩ := bd_some hf
    refine a_callVI (pc' := 14) (n := 1) (As := [.int 1]) (st := []) (q0 := 0) O (ctX11_met hE 1 σ z7 h8) wm_368 wm_369 wm_370 wm_5 wm_371 (by decide +kernel) (by decide) (gM_0 E _) hc_11 rfl rfl rfl (Nat.le_of_ble_eq_true rfl) dX11_lacks_11 rfl ?_
    exact a_iret O hf dX11_lacks_14
def rmX11_cut : Room := { frames := 0, cells := 0, slots := 0, locals := 0 }
def fX11_cut (a0 : Int32) (a1 : Int32) : Option Int32 :=
  if a0 = 0 then some (a1.toInt8.toInt32) else (if a0 = 1 then some (a1.toInt16.toInt32) else (some a1))
set_option maxRecDepth 100000 in
theorem ctX11_cut {E : ET} (hE : Dj (YM E)) (a0 : Int32) (a1 : Int32) (σ : St) (z : Int32) (hf : fX11_cut a0 a1 = some z) : Ct (YM E) yX11_cut cX11_cut 2 (some .int) rmX11_cut [.int a0, .int a1] σ (some (.int z)) σ := by
  refine Ct.of hE (by decide) (Nat.le_of_ble_eq_true rfl) (fun X O => ?_)
  have O : Ok (YM E) X cX11_cut 2 RX11 (some .int) rmX11_cut (some (.int z)) σ := O
  show At (YM E) X 2 0 [(0, .int a0), (1, .int a1)] [] σ
  unfold fX11_cut at hf
  refine a_iload_n (pc' := 1) O dX11_cut_0 rfl 0 rfl rfl ?_
  refine a_if_ne (pc' := 4) (tgt := 9) O dX11_cut_1 (by decide) rfl hf (fun hf => ?_) (fun hf => ?_)
  · refine a_iload_n (pc' := 10) O dX11_cut_9 rfl 0 rfl rfl ?_
    refine a_iconst (pc' := 11) (v := 1) O dX11_cut_10 (by decide) rfl ?_
    refine a_icmp_ne (pc' := 14) (tgt := 19) O dX11_cut_11 (by decide) rfl hf (fun hf => ?_) (fun hf => ?_)
    · refine a_iload_n (pc' := 20) O dX11_cut_19 rfl 1 rfl rfl ?_
      exact a_iretP O hf dX11_cut_20
    · refine a_iload_n (pc' := 15) O dX11_cut_14 rfl 1 rfl rfl ?_
      refine a_i2s (pc' := 16) O dX11_cut_15 rfl rfl ?_
      refine a_goto (tgt := 20) O dX11_cut_16 (by decide) ?_
      exact a_iretP O hf dX11_cut_20
  · refine a_iload_n (pc' := 5) O dX11_cut_4 rfl 1 rfl rfl ?_
    refine a_i2b (pc' := 6) O dX11_cut_5 rfl rfl ?_
    refine a_goto (tgt := 20) O dX11_cut_6 (by decide) ?_
    exact a_iretP O hf dX11_cut_20
def rmX11_lay : Room := { frames := 2, cells := 0, slots := 0, locals := 48 }
def fX11_lay (a0 : Int32) (a1 : Int32) (a2 : Int32) (a3 : Int32) (σ : St) : Option (Int32 × St) :=
  (fX11_isSheet a0).bind (fun z1 => if z1 = 0 then some ((-2), σ) else ((fX11_in (a1.toInt64) 0 2).bind (fun z3 => if z3 = 0 then some ((-2), σ) else ((fX11_lacks a0 a1 a2 σ).bind (fun z5 => bI z5.1 (fun v7 => if v7 = 0 then (fX11_cut a1 a3).bind (fun z8 => gIn ((60 * a0) + a2) 240 (bS (sA z5.2 3 ((60 * a0) + a2).toNatClampNeg z8) (fun σ10 => some (1, σ10)))) else (some (v7, z5.2))))))))
set_option maxRecDepth 100000 in
theorem ctX11_lay {E : ET} (hE : Dj (YM E)) (a0 : Int32) (a1 : Int32) (a2 : Int32) (a3 : Int32) (σ : St) (z : Int32 × St) (hf : fX11_lay a0 a1 a2 a3 σ = some z) : Ct (YM E) yX11_lay cX11_lay 6 (some .int) rmX11_lay [.ref (E.2.2.2.2 0), .int a0, .int a1, .int a2, .int a3] σ (some (.int z.1)) z.2 := by
  refine Ct.of hE (by decide) (Nat.le_of_ble_eq_true rfl) (fun X O => ?_)
  have O : Ok (YM E) X cX11_lay 6 RX11 (some .int) rmX11_lay (some (.int z.1)) z.2 := O
  show At (YM E) X 6 0 [(0, .ref (E.2.2.2.2 0)), (1, .int a0), (2, .int a1), (3, .int a2), (4, .int a3)] [] σ
  unfold fX11_lay at hf
  refine a_iload_n (pc' := 1) O dX11_lay_0 rfl 1 rfl rfl ?_
  obtain ⟨z1, h2, hf⟩ := bd_some hf
  refine a_callSI (pc' := 4) (n := 1) (As := [.int a0]) (st := []) O (ctX11_isSheet hE a0 σ z1 h2) wm_365 wm_366 wm_5 wm_367 (by decide +kernel) (by decide) rfl rfl (Nat.le_of_ble_eq_true rfl) dX11_lay_1 rfl ?_
  refine a_if_eq (pc' := 7) (tgt := 19) O dX11_lay_4 (by decide) rfl hf (fun hf => ?_) (fun hf => ?_)
  · refine a_bipush (pc' := 21) (v := (-2)) O dX11_lay_19 (by decide) rfl ?_
    exact a_iret O hf dX11_lay_21
  · refine a_iload_n (pc' := 8) O dX11_lay_7 rfl 2 rfl rfl ?_
    refine a_i2l (pc' := 9) O dX11_lay_8 rfl rfl ?_
    refine a_lconst (pc' := 10) (v := 0) O dX11_lay_9 (by decide) rfl ?_
    refine a_ldc2 (pc' := 13) (v := 2) O wm_487 dX11_lay_10 rfl ?_
    obtain ⟨z3, h4, hf⟩ := bd_some hf
    refine a_callSI (pc' := 16) (n := 3) (As := [.long (a1.toInt64), .long 0, .long 2]) (st := []) O (ctX11_in hE (a1.toInt64) 0 2 σ z3 h4) wm_201 wm_202 wm_5 wm_203 (by decide +kernel) (by decide) rfl rfl (Nat.le_of_ble_eq_true rfl) dX11_lay_13 rfl ?_
    refine a_if_ne (pc' := 19) (tgt := 22) O dX11_lay_16 (by decide) rfl hf (fun hf => ?_) (fun hf => ?_)
    · refine a_aload_n (pc' := 23) O dX11_lay_22 rfl 0 rfl rfl ?_
      refine a_iload_n (pc' := 24) O dX11_lay_23 rfl 1 rfl rfl ?_
      refine a_iload_n (pc' := 25) O dX11_lay_24 rfl 2 rfl rfl ?_
      refine a_iload_n (pc' := 26) O dX11_lay_25 rfl 3 rfl rfl ?_
      obtain ⟨z5, h6, hf⟩ := bd_some hf
      refine a_callVI (pc' := 29) (n := 3) (As := [.int a0, .int a1, .int a2]) (st := []) (q0 := 0) O (ctX11_lacks hE a0 a1 a2 σ z5 h6) wm_902 wm_903 wm_904 wm_5 wm_905 (by decide +kernel) (by decide) (gM_0 E _) hc_11 rfl rfl rfl (Nat.le_of_ble_eq_true rfl) dX11_lay_26 rfl ?_
      refine a_topi hf (fun v7 hf => ?_)
      refine a_istore (pc' := 31) (lv' := [(5, .int v7), (0, .ref (E.2.2.2.2 0)), (1, .int a0), (2, .int a1), (3, .int a2), (4, .int a3)]) O dX11_lay_29 (by decide) rfl rfl ?_
      refine a_iload (pc' := 33) O dX11_lay_31 0 rfl rfl ?_
      refine a_if_eq (pc' := 36) (tgt := 39) O dX11_lay_33 (by decide) rfl hf (fun hf => ?_) (fun hf => ?_)
      · refine a_aload_n (pc' := 40) O dX11_lay_39 rfl 1 rfl rfl ?_
        refine gfM_0_2 (pc' := 43) O dX11_lay_40 rfl ?_
        refine a_bipush (pc' := 45) (v := 60) O dX11_lay_43 (by decide) rfl ?_
        refine a_iload_n (pc' := 46) O dX11_lay_45 rfl 2 rfl rfl ?_
        refine a_imul (pc' := 47) O dX11_lay_46 rfl ?_
        refine a_iload_n (pc' := 48) O dX11_lay_47 rfl 4 rfl rfl ?_
        refine a_iadd (pc' := 49) O dX11_lay_48 rfl ?_
        refine a_iload_n (pc' := 50) O dX11_lay_49 rfl 3 rfl rfl ?_
        refine a_iload (pc' := 52) O dX11_lay_50 5 rfl rfl ?_
        obtain ⟨z8, h9, hf⟩ := bd_some hf
        refine a_callSI (pc' := 55) (n := 2) (As := [.int a1, .int a3]) (st := [.int ((60 * a0) + a2), .ref (E.2.2.2.2 3)]) O (ctX11_cut hE a1 a3 z5.2 z8 h9) wm_906 wm_907 wm_5 wm_908 (by decide +kernel) (by decide) rfl rfl (Nat.le_of_ble_eq_true rfl) dX11_lay_52 rfl ?_
        refine saM_3 (pc' := 56) O hf dX11_lay_55 rfl (fun σ10 hf => ?_)
        refine a_iconst (pc' := 57) (v := 1) O dX11_lay_56 (by decide) rfl ?_
        exact a_iret O hf dX11_lay_57
      · refine a_iload (pc' := 38) O dX11_lay_36 0 rfl rfl ?_
        exact a_iret O hf dX11_lay_38
    · refine a_bipush (pc' := 21) (v := (-2)) O dX11_lay_19 (by decide) rfl ?_
      exact a_iret O hf dX11_lay_21
def rmX11_get : Room := { frames := 2, cells := 0, slots := 0, locals := 48 }
def fX11_get (a0 : Int32) (a1 : Int32) (a2 : Int32) (σ : St) : Option (Int32 × St) :=
  (fX11_isSheet a0).bind (fun z1 => if z1 = 0 then some ((-2147483648), σ) else ((fX11_in (a1.toInt64) 0 2).bind (fun z3 => if z3 = 0 then some ((-2147483648), σ) else ((fX11_lacks a0 a1 a2 σ).bind (fun z5 => if z5.1 = 0 then gIn ((60 * a0) + a2) 240 (some ((z5.2.2.2 3 ((60 * a0) + a2).toNatClampNeg), z5.2)) else (some ((-2147483648), z5.2)))))))
set_option maxRecDepth 100000 in
theorem ctX11_get {E : ET} (hE : Dj (YM E)) (a0 : Int32) (a1 : Int32) (a2 : Int32) (σ : St) (z : Int32 × St) (hf : fX11_get a0 a1 a2 σ = some z) : Ct (YM E) yX11_get cX11_get 4 (some .int) rmX11_get [.ref (E.2.2.2.2 0), .int a0, .int a1, .int a2] σ (some (.int z.1)) z.2 := by
  refine Ct.of hE (by decide) (Nat.le_of_ble_eq_true rfl) (fun X O => ?_)
  have O : Ok (YM E) X cX11_get 4 RX11 (some .int) rmX11_get (some (.int z.1)) z.2 := O
  show At (YM E) X 4 0 [(0, .ref (E.2.2.2.2 0)), (1, .int a0), (2, .int a1), (3, .int a2)] [] σ
  unfold fX11_get at hf
  refine a_iload_n (pc' := 1) O dX11_get_0 rfl 1 rfl rfl ?_
  obtain ⟨z1, h2, hf⟩ := bd_some hf
  refine a_callSI (pc' := 4) (n := 1) (As := [.int a0]) (st := []) O (ctX11_isSheet hE a0 σ z1 h2) wm_365 wm_366 wm_5 wm_367 (by decide +kernel) (by decide) rfl rfl (Nat.le_of_ble_eq_true rfl) dX11_get_1 rfl ?_
  refine a_if_eq (pc' := 7) (tgt := 29) O dX11_get_4 (by decide) rfl hf (fun hf => ?_) (fun hf => ?_)
  · refine a_ldc (pc' := 31) (v := (-2147483648)) O wm_918 dX11_get_29 rfl ?_
    exact a_iret O hf dX11_get_31
  · refine a_iload_n (pc' := 8) O dX11_get_7 rfl 2 rfl rfl ?_
    refine a_i2l (pc' := 9) O dX11_get_8 rfl rfl ?_
    refine a_lconst (pc' := 10) (v := 0) O dX11_get_9 (by decide) rfl ?_
    refine a_ldc2 (pc' := 13) (v := 2) O wm_487 dX11_get_10 rfl ?_
    obtain ⟨z3, h4, hf⟩ := bd_some hf
    refine a_callSI (pc' := 16) (n := 3) (As := [.long (a1.toInt64), .long 0, .long 2]) (st := []) O (ctX11_in hE (a1.toInt64) 0 2 σ z3 h4) wm_201 wm_202 wm_5 wm_203 (by decide +kernel) (by decide) rfl rfl (Nat.le_of_ble_eq_true rfl) dX11_get_13 rfl ?_
    refine a_if_eq (pc' := 19) (tgt := 29) O dX11_get_16 (by decide) rfl hf (fun hf => ?_) (fun hf => ?_)
    · refine a_ldc (pc' := 31) (v := (-2147483648)) O wm_918 dX11_get_29 rfl ?_
      exact a_iret O hf dX11_get_31
    · refine a_aload_n (pc' := 20) O dX11_get_19 rfl 0 rfl rfl ?_
      refine a_iload_n (pc' := 21) O dX11_get_20 rfl 1 rfl rfl ?_
      refine a_iload_n (pc' := 22) O dX11_get_21 rfl 2 rfl rfl ?_
      refine a_iload_n (pc' := 23) O dX11_get_22 rfl 3 rfl rfl ?_
      obtain ⟨z5, h6, hf⟩ := bd_some hf
      refine a_callVI (pc' := 26) (n := 3) (As := [.int a0, .int a1, .int a2]) (st := []) (q0 := 0) O (ctX11_lacks hE a0 a1 a2 σ z5 h6) wm_902 wm_903 wm_904 wm_5 wm_905 (by decide +kernel) (by decide) (gM_0 E _) hc_11 rfl rfl rfl (Nat.le_of_ble_eq_true rfl) dX11_get_23 rfl ?_
      refine a_if_eq (pc' := 29) (tgt := 32) O dX11_get_26 (by decide) rfl hf (fun hf => ?_) (fun hf => ?_)
      · refine a_aload_n (pc' := 33) O dX11_get_32 rfl 0 rfl rfl ?_
        refine gfM_0_2 (pc' := 36) O dX11_get_33 rfl ?_
        refine a_bipush (pc' := 38) (v := 60) O dX11_get_36 (by decide) rfl ?_
        refine a_iload_n (pc' := 39) O dX11_get_38 rfl 1 rfl rfl ?_
        refine a_imul (pc' := 40) O dX11_get_39 rfl ?_
        refine a_iload_n (pc' := 41) O dX11_get_40 rfl 3 rfl rfl ?_
        refine a_iadd (pc' := 42) O dX11_get_41 rfl ?_
        refine laM_3 (pc' := 43) O hf dX11_get_42 rfl (fun hf => ?_)
        exact a_iret O hf dX11_get_43
      · refine a_ldc (pc' := 31) (v := (-2147483648)) O wm_918 dX11_get_29 rfl ?_
        exact a_iret O hf dX11_get_31
def rmX11_copy : Room := { frames := 2, cells := 0, slots := 0, locals := 45 }
def BX11_copy_157 (k157 : St → Int32 → Int32 → Int32 → Int32 → Option (Int32 × St)) (σ : St) (x3 : Int32) (x4 : Int32) (x5 : Int32) (x6 : Int32) : Option (Int32 × St) :=
  if x5 ≤ x6 then some (1, σ) else (gIn x6 60 (gIn (((60 * x3) + x4) + x6) 240 (bS (sA σ 3 (((60 * x3) + x4) + x6).toNatClampNeg (σ.2.2 4 x6.toNatClampNeg)) (fun σ15 => bI (x6 + 1) (fun v16 => k157 σ15 x3 x4 x5 v16)))))
set_option maxRecDepth 100000 in
theorem okBX11_copy_157 {E : ET} {X : XT} {z : Int32 × St} (O : Ok (YM E) X cX11_copy 7 RX11 (some .int) rmX11_copy (some (.int z.1)) z.2) (k157 : St → Int32 → Int32 → Int32 → Int32 → Option (Int32 × St)) (hk157 : ∀ (σ : St) (x3 : Int32) (x4 : Int32) (x5 : Int32) (x6 : Int32), k157 σ x3 x4 x5 x6 = some z → At (YM E) X 7 157 [(0, .ref (E.2.2.2.2 0)), (3, .int x3), (4, .int x4), (5, .int x5), (6, .int x6)] [] σ) (σ : St) (x3 : Int32) (x4 : Int32) (x5 : Int32) (x6 : Int32) (hf : BX11_copy_157 k157 σ x3 x4 x5 x6 = some z) : At (YM E) X 7 157 [(0, .ref (E.2.2.2.2 0)), (3, .int x3), (4, .int x4), (5, .int x5), (6, .int x6)] [] σ := by
  have hE := O.2.2.2.2.2.2.2.2.2.1
  unfold BX11_copy_157 at hf
  refine a_iload (pc' := 159) O dX11_copy_157 4 rfl rfl ?_
  refine a_iload (pc' := 161) O dX11_copy_159 3 rfl rfl ?_
  refine a_icmp_ge (pc' := 164) (tgt := 192) O dX11_copy_161 (by decide) rfl hf (fun hf => ?_) (fun hf => ?_)
  · refine a_iconst (pc' := 193) (v := 1) O dX11_copy_192 (by decide) rfl ?_
    exact a_iret O hf dX11_copy_193
  · refine a_aload_n (pc' := 165) O dX11_copy_164 rfl 0 rfl rfl ?_
    refine gfM_0_2 (pc' := 168) O dX11_copy_165 rfl ?_
    refine a_bipush (pc' := 170) (v := 60) O dX11_copy_168 (by decide) rfl ?_
    refine a_iload_n (pc' := 171) O dX11_copy_170 rfl 1 rfl rfl ?_
    refine a_imul (pc' := 172) O dX11_copy_171 rfl ?_
    refine a_iload (pc' := 174) O dX11_copy_172 2 rfl rfl ?_
    refine a_iadd (pc' := 175) O dX11_copy_174 rfl ?_
    refine a_iload (pc' := 177) O dX11_copy_175 4 rfl rfl ?_
    refine a_iadd (pc' := 178) O dX11_copy_177 rfl ?_
    refine a_aload_n (pc' := 179) O dX11_copy_178 rfl 0 rfl rfl ?_
    refine gfM_0_3 (pc' := 182) O dX11_copy_179 rfl ?_
    refine a_iload (pc' := 184) O dX11_copy_182 4 rfl rfl ?_
    refine laM_4 (pc' := 185) O hf dX11_copy_184 rfl (fun hf => ?_)
    refine saM_3 (pc' := 186) O hf dX11_copy_185 rfl (fun σ15 hf => ?_)
    refine a_iincB (pc' := 189) (lv' := fun v16 => [(6, .int v16), (0, .ref (E.2.2.2.2 0)), (3, .int x3), (4, .int x4), (5, .int x5)]) (c0 := 1) O dX11_copy_186 4 rfl (by decide) (by decide) (fun _ => rfl) rfl hf (fun v16 hf => ?_)
    refine a_goto (tgt := 157) O dX11_copy_189 (by decide) ?_
    exact a_sub [1, 2, 3, 4, 0] rfl (hk157 σ15 x3 x4 x5 v16 hf)
def LX11_copy_157 : Nat → St → Int32 → Int32 → Int32 → Int32 → Option (Int32 × St)
  | 0, _, _, _, _, _ => none
  | n + 1, σ, x3, x4, x5, x6 => BX11_copy_157 (LX11_copy_157 n) σ x3 x4 x5 x6
theorem okLX11_copy_157 {E : ET} {X : XT} {z : Int32 × St} (O : Ok (YM E) X cX11_copy 7 RX11 (some .int) rmX11_copy (some (.int z.1)) z.2) : ∀ (n : Nat) (σ : St) (x3 : Int32) (x4 : Int32) (x5 : Int32) (x6 : Int32), LX11_copy_157 n σ x3 x4 x5 x6 = some z → At (YM E) X 7 157 [(0, .ref (E.2.2.2.2 0)), (3, .int x3), (4, .int x4), (5, .int x5), (6, .int x6)] [] σ := by
  intro n
  induction n with
  | zero =>
    intro σ x3 x4 x5 x6 hf
    rw [LX11_copy_157] at hf
    cases hf
  | succ n ih =>
    intro σ x3 x4 x5 x6 hf
    rw [LX11_copy_157] at hf
    exact okBX11_copy_157 O (LX11_copy_157 n) ih σ x3 x4 x5 x6 hf
def BX11_copy_120 (k120 : St → Int32 → Int32 → Int32 → Int32 → Int32 → Int32 → Option (Int32 × St)) (σ : St) (x1 : Int32) (x2 : Int32) (x3 : Int32) (x4 : Int32) (x5 : Int32) (x6 : Int32) : Option (Int32 × St) :=
  if x5 ≤ x6 then LX11_copy_157 fu σ x3 x4 x5 0 else (gIn (((60 * x1) + x2) + x6) 240 (gIn x6 60 (bS (sA σ 4 x6.toNatClampNeg (σ.2.2 3 (((60 * x1) + x2) + x6).toNatClampNeg)) (fun σ17 => bI (x6 + 1) (fun v18 => k120 σ17 x1 x2 x3 x4 x5 v18)))))
set_option maxRecDepth 100000 in
theorem okBX11_copy_120 {E : ET} {X : XT} {z : Int32 × St} (O : Ok (YM E) X cX11_copy 7 RX11 (some .int) rmX11_copy (some (.int z.1)) z.2) (k120 : St → Int32 → Int32 → Int32 → Int32 → Int32 → Int32 → Option (Int32 × St)) (hk120 : ∀ (σ : St) (x1 : Int32) (x2 : Int32) (x3 : Int32) (x4 : Int32) (x5 : Int32) (x6 : Int32), k120 σ x1 x2 x3 x4 x5 x6 = some z → At (YM E) X 7 120 [(0, .ref (E.2.2.2.2 0)), (1, .int x1), (2, .int x2), (3, .int x3), (4, .int x4), (5, .int x5), (6, .int x6)] [] σ) (σ : St) (x1 : Int32) (x2 : Int32) (x3 : Int32) (x4 : Int32) (x5 : Int32) (x6 : Int32) (hf : BX11_copy_120 k120 σ x1 x2 x3 x4 x5 x6 = some z) : At (YM E) X 7 120 [(0, .ref (E.2.2.2.2 0)), (1, .int x1), (2, .int x2), (3, .int x3), (4, .int x4), (5, .int x5), (6, .int x6)] [] σ := by
  have hE := O.2.2.2.2.2.2.2.2.2.1
  unfold BX11_copy_120 at hf
  refine a_iload (pc' := 122) O dX11_copy_120 6 rfl rfl ?_
  refine a_iload (pc' := 124) O dX11_copy_122 5 rfl rfl ?_
  refine a_icmp_ge (pc' := 127) (tgt := 154) O dX11_copy_124 (by decide) rfl hf (fun hf => ?_) (fun hf => ?_)
  · refine a_iconst (pc' := 155) (v := 0) O dX11_copy_154 (by decide) rfl ?_
    refine a_istore (pc' := 157) (lv' := [(6, .int 0), (0, .ref (E.2.2.2.2 0)), (1, .int x1), (2, .int x2), (3, .int x3), (4, .int x4), (5, .int x5)]) O dX11_copy_155 (by decide) rfl rfl ?_
    exact a_sub [1, 4, 5, 6, 0] rfl (okLX11_copy_157 O fu σ x3 x4 x5 0 hf)
  · refine a_aload_n (pc' := 128) O dX11_copy_127 rfl 0 rfl rfl ?_
    refine gfM_0_3 (pc' := 131) O dX11_copy_128 rfl ?_
    refine a_iload (pc' := 133) O dX11_copy_131 6 rfl rfl ?_
    refine a_aload_n (pc' := 134) O dX11_copy_133 rfl 0 rfl rfl ?_
    refine gfM_0_2 (pc' := 137) O dX11_copy_134 rfl ?_
    refine a_bipush (pc' := 139) (v := 60) O dX11_copy_137 (by decide) rfl ?_
    refine a_iload_n (pc' := 140) O dX11_copy_139 rfl 1 rfl rfl ?_
    refine a_imul (pc' := 141) O dX11_copy_140 rfl ?_
    refine a_iload_n (pc' := 142) O dX11_copy_141 rfl 2 rfl rfl ?_
    refine a_iadd (pc' := 143) O dX11_copy_142 rfl ?_
    refine a_iload (pc' := 145) O dX11_copy_143 6 rfl rfl ?_
    refine a_iadd (pc' := 146) O dX11_copy_145 rfl ?_
    refine laM_3 (pc' := 147) O hf dX11_copy_146 rfl (fun hf => ?_)
    refine saM_4 (pc' := 148) O hf dX11_copy_147 rfl (fun σ17 hf => ?_)
    refine a_iincB (pc' := 151) (lv' := fun v18 => [(6, .int v18), (0, .ref (E.2.2.2.2 0)), (1, .int x1), (2, .int x2), (3, .int x3), (4, .int x4), (5, .int x5)]) (c0 := 1) O dX11_copy_148 6 rfl (by decide) (by decide) (fun _ => rfl) rfl hf (fun v18 hf => ?_)
    refine a_goto (tgt := 120) O dX11_copy_151 (by decide) ?_
    exact a_sub [1, 2, 3, 4, 5, 6, 0] rfl (hk120 σ17 x1 x2 x3 x4 x5 v18 hf)
def LX11_copy_120 : Nat → St → Int32 → Int32 → Int32 → Int32 → Int32 → Int32 → Option (Int32 × St)
  | 0, _, _, _, _, _, _, _ => none
  | n + 1, σ, x1, x2, x3, x4, x5, x6 => BX11_copy_120 (LX11_copy_120 n) σ x1 x2 x3 x4 x5 x6
theorem okLX11_copy_120 {E : ET} {X : XT} {z : Int32 × St} (O : Ok (YM E) X cX11_copy 7 RX11 (some .int) rmX11_copy (some (.int z.1)) z.2) : ∀ (n : Nat) (σ : St) (x1 : Int32) (x2 : Int32) (x3 : Int32) (x4 : Int32) (x5 : Int32) (x6 : Int32), LX11_copy_120 n σ x1 x2 x3 x4 x5 x6 = some z → At (YM E) X 7 120 [(0, .ref (E.2.2.2.2 0)), (1, .int x1), (2, .int x2), (3, .int x3), (4, .int x4), (5, .int x5), (6, .int x6)] [] σ := by
  intro n
  induction n with
  | zero =>
    intro σ x1 x2 x3 x4 x5 x6 hf
    rw [LX11_copy_120] at hf
    cases hf
  | succ n ih =>
    intro σ x1 x2 x3 x4 x5 x6 hf
    rw [LX11_copy_120] at hf
    exact okBX11_copy_120 O (LX11_copy_120 n) ih σ x1 x2 x3 x4 x5 x6 hf
def fX11_copy (a0 : Int32) (a1 : Int32) (a2 : Int32) (a3 : Int32) (a4 : Int32) (σ : St) : Option (Int32 × St) :=
  (fX11_isSheet a0).bind (fun z1 => if z1 = 0 then some ((-2), σ) else ((fX11_isSheet a2).bind (fun z3 => if z3 = 0 then some ((-2), σ) else (gIn a0 4 (if (σ.2.2 1 a0.toNatClampNeg) < 0 then (fX11_met 1 σ).bind (fun z5 => some (z5.1, z5.2)) else (gIn a2 4 (if 0 ≤ (σ.2.2 1 a2.toNatClampNeg) then gIn a0 4 (gIn a2 4 (if (σ.2.2 1 a0.toNatClampNeg) = (σ.2.2 1 a2.toNatClampNeg) then if a1 < 0 then (fX11_met 2 σ).bind (fun z7 => some (z7.1, z7.2)) else (if a3 < 0 then (fX11_met 2 σ).bind (fun z9 => some (z9.1, z9.2)) else (if a4 < 0 then (fX11_met 2 σ).bind (fun z11 => some (z11.1, z11.2)) else (gIn a0 4 (if ((σ.2.2 2 a0.toNatClampNeg).toInt64) < ((a1.toInt64) + (a4.toInt64)) then (fX11_met 2 σ).bind (fun z13 => some (z13.1, z13.2)) else (gIn a2 4 (if ((a3.toInt64) + (a4.toInt64)) ≤ ((σ.2.2 2 a2.toNatClampNeg).toInt64) then LX11_copy_120 fu σ a0 a1 a2 a3 a4 0 else ((fX11_met 2 σ).bind (fun z19 => some (z19.1, z19.2))))))))) else ((fX11_met 4 σ).bind (fun z21 => some (z21.1, z21.2))))) else ((fX11_met 1 σ).bind (fun z23 => some (z23.1, z23.2))))))))))
set_option maxRecDepth 100000 in
theorem ctX11_copy {E : ET} (hE : Dj (YM E)) (a0 : Int32) (a1 : Int32) (a2 : Int32) (a3 : Int32) (a4 : Int32) (σ : St) (z : Int32 × St) (hf : fX11_copy a0 a1 a2 a3 a4 σ = some z) : Ct (YM E) yX11_copy cX11_copy 7 (some .int) rmX11_copy [.ref (E.2.2.2.2 0), .int a0, .int a1, .int a2, .int a3, .int a4] σ (some (.int z.1)) z.2 := by
  refine Ct.of hE (by decide) (Nat.le_of_ble_eq_true rfl) (fun X O => ?_)
  have O : Ok (YM E) X cX11_copy 7 RX11 (some .int) rmX11_copy (some (.int z.1)) z.2 := O
  show At (YM E) X 7 0 [(0, .ref (E.2.2.2.2 0)), (1, .int a0), (2, .int a1), (3, .int a2), (4, .int a3), (5, .int a4)] [] σ
  unfold fX11_copy at hf
  refine a_iload_n (pc' := 1) O dX11_copy_0 rfl 1 rfl rfl ?_
  obtain ⟨z1, h2, hf⟩ := bd_some hf
  refine a_callSI (pc' := 4) (n := 1) (As := [.int a0]) (st := []) O (ctX11_isSheet hE a0 σ z1 h2) wm_365 wm_366 wm_5 wm_367 (by decide +kernel) (by decide) rfl rfl (Nat.le_of_ble_eq_true rfl) dX11_copy_1 rfl ?_
  refine a_if_eq (pc' := 7) (tgt := 14) O dX11_copy_4 (by decide) rfl hf (fun hf => ?_) (fun hf => ?_)
  · refine a_bipush (pc' := 16) (v := (-2)) O dX11_copy_14 (by decide) rfl ?_
    exact a_iret O hf dX11_copy_16
  · refine a_iload_n (pc' := 8) O dX11_copy_7 rfl 3 rfl rfl ?_
    obtain ⟨z3, h4, hf⟩ := bd_some hf
    refine a_callSI (pc' := 11) (n := 1) (As := [.int a2]) (st := []) O (ctX11_isSheet hE a2 σ z3 h4) wm_365 wm_366 wm_5 wm_367 (by decide +kernel) (by decide) rfl rfl (Nat.le_of_ble_eq_true rfl) dX11_copy_8 rfl ?_
    refine a_if_ne (pc' := 14) (tgt := 17) O dX11_copy_11 (by decide) rfl hf (fun hf => ?_) (fun hf => ?_)
    · refine a_aload_n (pc' := 18) O dX11_copy_17 rfl 0 rfl rfl ?_
      refine gfM_0_0 (pc' := 21) O dX11_copy_18 rfl ?_
      refine a_iload_n (pc' := 22) O dX11_copy_21 rfl 1 rfl rfl ?_
      refine laM_1 (pc' := 23) O hf dX11_copy_22 rfl (fun hf => ?_)
      refine a_if_lt (pc' := 26) (tgt := 35) O dX11_copy_23 (by decide) rfl hf (fun hf => ?_) (fun hf => ?_)
      · refine a_aload_n (pc' := 36) O dX11_copy_35 rfl 0 rfl rfl ?_
        refine a_iconst (pc' := 37) (v := 1) O dX11_copy_36 (by decide) rfl ?_
        obtain ⟨z5, h6, hf⟩ := bd_some hf
        refine a_callVI (pc' := 40) (n := 1) (As := [.int 1]) (st := []) (q0 := 0) O (ctX11_met hE 1 σ z5 h6) wm_368 wm_369 wm_370 wm_5 wm_371 (by decide +kernel) (by decide) (gM_0 E _) hc_11 rfl rfl rfl (Nat.le_of_ble_eq_true rfl) dX11_copy_37 rfl ?_
        exact a_iret O hf dX11_copy_40
      · refine a_aload_n (pc' := 27) O dX11_copy_26 rfl 0 rfl rfl ?_
        refine gfM_0_0 (pc' := 30) O dX11_copy_27 rfl ?_
        refine a_iload_n (pc' := 31) O dX11_copy_30 rfl 3 rfl rfl ?_
        refine laM_1 (pc' := 32) O hf dX11_copy_31 rfl (fun hf => ?_)
        refine a_if_ge (pc' := 35) (tgt := 41) O dX11_copy_32 (by decide) rfl hf (fun hf => ?_) (fun hf => ?_)
        · refine a_aload_n (pc' := 42) O dX11_copy_41 rfl 0 rfl rfl ?_
          refine gfM_0_0 (pc' := 45) O dX11_copy_42 rfl ?_
          refine a_iload_n (pc' := 46) O dX11_copy_45 rfl 1 rfl rfl ?_
          refine laM_1 (pc' := 47) O hf dX11_copy_46 rfl (fun hf => ?_)
          refine a_aload_n (pc' := 48) O dX11_copy_47 rfl 0 rfl rfl ?_
          refine gfM_0_0 (pc' := 51) O dX11_copy_48 rfl ?_
          refine a_iload_n (pc' := 52) O dX11_copy_51 rfl 3 rfl rfl ?_
          refine laM_1 (pc' := 53) O hf dX11_copy_52 rfl (fun hf => ?_)
          refine a_icmp_eq (pc' := 56) (tgt := 62) O dX11_copy_53 (by decide) rfl hf (fun hf => ?_) (fun hf => ?_)
          · refine a_iload_n (pc' := 63) O dX11_copy_62 rfl 2 rfl rfl ?_
            refine a_if_lt (pc' := 66) (tgt := 111) O dX11_copy_63 (by decide) rfl hf (fun hf => ?_) (fun hf => ?_)
            · refine a_aload_n (pc' := 112) O dX11_copy_111 rfl 0 rfl rfl ?_
              refine a_iconst (pc' := 113) (v := 2) O dX11_copy_112 (by decide) rfl ?_
              obtain ⟨z7, h8, hf⟩ := bd_some hf
              refine a_callVI (pc' := 116) (n := 1) (As := [.int 2]) (st := []) (q0 := 0) O (ctX11_met hE 2 σ z7 h8) wm_368 wm_369 wm_370 wm_5 wm_371 (by decide +kernel) (by decide) (gM_0 E _) hc_11 rfl rfl rfl (Nat.le_of_ble_eq_true rfl) dX11_copy_113 rfl ?_
              exact a_iret O hf dX11_copy_116
            · refine a_iload (pc' := 68) O dX11_copy_66 4 rfl rfl ?_
              refine a_if_lt (pc' := 71) (tgt := 111) O dX11_copy_68 (by decide) rfl hf (fun hf => ?_) (fun hf => ?_)
              · refine a_aload_n (pc' := 112) O dX11_copy_111 rfl 0 rfl rfl ?_
                refine a_iconst (pc' := 113) (v := 2) O dX11_copy_112 (by decide) rfl ?_
                obtain ⟨z9, h10, hf⟩ := bd_some hf
                refine a_callVI (pc' := 116) (n := 1) (As := [.int 2]) (st := []) (q0 := 0) O (ctX11_met hE 2 σ z9 h10) wm_368 wm_369 wm_370 wm_5 wm_371 (by decide +kernel) (by decide) (gM_0 E _) hc_11 rfl rfl rfl (Nat.le_of_ble_eq_true rfl) dX11_copy_113 rfl ?_
                exact a_iret O hf dX11_copy_116
              · refine a_iload (pc' := 73) O dX11_copy_71 5 rfl rfl ?_
                refine a_if_lt (pc' := 76) (tgt := 111) O dX11_copy_73 (by decide) rfl hf (fun hf => ?_) (fun hf => ?_)
                · refine a_aload_n (pc' := 112) O dX11_copy_111 rfl 0 rfl rfl ?_
                  refine a_iconst (pc' := 113) (v := 2) O dX11_copy_112 (by decide) rfl ?_
                  obtain ⟨z11, h12, hf⟩ := bd_some hf
                  refine a_callVI (pc' := 116) (n := 1) (As := [.int 2]) (st := []) (q0 := 0) O (ctX11_met hE 2 σ z11 h12) wm_368 wm_369 wm_370 wm_5 wm_371 (by decide +kernel) (by decide) (gM_0 E _) hc_11 rfl rfl rfl (Nat.le_of_ble_eq_true rfl) dX11_copy_113 rfl ?_
                  exact a_iret O hf dX11_copy_116
                · refine a_iload_n (pc' := 77) O dX11_copy_76 rfl 2 rfl rfl ?_
                  refine a_i2l (pc' := 78) O dX11_copy_77 rfl rfl ?_
                  refine a_iload (pc' := 80) O dX11_copy_78 5 rfl rfl ?_
                  refine a_i2l (pc' := 81) O dX11_copy_80 rfl rfl ?_
                  refine a_ladd (pc' := 82) O dX11_copy_81 rfl ?_
                  refine a_aload_n (pc' := 83) O dX11_copy_82 rfl 0 rfl rfl ?_
                  refine gfM_0_1 (pc' := 86) O dX11_copy_83 rfl ?_
                  refine a_iload_n (pc' := 87) O dX11_copy_86 rfl 1 rfl rfl ?_
                  refine laM_2 (pc' := 88) O hf dX11_copy_87 rfl (fun hf => ?_)
                  refine a_i2l (pc' := 89) O dX11_copy_88 rfl rfl ?_
                  refine a_lcmp_gt (pc' := 93) (pc1 := 90) (tgt := 111) O dX11_copy_89 rfl dX11_copy_90 (by decide) rfl hf (fun hf => ?_) (fun hf => ?_)
                  · refine a_aload_n (pc' := 112) O dX11_copy_111 rfl 0 rfl rfl ?_
                    refine a_iconst (pc' := 113) (v := 2) O dX11_copy_112 (by decide) rfl ?_
                    obtain ⟨z13, h14, hf⟩ := bd_some hf
                    refine a_callVI (pc' := 116) (n := 1) (As := [.int 2]) (st := []) (q0 := 0) O (ctX11_met hE 2 σ z13 h14) wm_368 wm_369 wm_370 wm_5 wm_371 (by decide +kernel) (by decide) (gM_0 E _) hc_11 rfl rfl rfl (Nat.le_of_ble_eq_true rfl) dX11_copy_113 rfl ?_
                    exact a_iret O hf dX11_copy_116
                  · refine a_iload (pc' := 95) O dX11_copy_93 4 rfl rfl ?_
                    refine a_i2l (pc' := 96) O dX11_copy_95 rfl rfl ?_
                    refine a_iload (pc' := 98) O dX11_copy_96 5 rfl rfl ?_
                    refine a_i2l (pc' := 99) O dX11_copy_98 rfl rfl ?_
                    refine a_ladd (pc' := 100) O dX11_copy_99 rfl ?_
                    refine a_aload_n (pc' := 101) O dX11_copy_100 rfl 0 rfl rfl ?_
                    refine gfM_0_1 (pc' := 104) O dX11_copy_101 rfl ?_
                    refine a_iload_n (pc' := 105) O dX11_copy_104 rfl 3 rfl rfl ?_
                    refine laM_2 (pc' := 106) O hf dX11_copy_105 rfl (fun hf => ?_)
                    refine a_i2l (pc' := 107) O dX11_copy_106 rfl rfl ?_
                    refine a_lcmp_le (pc' := 111) (pc1 := 108) (tgt := 117) O dX11_copy_107 rfl dX11_copy_108 (by decide) rfl hf (fun hf => ?_) (fun hf => ?_)
                    · refine a_iconst (pc' := 118) (v := 0) O dX11_copy_117 (by decide) rfl ?_
                      refine a_istore (pc' := 120) (lv' := [(6, .int 0), (0, .ref (E.2.2.2.2 0)), (1, .int a0), (2, .int a1), (3, .int a2), (4, .int a3), (5, .int a4)]) O dX11_copy_118 (by decide) rfl rfl ?_
                      exact a_sub [1, 2, 3, 4, 5, 6, 0] rfl (okLX11_copy_120 O fu σ a0 a1 a2 a3 a4 0 hf)
                    · refine a_aload_n (pc' := 112) O dX11_copy_111 rfl 0 rfl rfl ?_
                      refine a_iconst (pc' := 113) (v := 2) O dX11_copy_112 (by decide) rfl ?_
                      obtain ⟨z19, h20, hf⟩ := bd_some hf
                      refine a_callVI (pc' := 116) (n := 1) (As := [.int 2]) (st := []) (q0 := 0) O (ctX11_met hE 2 σ z19 h20) wm_368 wm_369 wm_370 wm_5 wm_371 (by decide +kernel) (by decide) (gM_0 E _) hc_11 rfl rfl rfl (Nat.le_of_ble_eq_true rfl) dX11_copy_113 rfl ?_
                      exact a_iret O hf dX11_copy_116
          · refine a_aload_n (pc' := 57) O dX11_copy_56 rfl 0 rfl rfl ?_
            refine a_iconst (pc' := 58) (v := 4) O dX11_copy_57 (by decide) rfl ?_
            obtain ⟨z21, h22, hf⟩ := bd_some hf
            refine a_callVI (pc' := 61) (n := 1) (As := [.int 4]) (st := []) (q0 := 0) O (ctX11_met hE 4 σ z21 h22) wm_368 wm_369 wm_370 wm_5 wm_371 (by decide +kernel) (by decide) (gM_0 E _) hc_11 rfl rfl rfl (Nat.le_of_ble_eq_true rfl) dX11_copy_58 rfl ?_
            exact a_iret O hf dX11_copy_61
        · refine a_aload_n (pc' := 36) O dX11_copy_35 rfl 0 rfl rfl ?_
          refine a_iconst (pc' := 37) (v := 1) O dX11_copy_36 (by decide) rfl ?_
          obtain ⟨z23, h24, hf⟩ := bd_some hf
          refine a_callVI (pc' := 40) (n := 1) (As := [.int 1]) (st := []) (q0 := 0) O (ctX11_met hE 1 σ z23 h24) wm_368 wm_369 wm_370 wm_5 wm_371 (by decide +kernel) (by decide) (gM_0 E _) hc_11 rfl rfl rfl (Nat.le_of_ble_eq_true rfl) dX11_copy_37 rfl ?_
          exact a_iret O hf dX11_copy_40
    · refine a_bipush (pc' := 16) (v := (-2)) O dX11_copy_14 (by decide) rfl ?_
      exact a_iret O hf dX11_copy_16
def rmX11_type : Room := { frames := 2, cells := 0, slots := 0, locals := 45 }
def BX11_type_39 (σ : St) (x1 : Int32) (x2 : Int32) (y0 : Int32) (y1 : Int32) : Option (Int32 × St) :=
  if y1 = y0 then some ((-4), σ) else (gIn x1 2 (gIn ((80 * x1) + (σ.2.2 6 x1.toNatClampNeg)) 120 (bS (sA σ 5 ((80 * x1) + (σ.2.2 6 x1.toNatClampNeg)).toNatClampNeg x2) (fun σ5 => gIn x1 2 (gIn x1 2 (bS (sA σ5 6 x1.toNatClampNeg ((σ5.2.2 6 x1.toNatClampNeg) + 1)) (fun σ6 => gIn x1 2 (some ((σ6.2.2 6 x1.toNatClampNeg), σ6)))))))))
set_option maxRecDepth 100000 in
theorem okBX11_type_39 {E : ET} {X : XT} {z : Int32 × St} (O : Ok (YM E) X cX11_type 3 RX11 (some .int) rmX11_type (some (.int z.1)) z.2) (σ : St) (x1 : Int32) (x2 : Int32) (y0 : Int32) (y1 : Int32) (hf : BX11_type_39 σ x1 x2 y0 y1 = some z) : At (YM E) X 3 39 [(0, .ref (E.2.2.2.2 0)), (1, .int x1), (2, .int x2)] [.int y0, .int y1] σ := by
  have hE := O.2.2.2.2.2.2.2.2.2.1
  unfold BX11_type_39 at hf
  refine a_icmp_ne (pc' := 42) (tgt := 45) O dX11_type_39 (by decide) rfl hf (fun hf => ?_) (fun hf => ?_)
  · refine a_aload_n (pc' := 46) O dX11_type_45 rfl 0 rfl rfl ?_
    refine gfM_0_5 (pc' := 49) O dX11_type_46 rfl ?_
    refine a_bipush (pc' := 51) (v := 80) O dX11_type_49 (by decide) rfl ?_
    refine a_iload_n (pc' := 52) O dX11_type_51 rfl 1 rfl rfl ?_
    refine a_imul (pc' := 53) O dX11_type_52 rfl ?_
    refine a_aload_n (pc' := 54) O dX11_type_53 rfl 0 rfl rfl ?_
    refine gfM_0_6 (pc' := 57) O dX11_type_54 rfl ?_
    refine a_iload_n (pc' := 58) O dX11_type_57 rfl 1 rfl rfl ?_
    refine laM_6 (pc' := 59) O hf dX11_type_58 rfl (fun hf => ?_)
    refine a_iadd (pc' := 60) O dX11_type_59 rfl ?_
    refine a_iload_n (pc' := 61) O dX11_type_60 rfl 2 rfl rfl ?_
    refine saM_5 (pc' := 62) O hf dX11_type_61 rfl (fun σ5 hf => ?_)
    refine a_aload_n (pc' := 63) O dX11_type_62 rfl 0 rfl rfl ?_
    refine gfM_0_6 (pc' := 66) O dX11_type_63 rfl ?_
    refine a_iload_n (pc' := 67) O dX11_type_66 rfl 1 rfl rfl ?_
    refine a_dup2_11 (pc' := 68) O dX11_type_67 rfl rfl rfl ?_
    refine laM_6 (pc' := 69) O hf dX11_type_68 rfl (fun hf => ?_)
    refine a_iconst (pc' := 70) (v := 1) O dX11_type_69 (by decide) rfl ?_
    refine a_iadd (pc' := 71) O dX11_type_70 rfl ?_
    refine saM_6 (pc' := 72) O hf dX11_type_71 rfl (fun σ6 hf => ?_)
    refine a_aload_n (pc' := 73) O dX11_type_72 rfl 0 rfl rfl ?_
    refine gfM_0_6 (pc' := 76) O dX11_type_73 rfl ?_
    refine a_iload_n (pc' := 77) O dX11_type_76 rfl 1 rfl rfl ?_
    refine laM_6 (pc' := 78) O hf dX11_type_77 rfl (fun hf => ?_)
    exact a_iret O hf dX11_type_78
  · refine a_bipush (pc' := 44) (v := (-4)) O dX11_type_42 (by decide) rfl ?_
    exact a_iret O hf dX11_type_44
def fX11_type (a0 : Int32) (a1 : Int32) (σ : St) : Option (Int32 × St) :=
  (fX11_isTwo a0).bind (fun z1 => if z1 = 0 then some ((-2), σ) else ((fX11_in (a1.toInt64) 0 255).bind (fun z3 => if z3 = 0 then some ((-2), σ) else (gIn a0 2 (if a0 = 0 then BX11_type_39 σ a0 a1 79 (σ.2.2 6 a0.toNatClampNeg) else (BX11_type_39 σ a0 a1 40 (σ.2.2 6 a0.toNatClampNeg)))))))
set_option maxRecDepth 100000 in
theorem ctX11_type {E : ET} (hE : Dj (YM E)) (a0 : Int32) (a1 : Int32) (σ : St) (z : Int32 × St) (hf : fX11_type a0 a1 σ = some z) : Ct (YM E) yX11_type cX11_type 3 (some .int) rmX11_type [.ref (E.2.2.2.2 0), .int a0, .int a1] σ (some (.int z.1)) z.2 := by
  refine Ct.of hE (by decide) (Nat.le_of_ble_eq_true rfl) (fun X O => ?_)
  have O : Ok (YM E) X cX11_type 3 RX11 (some .int) rmX11_type (some (.int z.1)) z.2 := O
  show At (YM E) X 3 0 [(0, .ref (E.2.2.2.2 0)), (1, .int a0), (2, .int a1)] [] σ
  unfold fX11_type at hf
  refine a_iload_n (pc' := 1) O dX11_type_0 rfl 1 rfl rfl ?_
  obtain ⟨z1, h2, hf⟩ := bd_some hf
  refine a_callSI (pc' := 4) (n := 1) (As := [.int a0]) (st := []) O (ctX11_isTwo hE a0 σ z1 h2) wm_198 wm_199 wm_5 wm_200 (by decide +kernel) (by decide) rfl rfl (Nat.le_of_ble_eq_true rfl) dX11_type_1 rfl ?_
  refine a_if_eq (pc' := 7) (tgt := 19) O dX11_type_4 (by decide) rfl hf (fun hf => ?_) (fun hf => ?_)
  · refine a_bipush (pc' := 21) (v := (-2)) O dX11_type_19 (by decide) rfl ?_
    exact a_iret O hf dX11_type_21
  · refine a_iload_n (pc' := 8) O dX11_type_7 rfl 2 rfl rfl ?_
    refine a_i2l (pc' := 9) O dX11_type_8 rfl rfl ?_
    refine a_lconst (pc' := 10) (v := 0) O dX11_type_9 (by decide) rfl ?_
    refine a_ldc2 (pc' := 13) (v := 255) O wm_197 dX11_type_10 rfl ?_
    obtain ⟨z3, h4, hf⟩ := bd_some hf
    refine a_callSI (pc' := 16) (n := 3) (As := [.long (a1.toInt64), .long 0, .long 255]) (st := []) O (ctX11_in hE (a1.toInt64) 0 255 σ z3 h4) wm_201 wm_202 wm_5 wm_203 (by decide +kernel) (by decide) rfl rfl (Nat.le_of_ble_eq_true rfl) dX11_type_13 rfl ?_
    refine a_if_ne (pc' := 19) (tgt := 22) O dX11_type_16 (by decide) rfl hf (fun hf => ?_) (fun hf => ?_)
    · refine a_aload_n (pc' := 23) O dX11_type_22 rfl 0 rfl rfl ?_
      refine gfM_0_6 (pc' := 26) O dX11_type_23 rfl ?_
      refine a_iload_n (pc' := 27) O dX11_type_26 rfl 1 rfl rfl ?_
      refine laM_6 (pc' := 28) O hf dX11_type_27 rfl (fun hf => ?_)
      refine a_iload_n (pc' := 29) O dX11_type_28 rfl 1 rfl rfl ?_
      refine a_if_ne (pc' := 32) (tgt := 37) O dX11_type_29 (by decide) rfl hf (fun hf => ?_) (fun hf => ?_)
      · refine a_bipush (pc' := 39) (v := 40) O dX11_type_37 (by decide) rfl ?_
        exact a_sub [0, 1, 2] rfl (okBX11_type_39 O σ a0 a1 40 (σ.2.2 6 a0.toNatClampNeg) hf)
      · refine a_bipush (pc' := 34) (v := 79) O dX11_type_32 (by decide) rfl ?_
        refine a_goto (tgt := 39) O dX11_type_34 (by decide) ?_
        exact a_sub [0, 1, 2] rfl (okBX11_type_39 O σ a0 a1 79 (σ.2.2 6 a0.toNatClampNeg) hf)
    · refine a_bipush (pc' := 21) (v := (-2)) O dX11_type_19 (by decide) rfl ?_
      exact a_iret O hf dX11_type_21
def rmX11_wipe : Room := { frames := 2, cells := 0, slots := 0, locals := 45 }
def fX11_wipe (a0 : Int32) (σ : St) : Option (Int32 × St) :=
  (fX11_isTwo a0).bind (fun z1 => if z1 = 0 then some ((-2), σ) else (gIn a0 2 (bI (σ.2.2 6 a0.toNatClampNeg) (fun v3 => gIn a0 2 (bS (sA σ 6 a0.toNatClampNeg 0) (fun σ4 => some (v3, σ4)))))))
set_option maxRecDepth 100000 in
theorem ctX11_wipe {E : ET} (hE : Dj (YM E)) (a0 : Int32) (σ : St) (z : Int32 × St) (hf : fX11_wipe a0 σ = some z) : Ct (YM E) yX11_wipe cX11_wipe 3 (some .int) rmX11_wipe [.ref (E.2.2.2.2 0), .int a0] σ (some (.int z.1)) z.2 := by
  refine Ct.of hE (by decide) (Nat.le_of_ble_eq_true rfl) (fun X O => ?_)
  have O : Ok (YM E) X cX11_wipe 3 RX11 (some .int) rmX11_wipe (some (.int z.1)) z.2 := O
  show At (YM E) X 3 0 [(0, .ref (E.2.2.2.2 0)), (1, .int a0)] [] σ
  unfold fX11_wipe at hf
  refine a_iload_n (pc' := 1) O dX11_wipe_0 rfl 1 rfl rfl ?_
  obtain ⟨z1, h2, hf⟩ := bd_some hf
  refine a_callSI (pc' := 4) (n := 1) (As := [.int a0]) (st := []) O (ctX11_isTwo hE a0 σ z1 h2) wm_198 wm_199 wm_5 wm_200 (by decide +kernel) (by decide) rfl rfl (Nat.le_of_ble_eq_true rfl) dX11_wipe_1 rfl ?_
  refine a_if_ne (pc' := 7) (tgt := 10) O dX11_wipe_4 (by decide) rfl hf (fun hf => ?_) (fun hf => ?_)
  · refine a_aload_n (pc' := 11) O dX11_wipe_10 rfl 0 rfl rfl ?_
    refine gfM_0_6 (pc' := 14) O dX11_wipe_11 rfl ?_
    refine a_iload_n (pc' := 15) O dX11_wipe_14 rfl 1 rfl rfl ?_
    refine laM_6 (pc' := 16) O hf dX11_wipe_15 rfl (fun hf => ?_)
    refine a_topi hf (fun v3 hf => ?_)
    refine a_istore_n (pc' := 17) (lv' := [(2, .int v3), (0, .ref (E.2.2.2.2 0)), (1, .int a0)]) O dX11_wipe_16 rfl (by decide) rfl rfl ?_
    refine a_aload_n (pc' := 18) O dX11_wipe_17 rfl 1 rfl rfl ?_
    refine gfM_0_6 (pc' := 21) O dX11_wipe_18 rfl ?_
    refine a_iload_n (pc' := 22) O dX11_wipe_21 rfl 2 rfl rfl ?_
    refine a_iconst (pc' := 23) (v := 0) O dX11_wipe_22 (by decide) rfl ?_
    refine saM_6 (pc' := 24) O hf dX11_wipe_23 rfl (fun σ4 hf => ?_)
    refine a_iload_n (pc' := 25) O dX11_wipe_24 rfl 0 rfl rfl ?_
    exact a_iret O hf dX11_wipe_25
  · refine a_bipush (pc' := 9) (v := (-2)) O dX11_wipe_7 (by decide) rfl ?_
    exact a_iret O hf dX11_wipe_9
def rmX11_undo : Room := { frames := 2, cells := 0, slots := 0, locals := 45 }
def fX11_undo (a0 : Int32) (σ : St) : Option (Int32 × St) :=
  (fX11_isTwo a0).bind (fun z1 => if z1 = 0 then some ((-2), σ) else (gIn a0 2 (if (σ.2.2 6 a0.toNatClampNeg) = 0 then some ((-3), σ) else (gIn a0 2 (gIn a0 2 (bS (sA σ 6 a0.toNatClampNeg ((σ.2.2 6 a0.toNatClampNeg) - 1)) (fun σ3 => gIn a0 2 (some ((σ3.2.2 6 a0.toNatClampNeg), σ3)))))))))
set_option maxRecDepth 100000 in
theorem ctX11_undo {E : ET} (hE : Dj (YM E)) (a0 : Int32) (σ : St) (z : Int32 × St) (hf : fX11_undo a0 σ = some z) : Ct (YM E) yX11_undo cX11_undo 2 (some .int) rmX11_undo [.ref (E.2.2.2.2 0), .int a0] σ (some (.int z.1)) z.2 := by
  refine Ct.of hE (by decide) (Nat.le_of_ble_eq_true rfl) (fun X O => ?_)
  have O : Ok (YM E) X cX11_undo 2 RX11 (some .int) rmX11_undo (some (.int z.1)) z.2 := O
  show At (YM E) X 2 0 [(0, .ref (E.2.2.2.2 0)), (1, .int a0)] [] σ
  unfold fX11_undo at hf
  refine a_iload_n (pc' := 1) O dX11_undo_0 rfl 1 rfl rfl ?_
  obtain ⟨z1, h2, hf⟩ := bd_some hf
  refine a_callSI (pc' := 4) (n := 1) (As := [.int a0]) (st := []) O (ctX11_isTwo hE a0 σ z1 h2) wm_198 wm_199 wm_5 wm_200 (by decide +kernel) (by decide) rfl rfl (Nat.le_of_ble_eq_true rfl) dX11_undo_1 rfl ?_
  refine a_if_ne (pc' := 7) (tgt := 10) O dX11_undo_4 (by decide) rfl hf (fun hf => ?_) (fun hf => ?_)
  · refine a_aload_n (pc' := 11) O dX11_undo_10 rfl 0 rfl rfl ?_
    refine gfM_0_6 (pc' := 14) O dX11_undo_11 rfl ?_
    refine a_iload_n (pc' := 15) O dX11_undo_14 rfl 1 rfl rfl ?_
    refine laM_6 (pc' := 16) O hf dX11_undo_15 rfl (fun hf => ?_)
    refine a_if_ne (pc' := 19) (tgt := 22) O dX11_undo_16 (by decide) rfl hf (fun hf => ?_) (fun hf => ?_)
    · refine a_aload_n (pc' := 23) O dX11_undo_22 rfl 0 rfl rfl ?_
      refine gfM_0_6 (pc' := 26) O dX11_undo_23 rfl ?_
      refine a_iload_n (pc' := 27) O dX11_undo_26 rfl 1 rfl rfl ?_
      refine a_dup2_11 (pc' := 28) O dX11_undo_27 rfl rfl rfl ?_
      refine laM_6 (pc' := 29) O hf dX11_undo_28 rfl (fun hf => ?_)
      refine a_iconst (pc' := 30) (v := 1) O dX11_undo_29 (by decide) rfl ?_
      refine a_isub (pc' := 31) O dX11_undo_30 rfl ?_
      refine saM_6 (pc' := 32) O hf dX11_undo_31 rfl (fun σ3 hf => ?_)
      refine a_aload_n (pc' := 33) O dX11_undo_32 rfl 0 rfl rfl ?_
      refine gfM_0_6 (pc' := 36) O dX11_undo_33 rfl ?_
      refine a_iload_n (pc' := 37) O dX11_undo_36 rfl 1 rfl rfl ?_
      refine laM_6 (pc' := 38) O hf dX11_undo_37 rfl (fun hf => ?_)
      exact a_iret O hf dX11_undo_38
    · refine a_bipush (pc' := 21) (v := (-3)) O dX11_undo_19 (by decide) rfl ?_
      exact a_iret O hf dX11_undo_21
  · refine a_bipush (pc' := 9) (v := (-2)) O dX11_undo_7 (by decide) rfl ?_
    exact a_iret O hf dX11_undo_9
def rmX11_here : Room := { frames := 0, cells := 0, slots := 0, locals := 0 }
def fX11_here (a0 : Int32) (σ : St) : Option Int32 :=
  gIn a0 2 (if (σ.2.2 6 a0.toNatClampNeg) ≤ (σ.1 7) then some (-1) else (gIn ((80 * a0) + (σ.1 7)) 120 (some (σ.2.2 5 ((80 * a0) + (σ.1 7)).toNatClampNeg))))
set_option maxRecDepth 100000 in
theorem ctX11_here {E : ET} (hE : Dj (YM E)) (a0 : Int32) (σ : St) (z : Int32) (hf : fX11_here a0 σ = some z) : Ct (YM E) yX11_here cX11_here 2 (some .int) rmX11_here [.ref (E.2.2.2.2 0), .int a0] σ (some (.int z)) σ := by
  refine Ct.of hE (by decide) (Nat.le_of_ble_eq_true rfl) (fun X O => ?_)
  have O : Ok (YM E) X cX11_here 2 RX11 (some .int) rmX11_here (some (.int z)) σ := O
  show At (YM E) X 2 0 [(0, .ref (E.2.2.2.2 0)), (1, .int a0)] [] σ
  unfold fX11_here at hf
  refine a_aload_n (pc' := 1) O dX11_here_0 rfl 0 rfl rfl ?_
  refine gfM_0_7 (pc' := 4) O dX11_here_1 rfl ?_
  refine a_aload_n (pc' := 5) O dX11_here_4 rfl 0 rfl rfl ?_
  refine gfM_0_6 (pc' := 8) O dX11_here_5 rfl ?_
  refine a_iload_n (pc' := 9) O dX11_here_8 rfl 1 rfl rfl ?_
  refine laM_6 (pc' := 10) O hf dX11_here_9 rfl (fun hf => ?_)
  refine a_icmp_ge (pc' := 13) (tgt := 30) O dX11_here_10 (by decide) rfl hf (fun hf => ?_) (fun hf => ?_)
  · refine a_iconst (pc' := 31) (v := (-1)) O dX11_here_30 (by decide) rfl ?_
    exact a_iretP O hf dX11_here_31
  · refine a_aload_n (pc' := 14) O dX11_here_13 rfl 0 rfl rfl ?_
    refine gfM_0_5 (pc' := 17) O dX11_here_14 rfl ?_
    refine a_bipush (pc' := 19) (v := 80) O dX11_here_17 (by decide) rfl ?_
    refine a_iload_n (pc' := 20) O dX11_here_19 rfl 1 rfl rfl ?_
    refine a_imul (pc' := 21) O dX11_here_20 rfl ?_
    refine a_aload_n (pc' := 22) O dX11_here_21 rfl 0 rfl rfl ?_
    refine gfM_0_7 (pc' := 25) O dX11_here_22 rfl ?_
    refine a_iadd (pc' := 26) O dX11_here_25 rfl ?_
    refine laM_5 (pc' := 27) O hf dX11_here_26 rfl (fun hf => ?_)
    refine a_goto (tgt := 31) O dX11_here_27 (by decide) ?_
    exact a_iretP O hf dX11_here_31
def rmX11_readsPart : Room := { frames := 1, cells := 0, slots := 0, locals := 25 }
def BX11_readsPart_138 (σ : St) (y0 : Int32) (y1 : Int32) : Option (Int32 × St) :=
  gB y0 (gIn y1 16 (bS (sA σ 8 y1.toNatClampNeg y0) (fun σ5 => bS (sI σ5 7 ((σ5.1 7) + 1)) (fun σ7 => bS (sI σ7 8 ((σ7.1 8) + 1)) (fun σ8 => some (1, σ8))))))
set_option maxRecDepth 100000 in
theorem okBX11_readsPart_138 {E : ET} {X : XT} {z : Int32 × St} (O : Ok (YM E) X cX11_readsPart 3 RX11 (some .boolean) rmX11_readsPart (some (.int z.1)) z.2) (σ : St) (y0 : Int32) (y1 : Int32) (hf : BX11_readsPart_138 σ y0 y1 = some z) : At (YM E) X 3 138 [(0, .ref (E.2.2.2.2 0))] [.int y0, .int y1, .ref (E.2.2.2.2 8)] σ := by
  have hE := O.2.2.2.2.2.2.2.2.2.1
  unfold BX11_readsPart_138 at hf
  obtain ⟨h6, hf⟩ := gB_some hf
  refine saM_8 (pc' := 139) O h6 hf dX11_readsPart_138 rfl (fun σ5 hf => ?_)
  refine a_aload_n (pc' := 140) O dX11_readsPart_139 rfl 0 rfl rfl ?_
  refine a_dup (pc' := 141) O dX11_readsPart_140 rfl rfl ?_
  refine gfM_0_7 (pc' := 144) O dX11_readsPart_141 rfl ?_
  refine a_iconst (pc' := 145) (v := 1) O dX11_readsPart_144 (by decide) rfl ?_
  refine a_iadd (pc' := 146) O dX11_readsPart_145 rfl ?_
  refine pfM_0_7 (pc' := 149) O hf dX11_readsPart_146 rfl (fun σ7 hf => ?_)
  refine a_aload_n (pc' := 150) O dX11_readsPart_149 rfl 0 rfl rfl ?_
  refine a_dup (pc' := 151) O dX11_readsPart_150 rfl rfl ?_
  refine gfM_0_8 (pc' := 154) O dX11_readsPart_151 rfl ?_
  refine a_iconst (pc' := 155) (v := 1) O dX11_readsPart_154 (by decide) rfl ?_
  refine a_iadd (pc' := 156) O dX11_readsPart_155 rfl ?_
  refine pfM_0_8 (pc' := 159) O hf dX11_readsPart_156 rfl (fun σ8 hf => ?_)
  refine a_iconst (pc' := 160) (v := 1) O dX11_readsPart_159 (by decide) rfl ?_
  exact a_zret (Or.inr rfl) O hf dX11_readsPart_160
def BX11_readsPart_115 (σ : St) : Option (Int32 × St) :=
  (fX11_here 0 σ).bind (fun z3 => if z3 = 114 then BX11_readsPart_138 σ 1 (σ.1 8) else (BX11_readsPart_138 σ 0 (σ.1 8)))
set_option maxRecDepth 100000 in
theorem okBX11_readsPart_115 {E : ET} {X : XT} {z : Int32 × St} (O : Ok (YM E) X cX11_readsPart 3 RX11 (some .boolean) rmX11_readsPart (some (.int z.1)) z.2) (σ : St) (hf : BX11_readsPart_115 σ = some z) : At (YM E) X 3 115 [(0, .ref (E.2.2.2.2 0))] [] σ := by
  have hE := O.2.2.2.2.2.2.2.2.2.1
  unfold BX11_readsPart_115 at hf
  refine a_aload_n (pc' := 116) O dX11_readsPart_115 rfl 0 rfl rfl ?_
  refine gfM_0_10 (pc' := 119) O dX11_readsPart_116 rfl ?_
  refine a_aload_n (pc' := 120) O dX11_readsPart_119 rfl 0 rfl rfl ?_
  refine gfM_0_8 (pc' := 123) O dX11_readsPart_120 rfl ?_
  refine a_aload_n (pc' := 124) O dX11_readsPart_123 rfl 0 rfl rfl ?_
  refine a_iconst (pc' := 125) (v := 0) O dX11_readsPart_124 (by decide) rfl ?_
  obtain ⟨z3, h4, hf⟩ := bd_some hf
  refine a_callVI (pc' := 128) (n := 1) (As := [.int 0]) (st := [.int (σ.1 8), .ref (E.2.2.2.2 8)]) (q0 := 0) O (ctX11_here hE 0 σ z3 h4) wm_255 wm_256 wm_257 wm_5 wm_258 (by decide +kernel) (by decide) (gM_0 E _) hc_11 rfl rfl rfl (Nat.le_of_ble_eq_true rfl) dX11_readsPart_125 rfl ?_
  refine a_bipush (pc' := 130) (v := 114) O dX11_readsPart_128 (by decide) rfl ?_
  refine a_icmp_ne (pc' := 133) (tgt := 137) O dX11_readsPart_130 (by decide) rfl hf (fun hf => ?_) (fun hf => ?_)
  · refine a_iconst (pc' := 138) (v := 0) O dX11_readsPart_137 (by decide) rfl ?_
    exact a_sub [0] rfl (okBX11_readsPart_138 O σ 0 (σ.1 8) hf)
  · refine a_iconst (pc' := 134) (v := 1) O dX11_readsPart_133 (by decide) rfl ?_
    refine a_goto (tgt := 138) O dX11_readsPart_134 (by decide) ?_
    exact a_sub [0] rfl (okBX11_readsPart_138 O σ 1 (σ.1 8) hf)
def BX11_readsPart_93 (σ : St) : Option (Int32 × St) :=
  (fX11_here 0 σ).bind (fun z1 => if z1 = 114 then BX11_readsPart_115 σ else ((fX11_here 0 σ).bind (fun z9 => if z9 = 46 then BX11_readsPart_115 σ else (some (0, σ)))))
set_option maxRecDepth 100000 in
theorem okBX11_readsPart_93 {E : ET} {X : XT} {z : Int32 × St} (O : Ok (YM E) X cX11_readsPart 3 RX11 (some .boolean) rmX11_readsPart (some (.int z.1)) z.2) (σ : St) (hf : BX11_readsPart_93 σ = some z) : At (YM E) X 3 93 [(0, .ref (E.2.2.2.2 0))] [] σ := by
  have hE := O.2.2.2.2.2.2.2.2.2.1
  unfold BX11_readsPart_93 at hf
  refine a_aload_n (pc' := 94) O dX11_readsPart_93 rfl 0 rfl rfl ?_
  refine a_iconst (pc' := 95) (v := 0) O dX11_readsPart_94 (by decide) rfl ?_
  obtain ⟨z1, h2, hf⟩ := bd_some hf
  refine a_callVI (pc' := 98) (n := 1) (As := [.int 0]) (st := []) (q0 := 0) O (ctX11_here hE 0 σ z1 h2) wm_255 wm_256 wm_257 wm_5 wm_258 (by decide +kernel) (by decide) (gM_0 E _) hc_11 rfl rfl rfl (Nat.le_of_ble_eq_true rfl) dX11_readsPart_95 rfl ?_
  refine a_bipush (pc' := 100) (v := 114) O dX11_readsPart_98 (by decide) rfl ?_
  refine a_icmp_eq (pc' := 103) (tgt := 115) O dX11_readsPart_100 (by decide) rfl hf (fun hf => ?_) (fun hf => ?_)
  · exact a_sub [0] rfl (okBX11_readsPart_115 O σ hf)
  · refine a_aload_n (pc' := 104) O dX11_readsPart_103 rfl 0 rfl rfl ?_
    refine a_iconst (pc' := 105) (v := 0) O dX11_readsPart_104 (by decide) rfl ?_
    obtain ⟨z9, h10, hf⟩ := bd_some hf
    refine a_callVI (pc' := 108) (n := 1) (As := [.int 0]) (st := []) (q0 := 0) O (ctX11_here hE 0 σ z9 h10) wm_255 wm_256 wm_257 wm_5 wm_258 (by decide +kernel) (by decide) (gM_0 E _) hc_11 rfl rfl rfl (Nat.le_of_ble_eq_true rfl) dX11_readsPart_105 rfl ?_
    refine a_bipush (pc' := 110) (v := 46) O dX11_readsPart_108 (by decide) rfl ?_
    refine a_icmp_eq (pc' := 113) (tgt := 115) O dX11_readsPart_110 (by decide) rfl hf (fun hf => ?_) (fun hf => ?_)
    · exact a_sub [0] rfl (okBX11_readsPart_115 O σ hf)
    · refine a_iconst (pc' := 114) (v := 0) O dX11_readsPart_113 (by decide) rfl ?_
      exact a_zret (Or.inl rfl) O hf dX11_readsPart_114
def BX11_readsPart_52 (k13 : St → Int32 → Option (Int32 × St)) (σ : St) (x1 : Int32) (x2 : Int32) (y0 : Int64) (y1 : Int64) : Option (Int32 × St) :=
  (fX11_in y1 y0 9).bind (fun z14 => if z14 = 0 then some (0, σ) else (gIn ((3 * (σ.1 8)) + x1) 48 (bS (sA σ 7 ((3 * (σ.1 8)) + x1).toNatClampNeg x2) (fun σ16 => bS (sI σ16 7 ((σ16.1 7) + 1)) (fun σ17 => bI (x1 + 1) (fun v18 => k13 σ17 v18))))))
set_option maxRecDepth 100000 in
theorem okBX11_readsPart_52 {E : ET} {X : XT} {z : Int32 × St} (O : Ok (YM E) X cX11_readsPart 3 RX11 (some .boolean) rmX11_readsPart (some (.int z.1)) z.2) (k13 : St → Int32 → Option (Int32 × St)) (hk13 : ∀ (σ : St) (x1 : Int32), k13 σ x1 = some z → At (YM E) X 3 13 [(0, .ref (E.2.2.2.2 0)), (1, .int x1)] [] σ) (σ : St) (x1 : Int32) (x2 : Int32) (y0 : Int64) (y1 : Int64) (hf : BX11_readsPart_52 k13 σ x1 x2 y0 y1 = some z) : At (YM E) X 3 52 [(0, .ref (E.2.2.2.2 0)), (1, .int x1), (2, .int x2)] [.long y0, .long y1] σ := by
  have hE := O.2.2.2.2.2.2.2.2.2.1
  unfold BX11_readsPart_52 at hf
  refine a_ldc2 (pc' := 55) (v := 9) O wm_254 dX11_readsPart_52 rfl ?_
  obtain ⟨z14, h15, hf⟩ := bd_some hf
  refine a_callSI (pc' := 58) (n := 3) (As := [.long y1, .long y0, .long 9]) (st := []) O (ctX11_in hE y1 y0 9 σ z14 h15) wm_201 wm_202 wm_5 wm_203 (by decide +kernel) (by decide) rfl rfl (Nat.le_of_ble_eq_true rfl) dX11_readsPart_55 rfl ?_
  refine a_if_ne (pc' := 61) (tgt := 63) O dX11_readsPart_58 (by decide) rfl hf (fun hf => ?_) (fun hf => ?_)
  · refine a_aload_n (pc' := 64) O dX11_readsPart_63 rfl 0 rfl rfl ?_
    refine gfM_0_9 (pc' := 67) O dX11_readsPart_64 rfl ?_
    refine a_iconst (pc' := 68) (v := 3) O dX11_readsPart_67 (by decide) rfl ?_
    refine a_aload_n (pc' := 69) O dX11_readsPart_68 rfl 0 rfl rfl ?_
    refine gfM_0_8 (pc' := 72) O dX11_readsPart_69 rfl ?_
    refine a_imul (pc' := 73) O dX11_readsPart_72 rfl ?_
    refine a_iload_n (pc' := 74) O dX11_readsPart_73 rfl 1 rfl rfl ?_
    refine a_iadd (pc' := 75) O dX11_readsPart_74 rfl ?_
    refine a_iload_n (pc' := 76) O dX11_readsPart_75 rfl 2 rfl rfl ?_
    refine saM_7 (pc' := 77) O hf dX11_readsPart_76 rfl (fun σ16 hf => ?_)
    refine a_aload_n (pc' := 78) O dX11_readsPart_77 rfl 0 rfl rfl ?_
    refine a_dup (pc' := 79) O dX11_readsPart_78 rfl rfl ?_
    refine gfM_0_7 (pc' := 82) O dX11_readsPart_79 rfl ?_
    refine a_iconst (pc' := 83) (v := 1) O dX11_readsPart_82 (by decide) rfl ?_
    refine a_iadd (pc' := 84) O dX11_readsPart_83 rfl ?_
    refine pfM_0_7 (pc' := 87) O hf dX11_readsPart_84 rfl (fun σ17 hf => ?_)
    refine a_iincB (pc' := 90) (lv' := fun v18 => [(1, .int v18), (0, .ref (E.2.2.2.2 0)), (2, .int x2)]) (c0 := 1) O dX11_readsPart_87 1 rfl (by decide) (by decide) (fun _ => rfl) rfl hf (fun v18 hf => ?_)
    refine a_goto (tgt := 13) O dX11_readsPart_90 (by decide) ?_
    exact a_sub [1, 0] rfl (hk13 σ17 v18 hf)
  · refine a_iconst (pc' := 62) (v := 0) O dX11_readsPart_61 (by decide) rfl ?_
    exact a_zret (Or.inl rfl) O hf dX11_readsPart_62
def BX11_readsPart_13 (k13 : St → Int32 → Option (Int32 × St)) (σ : St) (x1 : Int32) : Option (Int32 × St) :=
  if 3 ≤ x1 then BX11_readsPart_93 σ else ((fX11_here 0 σ).bind (fun z11 => bI (z11 - 48) (fun v13 => if x1 = 2 then gIn ((3 * (σ.1 8)) + 1) 48 (BX11_readsPart_52 k13 σ x1 v13 ((σ.2.2 7 ((3 * (σ.1 8)) + 1).toNatClampNeg).toInt64) (v13.toInt64)) else (BX11_readsPart_52 k13 σ x1 v13 1 (v13.toInt64)))))
set_option maxRecDepth 100000 in
theorem okBX11_readsPart_13 {E : ET} {X : XT} {z : Int32 × St} (O : Ok (YM E) X cX11_readsPart 3 RX11 (some .boolean) rmX11_readsPart (some (.int z.1)) z.2) (k13 : St → Int32 → Option (Int32 × St)) (hk13 : ∀ (σ : St) (x1 : Int32), k13 σ x1 = some z → At (YM E) X 3 13 [(0, .ref (E.2.2.2.2 0)), (1, .int x1)] [] σ) (σ : St) (x1 : Int32) (hf : BX11_readsPart_13 k13 σ x1 = some z) : At (YM E) X 3 13 [(0, .ref (E.2.2.2.2 0)), (1, .int x1)] [] σ := by
  have hE := O.2.2.2.2.2.2.2.2.2.1
  unfold BX11_readsPart_13 at hf
  refine a_iload_n (pc' := 14) O dX11_readsPart_13 rfl 1 rfl rfl ?_
  refine a_iconst (pc' := 15) (v := 3) O dX11_readsPart_14 (by decide) rfl ?_
  refine a_icmp_ge (pc' := 18) (tgt := 93) O dX11_readsPart_15 (by decide) rfl hf (fun hf => ?_) (fun hf => ?_)
  · exact a_sub [0] rfl (okBX11_readsPart_93 O σ hf)
  · refine a_aload_n (pc' := 19) O dX11_readsPart_18 rfl 0 rfl rfl ?_
    refine a_iconst (pc' := 20) (v := 0) O dX11_readsPart_19 (by decide) rfl ?_
    obtain ⟨z11, h12, hf⟩ := bd_some hf
    refine a_callVI (pc' := 23) (n := 1) (As := [.int 0]) (st := []) (q0 := 0) O (ctX11_here hE 0 σ z11 h12) wm_255 wm_256 wm_257 wm_5 wm_258 (by decide +kernel) (by decide) (gM_0 E _) hc_11 rfl rfl rfl (Nat.le_of_ble_eq_true rfl) dX11_readsPart_20 rfl ?_
    refine a_bipush (pc' := 25) (v := 48) O dX11_readsPart_23 (by decide) rfl ?_
    refine a_isub (pc' := 26) O dX11_readsPart_25 rfl ?_
    refine a_topi hf (fun v13 hf => ?_)
    refine a_istore_n (pc' := 27) (lv' := [(2, .int v13), (0, .ref (E.2.2.2.2 0)), (1, .int x1)]) O dX11_readsPart_26 rfl (by decide) rfl rfl ?_
    refine a_iload_n (pc' := 28) O dX11_readsPart_27 rfl 0 rfl rfl ?_
    refine a_i2l (pc' := 29) O dX11_readsPart_28 rfl rfl ?_
    refine a_iload_n (pc' := 30) O dX11_readsPart_29 rfl 2 rfl rfl ?_
    refine a_iconst (pc' := 31) (v := 2) O dX11_readsPart_30 (by decide) rfl ?_
    refine a_icmp_ne (pc' := 34) (tgt := 51) O dX11_readsPart_31 (by decide) rfl hf (fun hf => ?_) (fun hf => ?_)
    · refine a_lconst (pc' := 52) (v := 1) O dX11_readsPart_51 (by decide) rfl ?_
      exact a_sub [1, 2, 0] rfl (okBX11_readsPart_52 O k13 hk13 σ x1 v13 1 (v13.toInt64) hf)
    · refine a_aload_n (pc' := 35) O dX11_readsPart_34 rfl 1 rfl rfl ?_
      refine gfM_0_9 (pc' := 38) O dX11_readsPart_35 rfl ?_
      refine a_iconst (pc' := 39) (v := 3) O dX11_readsPart_38 (by decide) rfl ?_
      refine a_aload_n (pc' := 40) O dX11_readsPart_39 rfl 1 rfl rfl ?_
      refine gfM_0_8 (pc' := 43) O dX11_readsPart_40 rfl ?_
      refine a_imul (pc' := 44) O dX11_readsPart_43 rfl ?_
      refine a_iconst (pc' := 45) (v := 1) O dX11_readsPart_44 (by decide) rfl ?_
      refine a_iadd (pc' := 46) O dX11_readsPart_45 rfl ?_
      refine laM_7 (pc' := 47) O hf dX11_readsPart_46 rfl (fun hf => ?_)
      refine a_i2l (pc' := 48) O dX11_readsPart_47 rfl rfl ?_
      refine a_goto (tgt := 52) O dX11_readsPart_48 (by decide) ?_
      exact a_sub [1, 2, 0] rfl (okBX11_readsPart_52 O k13 hk13 σ x1 v13 ((σ.2.2 7 ((3 * (σ.1 8)) + 1).toNatClampNeg).toInt64) (v13.toInt64) hf)
def LX11_readsPart_13 : Nat → St → Int32 → Option (Int32 × St)
  | 0, _, _ => none
  | n + 1, σ, x1 => BX11_readsPart_13 (LX11_readsPart_13 n) σ x1
theorem okLX11_readsPart_13 {E : ET} {X : XT} {z : Int32 × St} (O : Ok (YM E) X cX11_readsPart 3 RX11 (some .boolean) rmX11_readsPart (some (.int z.1)) z.2) : ∀ (n : Nat) (σ : St) (x1 : Int32), LX11_readsPart_13 n σ x1 = some z → At (YM E) X 3 13 [(0, .ref (E.2.2.2.2 0)), (1, .int x1)] [] σ := by
  intro n
  induction n with
  | zero =>
    intro σ x1 hf
    rw [LX11_readsPart_13] at hf
    cases hf
  | succ n ih =>
    intro σ x1 hf
    rw [LX11_readsPart_13] at hf
    exact okBX11_readsPart_13 O (LX11_readsPart_13 n) ih σ x1 hf
def fX11_readsPart (σ : St) : Option (Int32 × St) :=
  if (σ.1 8) = 16 then some (0, σ) else (LX11_readsPart_13 fu σ 0)
set_option maxRecDepth 100000 in
theorem ctX11_readsPart {E : ET} (hE : Dj (YM E)) (σ : St) (z : Int32 × St) (hf : fX11_readsPart σ = some z) : Ct (YM E) yX11_readsPart cX11_readsPart 3 (some .boolean) rmX11_readsPart [.ref (E.2.2.2.2 0)] σ (some (.int z.1)) z.2 := by
  refine Ct.of hE (by decide) (Nat.le_of_ble_eq_true rfl) (fun X O => ?_)
  have O : Ok (YM E) X cX11_readsPart 3 RX11 (some .boolean) rmX11_readsPart (some (.int z.1)) z.2 := O
  show At (YM E) X 3 0 [(0, .ref (E.2.2.2.2 0))] [] σ
  unfold fX11_readsPart at hf
  refine a_aload_n (pc' := 1) O dX11_readsPart_0 rfl 0 rfl rfl ?_
  refine gfM_0_8 (pc' := 4) O dX11_readsPart_1 rfl ?_
  refine a_bipush (pc' := 6) (v := 16) O dX11_readsPart_4 (by decide) rfl ?_
  refine a_icmp_ne (pc' := 9) (tgt := 11) O dX11_readsPart_6 (by decide) rfl hf (fun hf => ?_) (fun hf => ?_)
  · refine a_iconst (pc' := 12) (v := 0) O dX11_readsPart_11 (by decide) rfl ?_
    refine a_istore_n (pc' := 13) (lv' := [(1, .int 0), (0, .ref (E.2.2.2.2 0))]) O dX11_readsPart_12 rfl (by decide) rfl rfl ?_
    exact a_sub [1, 0] rfl (okLX11_readsPart_13 O fu σ 0 hf)
  · refine a_iconst (pc' := 10) (v := 0) O dX11_readsPart_9 (by decide) rfl ?_
    exact a_zret (Or.inl rfl) O hf dX11_readsPart_10
def rmX11_readsCave : Room := { frames := 2, cells := 0, slots := 0, locals := 47 }
def BX11_readsCave_75 (σ : St) : Option (Int32 × St) :=
  bS (sI σ 8 0) (fun σ6 => some ((σ6.1 7), σ6))
set_option maxRecDepth 100000 in
theorem okBX11_readsCave_75 {E : ET} {X : XT} {z : Int32 × St} (O : Ok (YM E) X cX11_readsCave 3 RX11 (some .int) rmX11_readsCave (some (.int z.1)) z.2) (σ : St) (hf : BX11_readsCave_75 σ = some z) : At (YM E) X 3 75 [(0, .ref (E.2.2.2.2 0))] [] σ := by
  have hE := O.2.2.2.2.2.2.2.2.2.1
  unfold BX11_readsCave_75 at hf
  refine a_aload_n (pc' := 76) O dX11_readsCave_75 rfl 0 rfl rfl ?_
  refine a_iconst (pc' := 77) (v := 0) O dX11_readsCave_76 (by decide) rfl ?_
  refine pfM_0_8 (pc' := 80) O hf dX11_readsCave_77 rfl (fun σ6 hf => ?_)
  refine a_aload_n (pc' := 81) O dX11_readsCave_80 rfl 0 rfl rfl ?_
  refine gfM_0_7 (pc' := 84) O dX11_readsCave_81 rfl ?_
  exact a_iret O hf dX11_readsCave_84
def BX11_readsCave_85 (k25 : St → Int32 → Option (Int32 × St)) (σ : St) (x1 : Int32) : Option (Int32 × St) :=
  if x1 = 0 then bS (sI σ 7 ((σ.1 7) + 0)) (fun σ7 => k25 σ7 x1) else (bS (sI σ 7 ((σ.1 7) + 1)) (fun σ8 => k25 σ8 x1))
set_option maxRecDepth 100000 in
theorem okBX11_readsCave_85 {E : ET} {X : XT} {z : Int32 × St} (O : Ok (YM E) X cX11_readsCave 3 RX11 (some .int) rmX11_readsCave (some (.int z.1)) z.2) (k25 : St → Int32 → Option (Int32 × St)) (hk25 : ∀ (σ : St) (x1 : Int32), k25 σ x1 = some z → At (YM E) X 3 25 [(0, .ref (E.2.2.2.2 0)), (1, .int x1)] [] σ) (σ : St) (x1 : Int32) (hf : BX11_readsCave_85 k25 σ x1 = some z) : At (YM E) X 3 85 [(0, .ref (E.2.2.2.2 0)), (1, .int x1)] [] σ := by
  have hE := O.2.2.2.2.2.2.2.2.2.1
  unfold BX11_readsCave_85 at hf
  refine a_aload_n (pc' := 86) O dX11_readsCave_85 rfl 0 rfl rfl ?_
  refine a_dup (pc' := 87) O dX11_readsCave_86 rfl rfl ?_
  refine gfM_0_7 (pc' := 90) O dX11_readsCave_87 rfl ?_
  refine a_iload_n (pc' := 91) O dX11_readsCave_90 rfl 1 rfl rfl ?_
  refine a_if_eq (pc' := 94) (tgt := 98) O dX11_readsCave_91 (by decide) rfl hf (fun hf => ?_) (fun hf => ?_)
  · refine a_iconst (pc' := 99) (v := 0) O dX11_readsCave_98 (by decide) rfl ?_
    refine a_iadd (pc' := 100) O dX11_readsCave_99 rfl ?_
    refine pfM_0_7 (pc' := 103) O hf dX11_readsCave_100 rfl (fun σ7 hf => ?_)
    refine a_goto (tgt := 25) O dX11_readsCave_103 (by decide) ?_
    exact a_sub [0, 1] rfl (hk25 σ7 x1 hf)
  · refine a_iconst (pc' := 95) (v := 1) O dX11_readsCave_94 (by decide) rfl ?_
    refine a_goto (tgt := 99) O dX11_readsCave_95 (by decide) ?_
    refine a_iadd (pc' := 100) O dX11_readsCave_99 rfl ?_
    refine pfM_0_7 (pc' := 103) O hf dX11_readsCave_100 rfl (fun σ8 hf => ?_)
    refine a_goto (tgt := 25) O dX11_readsCave_103 (by decide) ?_
    exact a_sub [0, 1] rfl (hk25 σ8 x1 hf)
def BX11_readsCave_56 (k25 : St → Int32 → Option (Int32 × St)) (σ : St) (x2 : Int32) (y0 : Int32) : Option (Int32 × St) :=
  if x2 = 0 then BX11_readsCave_75 σ else (if y0 = 0 then BX11_readsCave_85 k25 σ y0 else ((fX11_here 0 σ).bind (fun z9 => if z9 = 59 then BX11_readsCave_85 k25 σ y0 else (BX11_readsCave_75 σ))))
set_option maxRecDepth 100000 in
theorem okBX11_readsCave_56 {E : ET} {X : XT} {z : Int32 × St} (O : Ok (YM E) X cX11_readsCave 3 RX11 (some .int) rmX11_readsCave (some (.int z.1)) z.2) (k25 : St → Int32 → Option (Int32 × St)) (hk25 : ∀ (σ : St) (x1 : Int32), k25 σ x1 = some z → At (YM E) X 3 25 [(0, .ref (E.2.2.2.2 0)), (1, .int x1)] [] σ) (σ : St) (x2 : Int32) (y0 : Int32) (hf : BX11_readsCave_56 k25 σ x2 y0 = some z) : At (YM E) X 3 56 [(0, .ref (E.2.2.2.2 0)), (2, .int x2)] [.int y0] σ := by
  have hE := O.2.2.2.2.2.2.2.2.2.1
  unfold BX11_readsCave_56 at hf
  refine a_istore_n (pc' := 57) (lv' := [(1, .int y0), (0, .ref (E.2.2.2.2 0)), (2, .int x2)]) O dX11_readsCave_56 rfl (by decide) rfl rfl ?_
  refine a_iload_n (pc' := 58) O dX11_readsCave_57 rfl 2 rfl rfl ?_
  refine a_if_eq (pc' := 61) (tgt := 75) O dX11_readsCave_58 (by decide) rfl hf (fun hf => ?_) (fun hf => ?_)
  · exact a_sub [1] rfl (okBX11_readsCave_75 O σ hf)
  · refine a_iload_n (pc' := 62) O dX11_readsCave_61 rfl 0 rfl rfl ?_
    refine a_if_eq (pc' := 65) (tgt := 85) O dX11_readsCave_62 (by decide) rfl hf (fun hf => ?_) (fun hf => ?_)
    · exact a_sub [1, 0] rfl (okBX11_readsCave_85 O k25 hk25 σ y0 hf)
    · refine a_aload_n (pc' := 66) O dX11_readsCave_65 rfl 1 rfl rfl ?_
      refine a_iconst (pc' := 67) (v := 0) O dX11_readsCave_66 (by decide) rfl ?_
      obtain ⟨z9, h10, hf⟩ := bd_some hf
      refine a_callVI (pc' := 70) (n := 1) (As := [.int 0]) (st := []) (q0 := 0) O (ctX11_here hE 0 σ z9 h10) wm_255 wm_256 wm_257 wm_5 wm_258 (by decide +kernel) (by decide) (gM_0 E _) hc_11 rfl rfl rfl (Nat.le_of_ble_eq_true rfl) dX11_readsCave_67 rfl ?_
      refine a_bipush (pc' := 72) (v := 59) O dX11_readsCave_70 (by decide) rfl ?_
      refine a_icmp_eq (pc' := 75) (tgt := 85) O dX11_readsCave_72 (by decide) rfl hf (fun hf => ?_) (fun hf => ?_)
      · exact a_sub [1, 0] rfl (okBX11_readsCave_85 O k25 hk25 σ y0 hf)
      · exact a_sub [1] rfl (okBX11_readsCave_75 O σ hf)
def BX11_readsCave_55 (k25 : St → Int32 → Option (Int32 × St)) (σ : St) (x2 : Int32) : Option (Int32 × St) :=
  BX11_readsCave_56 k25 σ x2 0
set_option maxRecDepth 100000 in
theorem okBX11_readsCave_55 {E : ET} {X : XT} {z : Int32 × St} (O : Ok (YM E) X cX11_readsCave 3 RX11 (some .int) rmX11_readsCave (some (.int z.1)) z.2) (k25 : St → Int32 → Option (Int32 × St)) (hk25 : ∀ (σ : St) (x1 : Int32), k25 σ x1 = some z → At (YM E) X 3 25 [(0, .ref (E.2.2.2.2 0)), (1, .int x1)] [] σ) (σ : St) (x2 : Int32) (hf : BX11_readsCave_55 k25 σ x2 = some z) : At (YM E) X 3 55 [(0, .ref (E.2.2.2.2 0)), (2, .int x2)] [] σ := by
  have hE := O.2.2.2.2.2.2.2.2.2.1
  unfold BX11_readsCave_55 at hf
  refine a_iconst (pc' := 56) (v := 0) O dX11_readsCave_55 (by decide) rfl ?_
  exact a_sub [0, 1] rfl (okBX11_readsCave_56 O k25 hk25 σ x2 0 hf)
def BX11_readsCave_25 (k25 : St → Int32 → Option (Int32 × St)) (σ : St) (x1 : Int32) : Option (Int32 × St) :=
  if x1 = 0 then some ((-1), σ) else ((fX11_readsPart σ).bind (fun z3 => bI z3.1 (fun v5 => if v5 = 0 then BX11_readsCave_55 k25 z3.2 v5 else (gIn 0 2 (if (z3.2.2.2 6 (0 : Int32).toNatClampNeg) ≤ (z3.2.1 7) then BX11_readsCave_55 k25 z3.2 v5 else (BX11_readsCave_56 k25 z3.2 v5 1))))))
set_option maxRecDepth 100000 in
theorem okBX11_readsCave_25 {E : ET} {X : XT} {z : Int32 × St} (O : Ok (YM E) X cX11_readsCave 3 RX11 (some .int) rmX11_readsCave (some (.int z.1)) z.2) (k25 : St → Int32 → Option (Int32 × St)) (hk25 : ∀ (σ : St) (x1 : Int32), k25 σ x1 = some z → At (YM E) X 3 25 [(0, .ref (E.2.2.2.2 0)), (1, .int x1)] [] σ) (σ : St) (x1 : Int32) (hf : BX11_readsCave_25 k25 σ x1 = some z) : At (YM E) X 3 25 [(0, .ref (E.2.2.2.2 0)), (1, .int x1)] [] σ := by
  have hE := O.2.2.2.2.2.2.2.2.2.1
  unfold BX11_readsCave_25 at hf
  refine a_iload_n (pc' := 26) O dX11_readsCave_25 rfl 1 rfl rfl ?_
  refine a_if_eq (pc' := 29) (tgt := 106) O dX11_readsCave_26 (by decide) rfl hf (fun hf => ?_) (fun hf => ?_)
  · refine a_iconst (pc' := 107) (v := (-1)) O dX11_readsCave_106 (by decide) rfl ?_
    exact a_iret O hf dX11_readsCave_107
  · refine a_aload_n (pc' := 30) O dX11_readsCave_29 rfl 0 rfl rfl ?_
    obtain ⟨z3, h4, hf⟩ := bd_some hf
    refine a_callVI (pc' := 33) (n := 0) (As := []) (st := []) (q0 := 0) O (ctX11_readsPart hE σ z3 h4) wm_250 wm_251 wm_252 wm_5 wm_253 (by decide +kernel) (by decide) (gM_0 E _) hc_11 rfl rfl rfl (Nat.le_of_ble_eq_true rfl) dX11_readsCave_30 rfl ?_
    refine a_topi hf (fun v5 hf => ?_)
    refine a_istore_n (pc' := 34) (lv' := [(2, .int v5), (0, .ref (E.2.2.2.2 0)), (1, .int x1)]) O dX11_readsCave_33 rfl (by decide) rfl rfl ?_
    refine a_iload_n (pc' := 35) O dX11_readsCave_34 rfl 0 rfl rfl ?_
    refine a_if_eq (pc' := 38) (tgt := 55) O dX11_readsCave_35 (by decide) rfl hf (fun hf => ?_) (fun hf => ?_)
    · exact a_sub [1, 0] rfl (okBX11_readsCave_55 O k25 hk25 z3.2 v5 hf)
    · refine a_aload_n (pc' := 39) O dX11_readsCave_38 rfl 1 rfl rfl ?_
      refine gfM_0_7 (pc' := 42) O dX11_readsCave_39 rfl ?_
      refine a_aload_n (pc' := 43) O dX11_readsCave_42 rfl 1 rfl rfl ?_
      refine gfM_0_6 (pc' := 46) O dX11_readsCave_43 rfl ?_
      refine a_iconst (pc' := 47) (v := 0) O dX11_readsCave_46 (by decide) rfl ?_
      refine laM_6 (pc' := 48) O hf dX11_readsCave_47 rfl (fun hf => ?_)
      refine a_icmp_ge (pc' := 51) (tgt := 55) O dX11_readsCave_48 (by decide) rfl hf (fun hf => ?_) (fun hf => ?_)
      · exact a_sub [1, 0] rfl (okBX11_readsCave_55 O k25 hk25 z3.2 v5 hf)
      · refine a_iconst (pc' := 52) (v := 1) O dX11_readsCave_51 (by decide) rfl ?_
        refine a_goto (tgt := 56) O dX11_readsCave_52 (by decide) ?_
        exact a_sub [1, 0] rfl (okBX11_readsCave_56 O k25 hk25 z3.2 v5 1 hf)
def LX11_readsCave_25 : Nat → St → Int32 → Option (Int32 × St)
  | 0, _, _ => none
  | n + 1, σ, x1 => BX11_readsCave_25 (LX11_readsCave_25 n) σ x1
theorem okLX11_readsCave_25 {E : ET} {X : XT} {z : Int32 × St} (O : Ok (YM E) X cX11_readsCave 3 RX11 (some .int) rmX11_readsCave (some (.int z.1)) z.2) : ∀ (n : Nat) (σ : St) (x1 : Int32), LX11_readsCave_25 n σ x1 = some z → At (YM E) X 3 25 [(0, .ref (E.2.2.2.2 0)), (1, .int x1)] [] σ := by
  intro n
  induction n with
  | zero =>
    intro σ x1 hf
    rw [LX11_readsCave_25] at hf
    cases hf
  | succ n ih =>
    intro σ x1 hf
    rw [LX11_readsCave_25] at hf
    exact okBX11_readsCave_25 O (LX11_readsCave_25 n) ih σ x1 hf
def fX11_readsCave (σ : St) : Option (Int32 × St) :=
  bS (sI σ 7 0) (fun σ1 => bS (sI σ1 8 0) (fun σ2 => gIn 0 2 (if (σ2.2.2 6 (0 : Int32).toNatClampNeg) ≤ 0 then LX11_readsCave_25 fu σ2 0 else (LX11_readsCave_25 fu σ2 1))))
set_option maxRecDepth 100000 in
theorem ctX11_readsCave {E : ET} (hE : Dj (YM E)) (σ : St) (z : Int32 × St) (hf : fX11_readsCave σ = some z) : Ct (YM E) yX11_readsCave cX11_readsCave 3 (some .int) rmX11_readsCave [.ref (E.2.2.2.2 0)] σ (some (.int z.1)) z.2 := by
  refine Ct.of hE (by decide) (Nat.le_of_ble_eq_true rfl) (fun X O => ?_)
  have O : Ok (YM E) X cX11_readsCave 3 RX11 (some .int) rmX11_readsCave (some (.int z.1)) z.2 := O
  show At (YM E) X 3 0 [(0, .ref (E.2.2.2.2 0))] [] σ
  unfold fX11_readsCave at hf
  refine a_aload_n (pc' := 1) O dX11_readsCave_0 rfl 0 rfl rfl ?_
  refine a_iconst (pc' := 2) (v := 0) O dX11_readsCave_1 (by decide) rfl ?_
  refine pfM_0_7 (pc' := 5) O hf dX11_readsCave_2 rfl (fun σ1 hf => ?_)
  refine a_aload_n (pc' := 6) O dX11_readsCave_5 rfl 0 rfl rfl ?_
  refine a_iconst (pc' := 7) (v := 0) O dX11_readsCave_6 (by decide) rfl ?_
  refine pfM_0_8 (pc' := 10) O hf dX11_readsCave_7 rfl (fun σ2 hf => ?_)
  refine a_aload_n (pc' := 11) O dX11_readsCave_10 rfl 0 rfl rfl ?_
  refine gfM_0_6 (pc' := 14) O dX11_readsCave_11 rfl ?_
  refine a_iconst (pc' := 15) (v := 0) O dX11_readsCave_14 (by decide) rfl ?_
  refine laM_6 (pc' := 16) O hf dX11_readsCave_15 rfl (fun hf => ?_)
  refine a_if_le (pc' := 19) (tgt := 23) O dX11_readsCave_16 (by decide) rfl hf (fun hf => ?_) (fun hf => ?_)
  · refine a_iconst (pc' := 24) (v := 0) O dX11_readsCave_23 (by decide) rfl ?_
    refine a_istore_n (pc' := 25) (lv' := [(1, .int 0), (0, .ref (E.2.2.2.2 0))]) O dX11_readsCave_24 rfl (by decide) rfl rfl ?_
    exact a_sub [1, 0] rfl (okLX11_readsCave_25 O fu σ2 0 hf)
  · refine a_iconst (pc' := 20) (v := 1) O dX11_readsCave_19 (by decide) rfl ?_
    refine a_goto (tgt := 24) O dX11_readsCave_20 (by decide) ?_
    refine a_istore_n (pc' := 25) (lv' := [(1, .int 1), (0, .ref (E.2.2.2.2 0))]) O dX11_readsCave_24 rfl (by decide) rfl rfl ?_
    exact a_sub [1, 0] rfl (okLX11_readsCave_25 O fu σ2 1 hf)
