def rmX11_leastOf : Room := { frames := 0, cells := 0, slots := 0, locals := 0 }
def BX11_leastOf_2 (k2 : Int32 → Int32 → Int32 → Option Int32) (x0 : Int32) (x1 : Int32) (x2 : Int32) : Option Int32 :=
  if 7 ≤ x2 then some (-1) else (if (x1 * x2) < (x0 * (x2 + 1)) then bI (x2 + 1) (fun v1 => k2 x0 x1 v1) else (some x2))
set_option maxRecDepth 100000 in
theorem okBX11_leastOf_2 {E : ET} {X : XT} {z : Int32} {σ : St} (O : Ok (YM E) X cX11_leastOf 3 RX11 (some .int) rmX11_leastOf (some (.int z)) σ) (k2 : Int32 → Int32 → Int32 → Option Int32) (hk2 : ∀ (x0 : Int32) (x1 : Int32) (x2 : Int32), k2 x0 x1 x2 = some z → At (YM E) X 3 2 [(0, .int x0), (1, .int x1), (2, .int x2)] [] σ) (x0 : Int32) (x1 : Int32) (x2 : Int32) (hf : BX11_leastOf_2 k2 x0 x1 x2 = some z) : At (YM E) X 3 2 [(0, .int x0), (1, .int x1), (2, .int x2)] [] σ := by
  have hE := O.2.2.2.2.2.2.2.2.2.1
  unfold BX11_leastOf_2 at hf
  refine a_iload_n (pc' := 3) O dX11_leastOf_2 rfl 2 rfl rfl ?_
  refine a_bipush (pc' := 5) (v := 7) O dX11_leastOf_3 (by decide) rfl ?_
  refine a_icmp_ge (pc' := 8) (tgt := 27) O dX11_leastOf_5 (by decide) rfl hf (fun hf => ?_) (fun hf => ?_)
  · refine a_iconst (pc' := 28) (v := (-1)) O dX11_leastOf_27 (by decide) rfl ?_
    exact a_iretP O hf dX11_leastOf_28
  · refine a_iload_n (pc' := 9) O dX11_leastOf_8 rfl 1 rfl rfl ?_
    refine a_iload_n (pc' := 10) O dX11_leastOf_9 rfl 2 rfl rfl ?_
    refine a_imul (pc' := 11) O dX11_leastOf_10 rfl ?_
    refine a_iload_n (pc' := 12) O dX11_leastOf_11 rfl 0 rfl rfl ?_
    refine a_iload_n (pc' := 13) O dX11_leastOf_12 rfl 2 rfl rfl ?_
    refine a_iconst (pc' := 14) (v := 1) O dX11_leastOf_13 (by decide) rfl ?_
    refine a_iadd (pc' := 15) O dX11_leastOf_14 rfl ?_
    refine a_imul (pc' := 16) O dX11_leastOf_15 rfl ?_
    refine a_icmp_lt (pc' := 19) (tgt := 21) O dX11_leastOf_16 (by decide) rfl hf (fun hf => ?_) (fun hf => ?_)
    · refine a_iincB (pc' := 24) (lv' := fun v1 => [(2, .int v1), (0, .int x0), (1, .int x1)]) (c0 := 1) O dX11_leastOf_21 2 rfl (by decide) (by decide) (fun _ => rfl) rfl hf (fun v1 hf => ?_)
      refine a_goto (tgt := 2) O dX11_leastOf_24 (by decide) ?_
      exact a_sub [1, 2, 0] rfl (hk2 x0 x1 v1 hf)
    · refine a_iload_n (pc' := 20) O dX11_leastOf_19 rfl 2 rfl rfl ?_
      exact a_iretP O hf dX11_leastOf_20
def LX11_leastOf_2 : Nat → Int32 → Int32 → Int32 → Option Int32
  | 0, _, _, _ => none
  | n + 1, x0, x1, x2 => BX11_leastOf_2 (LX11_leastOf_2 n) x0 x1 x2
theorem okLX11_leastOf_2 {E : ET} {X : XT} {z : Int32} {σ : St} (O : Ok (YM E) X cX11_leastOf 3 RX11 (some .int) rmX11_leastOf (some (.int z)) σ) : ∀ (n : Nat) (x0 : Int32) (x1 : Int32) (x2 : Int32), LX11_leastOf_2 n x0 x1 x2 = some z → At (YM E) X 3 2 [(0, .int x0), (1, .int x1), (2, .int x2)] [] σ := by
  intro n
  induction n with
  | zero =>
    intro x0 x1 x2 hf
    rw [LX11_leastOf_2] at hf
    cases hf
  | succ n ih =>
    intro x0 x1 x2 hf
    rw [LX11_leastOf_2] at hf
    exact okBX11_leastOf_2 O (LX11_leastOf_2 n) ih x0 x1 x2 hf
def fX11_leastOf (a0 : Int32) (a1 : Int32) : Option Int32 :=
  LX11_leastOf_2 fu a0 a1 1
set_option maxRecDepth 100000 in
theorem ctX11_leastOf {E : ET} (hE : Dj (YM E)) (a0 : Int32) (a1 : Int32) (σ : St) (z : Int32) (hf : fX11_leastOf a0 a1 = some z) : Ct (YM E) yX11_leastOf cX11_leastOf 3 (some .int) rmX11_leastOf [.int a0, .int a1] σ (some (.int z)) σ := by
  refine Ct.of hE (by decide) (Nat.le_of_ble_eq_true rfl) (fun X O => ?_)
  have O : Ok (YM E) X cX11_leastOf 3 RX11 (some .int) rmX11_leastOf (some (.int z)) σ := O
  show At (YM E) X 3 0 [(0, .int a0), (1, .int a1)] [] σ
  unfold fX11_leastOf at hf
  refine a_iconst (pc' := 1) (v := 1) O dX11_leastOf_0 (by decide) rfl ?_
  refine a_istore_n (pc' := 2) (lv' := [(2, .int 1), (0, .int a0), (1, .int a1)]) O dX11_leastOf_1 rfl (by decide) rfl rfl ?_
  exact a_sub [1, 2, 0] rfl (okLX11_leastOf_2 O fu a0 a1 1 hf)
def rmX11_least : Room := { frames := 1, cells := 0, slots := 0, locals := 25 }
def fX11_least (a0 : Int32) (a1 : Int32) : Option Int32 :=
  (fX11_in (a0.toInt64) 1 999).bind (fun z1 => if z1 = 0 then some (-2) else ((fX11_in (a1.toInt64) 1 999).bind (fun z3 => if z3 = 0 then some (-2) else ((fX11_leastOf a0 a1).bind (fun z5 => some z5)))))
set_option maxRecDepth 100000 in
theorem ctX11_least {E : ET} (hE : Dj (YM E)) (a0 : Int32) (a1 : Int32) (σ : St) (z : Int32) (hf : fX11_least a0 a1 = some z) : Ct (YM E) yX11_least cX11_least 3 (some .int) rmX11_least [.ref (E.2.2.2.2 0), .int a0, .int a1] σ (some (.int z)) σ := by
  refine Ct.of hE (by decide) (Nat.le_of_ble_eq_true rfl) (fun X O => ?_)
  have O : Ok (YM E) X cX11_least 3 RX11 (some .int) rmX11_least (some (.int z)) σ := O
  show At (YM E) X 3 0 [(0, .ref (E.2.2.2.2 0)), (1, .int a0), (2, .int a1)] [] σ
  unfold fX11_least at hf
  refine a_iload_n (pc' := 1) O dX11_least_0 rfl 1 rfl rfl ?_
  refine a_i2l (pc' := 2) O dX11_least_1 rfl rfl ?_
  refine a_lconst (pc' := 3) (v := 1) O dX11_least_2 (by decide) rfl ?_
  refine a_ldc2 (pc' := 6) (v := 999) O wm_327 dX11_least_3 rfl ?_
  obtain ⟨z1, h2, hf⟩ := bd_some hf
  refine a_callSI (pc' := 9) (n := 3) (As := [.long (a0.toInt64), .long 1, .long 999]) (st := []) O (ctX11_in hE (a0.toInt64) 1 999 σ z1 h2) wm_201 wm_202 wm_5 wm_203 (by decide +kernel) (by decide) rfl rfl (Nat.le_of_ble_eq_true rfl) dX11_least_6 rfl ?_
  refine a_if_eq (pc' := 12) (tgt := 32) O dX11_least_9 (by decide) rfl hf (fun hf => ?_) (fun hf => ?_)
  · refine a_bipush (pc' := 34) (v := (-2)) O dX11_least_32 (by decide) rfl ?_
    exact a_iretP O hf dX11_least_34
  · refine a_iload_n (pc' := 13) O dX11_least_12 rfl 2 rfl rfl ?_
    refine a_i2l (pc' := 14) O dX11_least_13 rfl rfl ?_
    refine a_lconst (pc' := 15) (v := 1) O dX11_least_14 (by decide) rfl ?_
    refine a_ldc2 (pc' := 18) (v := 999) O wm_327 dX11_least_15 rfl ?_
    obtain ⟨z3, h4, hf⟩ := bd_some hf
    refine a_callSI (pc' := 21) (n := 3) (As := [.long (a1.toInt64), .long 1, .long 999]) (st := []) O (ctX11_in hE (a1.toInt64) 1 999 σ z3 h4) wm_201 wm_202 wm_5 wm_203 (by decide +kernel) (by decide) rfl rfl (Nat.le_of_ble_eq_true rfl) dX11_least_18 rfl ?_
    refine a_if_eq (pc' := 24) (tgt := 32) O dX11_least_21 (by decide) rfl hf (fun hf => ?_) (fun hf => ?_)
    · refine a_bipush (pc' := 34) (v := (-2)) O dX11_least_32 (by decide) rfl ?_
      exact a_iretP O hf dX11_least_34
    · refine a_iload_n (pc' := 25) O dX11_least_24 rfl 1 rfl rfl ?_
      refine a_iload_n (pc' := 26) O dX11_least_25 rfl 2 rfl rfl ?_
      obtain ⟨z5, h6, hf⟩ := bd_some hf
      refine a_callSI (pc' := 29) (n := 2) (As := [.int a0, .int a1]) (st := []) O (ctX11_leastOf hE a0 a1 σ z5 h6) wm_707 wm_708 wm_5 wm_709 (by decide +kernel) (by decide) rfl rfl (Nat.le_of_ble_eq_true rfl) dX11_least_26 rfl ?_
      refine a_goto (tgt := 34) O dX11_least_29 (by decide) ?_
      exact a_iretP O hf dX11_least_34
def rmX11_sixteenths : Room := { frames := 0, cells := 0, slots := 0, locals := 0 }
def BX11_sixteenths_4 (k4 : Int32 → Int32 → Option Int32) (σ : St) (x1 : Int32) (x2 : Int32) : Option Int32 :=
  if (σ.1 20) ≤ x2 then some x1 else (gIn (2 * x2) 12 (bI (x1 + (σ.2.2 13 (2 * x2).toNatClampNeg)) (fun v1 => bI (x2 + 1) (fun v2 => k4 v1 v2))))
set_option maxRecDepth 100000 in
theorem okBX11_sixteenths_4 {E : ET} {X : XT} {z : Int32} {σ : St} (O : Ok (YM E) X cX11_sixteenths 3 RX11 (some .int) rmX11_sixteenths (some (.int z)) σ) (k4 : Int32 → Int32 → Option Int32) (hk4 : ∀ (x1 : Int32) (x2 : Int32), k4 x1 x2 = some z → At (YM E) X 3 4 [(0, .ref (E.2.2.2.2 0)), (1, .int x1), (2, .int x2)] [] σ) (x1 : Int32) (x2 : Int32) (hf : BX11_sixteenths_4 k4 σ x1 x2 = some z) : At (YM E) X 3 4 [(0, .ref (E.2.2.2.2 0)), (1, .int x1), (2, .int x2)] [] σ := by
  have hE := O.2.2.2.2.2.2.2.2.2.1
  unfold BX11_sixteenths_4 at hf
  refine a_iload_n (pc' := 5) O dX11_sixteenths_4 rfl 2 rfl rfl ?_
  refine a_aload_n (pc' := 6) O dX11_sixteenths_5 rfl 0 rfl rfl ?_
  refine gfM_0_20 (pc' := 9) O dX11_sixteenths_6 rfl ?_
  refine a_icmp_ge (pc' := 12) (tgt := 29) O dX11_sixteenths_9 (by decide) rfl hf (fun hf => ?_) (fun hf => ?_)
  · refine a_iload_n (pc' := 30) O dX11_sixteenths_29 rfl 1 rfl rfl ?_
    exact a_iretP O hf dX11_sixteenths_30
  · refine a_iload_n (pc' := 13) O dX11_sixteenths_12 rfl 1 rfl rfl ?_
    refine a_aload_n (pc' := 14) O dX11_sixteenths_13 rfl 0 rfl rfl ?_
    refine gfM_0_21 (pc' := 17) O dX11_sixteenths_14 rfl ?_
    refine a_iconst (pc' := 18) (v := 2) O dX11_sixteenths_17 (by decide) rfl ?_
    refine a_iload_n (pc' := 19) O dX11_sixteenths_18 rfl 2 rfl rfl ?_
    refine a_imul (pc' := 20) O dX11_sixteenths_19 rfl ?_
    refine laM_13 (pc' := 21) O hf dX11_sixteenths_20 rfl (fun hf => ?_)
    refine a_iadd (pc' := 22) O dX11_sixteenths_21 rfl ?_
    refine a_topi hf (fun v1 hf => ?_)
    refine a_istore_n (pc' := 23) (lv' := [(1, .int v1), (0, .ref (E.2.2.2.2 0)), (2, .int x2)]) O dX11_sixteenths_22 rfl (by decide) rfl rfl ?_
    refine a_iincB (pc' := 26) (lv' := fun v2 => [(2, .int v2), (1, .int v1), (0, .ref (E.2.2.2.2 0))]) (c0 := 1) O dX11_sixteenths_23 2 rfl (by decide) (by decide) (fun _ => rfl) rfl hf (fun v2 hf => ?_)
    refine a_goto (tgt := 4) O dX11_sixteenths_26 (by decide) ?_
    exact a_sub [2, 1, 0] rfl (hk4 v1 v2 hf)
def LX11_sixteenths_4 (σ : St) : Nat → Int32 → Int32 → Option Int32
  | 0, _, _ => none
  | n + 1, x1, x2 => BX11_sixteenths_4 (LX11_sixteenths_4 σ n) σ x1 x2
theorem okLX11_sixteenths_4 {E : ET} {X : XT} {z : Int32} {σ : St} (O : Ok (YM E) X cX11_sixteenths 3 RX11 (some .int) rmX11_sixteenths (some (.int z)) σ) : ∀ (n : Nat) (x1 : Int32) (x2 : Int32), LX11_sixteenths_4 σ n x1 x2 = some z → At (YM E) X 3 4 [(0, .ref (E.2.2.2.2 0)), (1, .int x1), (2, .int x2)] [] σ := by
  intro n
  induction n with
  | zero =>
    intro x1 x2 hf
    rw [LX11_sixteenths_4] at hf
    cases hf
  | succ n ih =>
    intro x1 x2 hf
    rw [LX11_sixteenths_4] at hf
    exact okBX11_sixteenths_4 O (LX11_sixteenths_4 σ n) ih x1 x2 hf
def fX11_sixteenths (σ : St) : Option Int32 :=
  LX11_sixteenths_4 σ fu 0 0
set_option maxRecDepth 100000 in
theorem ctX11_sixteenths {E : ET} (hE : Dj (YM E)) (σ : St) (z : Int32) (hf : fX11_sixteenths σ = some z) : Ct (YM E) yX11_sixteenths cX11_sixteenths 3 (some .int) rmX11_sixteenths [.ref (E.2.2.2.2 0)] σ (some (.int z)) σ := by
  refine Ct.of hE (by decide) (Nat.le_of_ble_eq_true rfl) (fun X O => ?_)
  have O : Ok (YM E) X cX11_sixteenths 3 RX11 (some .int) rmX11_sixteenths (some (.int z)) σ := O
  show At (YM E) X 3 0 [(0, .ref (E.2.2.2.2 0))] [] σ
  unfold fX11_sixteenths at hf
  refine a_iconst (pc' := 1) (v := 0) O dX11_sixteenths_0 (by decide) rfl ?_
  refine a_istore_n (pc' := 2) (lv' := [(1, .int 0), (0, .ref (E.2.2.2.2 0))]) O dX11_sixteenths_1 rfl (by decide) rfl rfl ?_
  refine a_iconst (pc' := 3) (v := 0) O dX11_sixteenths_2 (by decide) rfl ?_
  refine a_istore_n (pc' := 4) (lv' := [(2, .int 0), (1, .int 0), (0, .ref (E.2.2.2.2 0))]) O dX11_sixteenths_3 rfl (by decide) rfl rfl ?_
  exact a_sub [2, 1, 0] rfl (okLX11_sixteenths_4 O fu 0 0 hf)
def rmX11_side : Room := { frames := 1, cells := 0, slots := 0, locals := 25 }
def fX11_side (a0 : Int32) (a1 : Int32) (σ : St) : Option (Int32 × St) :=
  (fX11_in (a0.toInt64) 0 16).bind (fun z1 => if z1 = 0 then some ((-2), σ) else ((fX11_in (a1.toInt64) 1 99).bind (fun z3 => if z3 = 0 then some ((-2), σ) else (if (σ.1 20) = 6 then some ((-4), σ) else ((fX11_sixteenths σ).bind (fun z5 => if (z5 + a0) ≤ 16 then gIn (2 * (σ.1 20)) 12 (bS (sA σ 13 (2 * (σ.1 20)).toNatClampNeg a0) (fun σ7 => gIn ((2 * (σ7.1 20)) + 1) 12 (bS (sA σ7 13 ((2 * (σ7.1 20)) + 1).toNatClampNeg a1) (fun σ8 => bS (sI σ8 20 ((σ8.1 20) + 1)) (fun σ9 => some ((σ9.1 20), σ9)))))) else (some ((-4), σ))))))))
set_option maxRecDepth 100000 in
theorem ctX11_side {E : ET} (hE : Dj (YM E)) (a0 : Int32) (a1 : Int32) (σ : St) (z : Int32 × St) (hf : fX11_side a0 a1 σ = some z) : Ct (YM E) yX11_side cX11_side 3 (some .int) rmX11_side [.ref (E.2.2.2.2 0), .int a0, .int a1] σ (some (.int z.1)) z.2 := by
  refine Ct.of hE (by decide) (Nat.le_of_ble_eq_true rfl) (fun X O => ?_)
  have O : Ok (YM E) X cX11_side 3 RX11 (some .int) rmX11_side (some (.int z.1)) z.2 := O
  show At (YM E) X 3 0 [(0, .ref (E.2.2.2.2 0)), (1, .int a0), (2, .int a1)] [] σ
  unfold fX11_side at hf
  refine a_iload_n (pc' := 1) O dX11_side_0 rfl 1 rfl rfl ?_
  refine a_i2l (pc' := 2) O dX11_side_1 rfl rfl ?_
  refine a_lconst (pc' := 3) (v := 0) O dX11_side_2 (by decide) rfl ?_
  refine a_ldc2 (pc' := 6) (v := 16) O wm_738 dX11_side_3 rfl ?_
  obtain ⟨z1, h2, hf⟩ := bd_some hf
  refine a_callSI (pc' := 9) (n := 3) (As := [.long (a0.toInt64), .long 0, .long 16]) (st := []) O (ctX11_in hE (a0.toInt64) 0 16 σ z1 h2) wm_201 wm_202 wm_5 wm_203 (by decide +kernel) (by decide) rfl rfl (Nat.le_of_ble_eq_true rfl) dX11_side_6 rfl ?_
  refine a_if_eq (pc' := 12) (tgt := 24) O dX11_side_9 (by decide) rfl hf (fun hf => ?_) (fun hf => ?_)
  · refine a_bipush (pc' := 26) (v := (-2)) O dX11_side_24 (by decide) rfl ?_
    exact a_iret O hf dX11_side_26
  · refine a_iload_n (pc' := 13) O dX11_side_12 rfl 2 rfl rfl ?_
    refine a_i2l (pc' := 14) O dX11_side_13 rfl rfl ?_
    refine a_lconst (pc' := 15) (v := 1) O dX11_side_14 (by decide) rfl ?_
    refine a_ldc2 (pc' := 18) (v := 99) O wm_739 dX11_side_15 rfl ?_
    obtain ⟨z3, h4, hf⟩ := bd_some hf
    refine a_callSI (pc' := 21) (n := 3) (As := [.long (a1.toInt64), .long 1, .long 99]) (st := []) O (ctX11_in hE (a1.toInt64) 1 99 σ z3 h4) wm_201 wm_202 wm_5 wm_203 (by decide +kernel) (by decide) rfl rfl (Nat.le_of_ble_eq_true rfl) dX11_side_18 rfl ?_
    refine a_if_ne (pc' := 24) (tgt := 27) O dX11_side_21 (by decide) rfl hf (fun hf => ?_) (fun hf => ?_)
    · refine a_aload_n (pc' := 28) O dX11_side_27 rfl 0 rfl rfl ?_
      refine gfM_0_20 (pc' := 31) O dX11_side_28 rfl ?_
      refine a_bipush (pc' := 33) (v := 6) O dX11_side_31 (by decide) rfl ?_
      refine a_icmp_eq (pc' := 36) (tgt := 47) O dX11_side_33 (by decide) rfl hf (fun hf => ?_) (fun hf => ?_)
      · refine a_bipush (pc' := 49) (v := (-4)) O dX11_side_47 (by decide) rfl ?_
        exact a_iret O hf dX11_side_49
      · refine a_aload_n (pc' := 37) O dX11_side_36 rfl 0 rfl rfl ?_
        obtain ⟨z5, h6, hf⟩ := bd_some hf
        refine a_callVI (pc' := 40) (n := 0) (As := []) (st := []) (q0 := 0) O (ctX11_sixteenths hE σ z5 h6) wm_741 wm_742 wm_743 wm_5 wm_744 (by decide +kernel) (by decide) (gM_0 E _) hc_11 rfl rfl rfl (Nat.le_of_ble_eq_true rfl) dX11_side_37 rfl ?_
        refine a_iload_n (pc' := 41) O dX11_side_40 rfl 1 rfl rfl ?_
        refine a_iadd (pc' := 42) O dX11_side_41 rfl ?_
        refine a_bipush (pc' := 44) (v := 16) O dX11_side_42 (by decide) rfl ?_
        refine a_icmp_le (pc' := 47) (tgt := 50) O dX11_side_44 (by decide) rfl hf (fun hf => ?_) (fun hf => ?_)
        · refine a_aload_n (pc' := 51) O dX11_side_50 rfl 0 rfl rfl ?_
          refine gfM_0_21 (pc' := 54) O dX11_side_51 rfl ?_
          refine a_iconst (pc' := 55) (v := 2) O dX11_side_54 (by decide) rfl ?_
          refine a_aload_n (pc' := 56) O dX11_side_55 rfl 0 rfl rfl ?_
          refine gfM_0_20 (pc' := 59) O dX11_side_56 rfl ?_
          refine a_imul (pc' := 60) O dX11_side_59 rfl ?_
          refine a_iload_n (pc' := 61) O dX11_side_60 rfl 1 rfl rfl ?_
          refine saM_13 (pc' := 62) O hf dX11_side_61 rfl (fun σ7 hf => ?_)
          refine a_aload_n (pc' := 63) O dX11_side_62 rfl 0 rfl rfl ?_
          refine gfM_0_21 (pc' := 66) O dX11_side_63 rfl ?_
          refine a_iconst (pc' := 67) (v := 2) O dX11_side_66 (by decide) rfl ?_
          refine a_aload_n (pc' := 68) O dX11_side_67 rfl 0 rfl rfl ?_
          refine gfM_0_20 (pc' := 71) O dX11_side_68 rfl ?_
          refine a_imul (pc' := 72) O dX11_side_71 rfl ?_
          refine a_iconst (pc' := 73) (v := 1) O dX11_side_72 (by decide) rfl ?_
          refine a_iadd (pc' := 74) O dX11_side_73 rfl ?_
          refine a_iload_n (pc' := 75) O dX11_side_74 rfl 2 rfl rfl ?_
          refine saM_13 (pc' := 76) O hf dX11_side_75 rfl (fun σ8 hf => ?_)
          refine a_aload_n (pc' := 77) O dX11_side_76 rfl 0 rfl rfl ?_
          refine a_dup (pc' := 78) O dX11_side_77 rfl rfl ?_
          refine gfM_0_20 (pc' := 81) O dX11_side_78 rfl ?_
          refine a_iconst (pc' := 82) (v := 1) O dX11_side_81 (by decide) rfl ?_
          refine a_iadd (pc' := 83) O dX11_side_82 rfl ?_
          refine pfM_0_20 (pc' := 86) O hf dX11_side_83 rfl (fun σ9 hf => ?_)
          refine a_aload_n (pc' := 87) O dX11_side_86 rfl 0 rfl rfl ?_
          refine gfM_0_20 (pc' := 90) O dX11_side_87 rfl ?_
          exact a_iret O hf dX11_side_90
        · refine a_bipush (pc' := 49) (v := (-4)) O dX11_side_47 (by decide) rfl ?_
          exact a_iret O hf dX11_side_49
    · refine a_bipush (pc' := 26) (v := (-2)) O dX11_side_24 (by decide) rfl ?_
      exact a_iret O hf dX11_side_26
def rmX11_gone : Room := { frames := 0, cells := 0, slots := 0, locals := 0 }
def fX11_gone (σ : St) : Option (Int32 × St) :=
  if (σ.1 20) = 0 then some ((-3), σ) else (bS (sI σ 20 ((σ.1 20) - 1)) (fun σ1 => some ((σ1.1 20), σ1)))
set_option maxRecDepth 100000 in
theorem ctX11_gone {E : ET} (hE : Dj (YM E)) (σ : St) (z : Int32 × St) (hf : fX11_gone σ = some z) : Ct (YM E) yX11_gone cX11_gone 1 (some .int) rmX11_gone [.ref (E.2.2.2.2 0)] σ (some (.int z.1)) z.2 := by
  refine Ct.of hE (by decide) (Nat.le_of_ble_eq_true rfl) (fun X O => ?_)
  have O : Ok (YM E) X cX11_gone 1 RX11 (some .int) rmX11_gone (some (.int z.1)) z.2 := O
  show At (YM E) X 1 0 [(0, .ref (E.2.2.2.2 0))] [] σ
  unfold fX11_gone at hf
  refine a_aload_n (pc' := 1) O dX11_gone_0 rfl 0 rfl rfl ?_
  refine gfM_0_20 (pc' := 4) O dX11_gone_1 rfl ?_
  refine a_if_ne (pc' := 7) (tgt := 10) O dX11_gone_4 (by decide) rfl hf (fun hf => ?_) (fun hf => ?_)
  · refine a_aload_n (pc' := 11) O dX11_gone_10 rfl 0 rfl rfl ?_
    refine a_dup (pc' := 12) O dX11_gone_11 rfl rfl ?_
    refine gfM_0_20 (pc' := 15) O dX11_gone_12 rfl ?_
    refine a_iconst (pc' := 16) (v := 1) O dX11_gone_15 (by decide) rfl ?_
    refine a_isub (pc' := 17) O dX11_gone_16 rfl ?_
    refine pfM_0_20 (pc' := 20) O hf dX11_gone_17 rfl (fun σ1 hf => ?_)
    refine a_aload_n (pc' := 21) O dX11_gone_20 rfl 0 rfl rfl ?_
    refine gfM_0_20 (pc' := 24) O dX11_gone_21 rfl ?_
    exact a_iret O hf dX11_gone_24
  · refine a_bipush (pc' := 9) (v := (-3)) O dX11_gone_7 (by decide) rfl ?_
    exact a_iret O hf dX11_gone_9
def rmX11_findOrder : Room := { frames := 1, cells := 0, slots := 0, locals := 21 }
def BX11_findOrder_108 (k4 : St → Int32 → Int32 → Option St) (σ : St) (x1 : Int32) (x2 : Int32) (x3 : Int32) : Option St :=
  gIn x2 6 (bS (sA σ 14 x2.toNatClampNeg x3) (fun σ1 => bI (x1 ||| (1 <<< (x3 &&& 31))) (fun v2 => bI (x2 + 1) (fun v3 => k4 σ1 v2 v3))))
set_option maxRecDepth 100000 in
theorem okBX11_findOrder_108 {E : ET} {X : XT} {z : St} (O : Ok (YM E) X cX11_findOrder 6 RX11 none rmX11_findOrder none z) (k4 : St → Int32 → Int32 → Option St) (hk4 : ∀ (σ : St) (x1 : Int32) (x2 : Int32), k4 σ x1 x2 = some z → At (YM E) X 6 4 [(0, .ref (E.2.2.2.2 0)), (1, .int x1), (2, .int x2)] [] σ) (σ : St) (x1 : Int32) (x2 : Int32) (x3 : Int32) (hf : BX11_findOrder_108 k4 σ x1 x2 x3 = some z) : At (YM E) X 6 108 [(0, .ref (E.2.2.2.2 0)), (1, .int x1), (2, .int x2), (3, .int x3)] [] σ := by
  have hE := O.2.2.2.2.2.2.2.2.2.1
  unfold BX11_findOrder_108 at hf
  refine a_aload_n (pc' := 109) O dX11_findOrder_108 rfl 0 rfl rfl ?_
  refine gfM_0_22 (pc' := 112) O dX11_findOrder_109 rfl ?_
  refine a_iload_n (pc' := 113) O dX11_findOrder_112 rfl 2 rfl rfl ?_
  refine a_iload_n (pc' := 114) O dX11_findOrder_113 rfl 3 rfl rfl ?_
  refine saM_14 (pc' := 115) O hf dX11_findOrder_114 rfl (fun σ1 hf => ?_)
  refine a_iload_n (pc' := 116) O dX11_findOrder_115 rfl 1 rfl rfl ?_
  refine a_iconst (pc' := 117) (v := 1) O dX11_findOrder_116 (by decide) rfl ?_
  refine a_iload_n (pc' := 118) O dX11_findOrder_117 rfl 3 rfl rfl ?_
  refine a_ishl (pc' := 119) O dX11_findOrder_118 rfl ?_
  refine a_ior (pc' := 120) O dX11_findOrder_119 rfl ?_
  refine a_topi hf (fun v2 hf => ?_)
  refine a_istore_n (pc' := 121) (lv' := [(1, .int v2), (0, .ref (E.2.2.2.2 0)), (2, .int x2), (3, .int x3)]) O dX11_findOrder_120 rfl (by decide) rfl rfl ?_
  refine a_iincB (pc' := 124) (lv' := fun v3 => [(2, .int v3), (1, .int v2), (0, .ref (E.2.2.2.2 0)), (3, .int x3)]) (c0 := 1) O dX11_findOrder_121 2 rfl (by decide) (by decide) (fun _ => rfl) rfl hf (fun v3 hf => ?_)
  refine a_goto (tgt := 4) O dX11_findOrder_124 (by decide) ?_
  exact a_sub [2, 1, 0] rfl (hk4 σ1 v2 v3 hf)
def BX11_findOrder_79 (k4 : St → Int32 → Int32 → Option St) (k17 : St → Int32 → Int32 → Int32 → Int32 → Option St) (σ : St) (x1 : Int32) (x2 : Int32) (x3 : Int32) (x4 : Int32) (y0 : Int32) : Option St :=
  (fX11_isIn x1 x4).bind (fun z4 => if z4 = 0 then if y0 = 0 then bI (x4 + 1) (fun v7 => k17 σ x1 x2 x3 v7) else (bI (x4 + 1) (fun v8 => k17 σ x1 x2 x4 v8)) else (bI (x4 + 1) (fun v6 => k17 σ x1 x2 x3 v6)))
set_option maxRecDepth 100000 in
theorem okBX11_findOrder_79 {E : ET} {X : XT} {z : St} (O : Ok (YM E) X cX11_findOrder 6 RX11 none rmX11_findOrder none z) (k4 : St → Int32 → Int32 → Option St) (hk4 : ∀ (σ : St) (x1 : Int32) (x2 : Int32), k4 σ x1 x2 = some z → At (YM E) X 6 4 [(0, .ref (E.2.2.2.2 0)), (1, .int x1), (2, .int x2)] [] σ) (k17 : St → Int32 → Int32 → Int32 → Int32 → Option St) (hk17 : ∀ (σ : St) (x1 : Int32) (x2 : Int32) (x3 : Int32) (x4 : Int32), k17 σ x1 x2 x3 x4 = some z → At (YM E) X 6 17 [(0, .ref (E.2.2.2.2 0)), (1, .int x1), (2, .int x2), (3, .int x3), (4, .int x4)] [] σ) (σ : St) (x1 : Int32) (x2 : Int32) (x3 : Int32) (x4 : Int32) (y0 : Int32) (hf : BX11_findOrder_79 k4 k17 σ x1 x2 x3 x4 y0 = some z) : At (YM E) X 6 79 [(0, .ref (E.2.2.2.2 0)), (1, .int x1), (2, .int x2), (3, .int x3), (4, .int x4)] [.int y0] σ := by
  have hE := O.2.2.2.2.2.2.2.2.2.1
  unfold BX11_findOrder_79 at hf
  refine a_istore (pc' := 81) (lv' := [(5, .int y0), (0, .ref (E.2.2.2.2 0)), (1, .int x1), (2, .int x2), (3, .int x3), (4, .int x4)]) O dX11_findOrder_79 (by decide) rfl rfl ?_
  refine a_iload_n (pc' := 82) O dX11_findOrder_81 rfl 2 rfl rfl ?_
  refine a_iload (pc' := 84) O dX11_findOrder_82 5 rfl rfl ?_
  obtain ⟨z4, h5, hf⟩ := bd_some hf
  refine a_callSI (pc' := 87) (n := 2) (As := [.int x1, .int x4]) (st := []) O (ctX11_isIn hE x1 x4 σ z4 h5) wm_682 wm_683 wm_5 wm_684 (by decide +kernel) (by decide) rfl rfl (Nat.le_of_ble_eq_true rfl) dX11_findOrder_84 rfl ?_
  refine a_if_ne (pc' := 90) (tgt := 100) O dX11_findOrder_87 (by decide) rfl hf (fun hf => ?_) (fun hf => ?_)
  · refine a_iload_n (pc' := 101) O dX11_findOrder_100 rfl 4 rfl rfl ?_
    refine a_istore_n (pc' := 102) (lv' := [(3, .int x3), (5, .int y0), (0, .ref (E.2.2.2.2 0)), (1, .int x1), (2, .int x2), (4, .int x4)]) O dX11_findOrder_101 rfl (by decide) rfl rfl ?_
    refine a_iincB (pc' := 105) (lv' := fun v6 => [(4, .int v6), (3, .int x3), (5, .int y0), (0, .ref (E.2.2.2.2 0)), (1, .int x1), (2, .int x2)]) (c0 := 1) O dX11_findOrder_102 5 rfl (by decide) (by decide) (fun _ => rfl) rfl hf (fun v6 hf => ?_)
    refine a_goto (tgt := 17) O dX11_findOrder_105 (by decide) ?_
    exact a_sub [3, 4, 5, 1, 0] rfl (hk17 σ x1 x2 x3 v6 hf)
  · refine a_iload (pc' := 92) O dX11_findOrder_90 0 rfl rfl ?_
    refine a_if_eq (pc' := 95) (tgt := 100) O dX11_findOrder_92 (by decide) rfl hf (fun hf => ?_) (fun hf => ?_)
    · refine a_iload_n (pc' := 101) O dX11_findOrder_100 rfl 4 rfl rfl ?_
      refine a_istore_n (pc' := 102) (lv' := [(3, .int x3), (5, .int y0), (0, .ref (E.2.2.2.2 0)), (1, .int x1), (2, .int x2), (4, .int x4)]) O dX11_findOrder_101 rfl (by decide) rfl rfl ?_
      refine a_iincB (pc' := 105) (lv' := fun v7 => [(4, .int v7), (3, .int x3), (5, .int y0), (0, .ref (E.2.2.2.2 0)), (1, .int x1), (2, .int x2)]) (c0 := 1) O dX11_findOrder_102 5 rfl (by decide) (by decide) (fun _ => rfl) rfl hf (fun v7 hf => ?_)
      refine a_goto (tgt := 17) O dX11_findOrder_105 (by decide) ?_
      exact a_sub [3, 4, 5, 1, 0] rfl (hk17 σ x1 x2 x3 v7 hf)
    · refine a_iload (pc' := 97) O dX11_findOrder_95 5 rfl rfl ?_
      refine a_goto (tgt := 101) O dX11_findOrder_97 (by decide) ?_
      refine a_istore_n (pc' := 102) (lv' := [(3, .int x4), (5, .int y0), (0, .ref (E.2.2.2.2 0)), (1, .int x1), (2, .int x2), (4, .int x4)]) O dX11_findOrder_101 rfl (by decide) rfl rfl ?_
      refine a_iincB (pc' := 105) (lv' := fun v8 => [(4, .int v8), (3, .int x4), (5, .int y0), (0, .ref (E.2.2.2.2 0)), (1, .int x1), (2, .int x2)]) (c0 := 1) O dX11_findOrder_102 5 rfl (by decide) (by decide) (fun _ => rfl) rfl hf (fun v8 hf => ?_)
      refine a_goto (tgt := 17) O dX11_findOrder_105 (by decide) ?_
      exact a_sub [3, 4, 5, 1, 0] rfl (hk17 σ x1 x2 x4 v8 hf)
def BX11_findOrder_74 (k4 : St → Int32 → Int32 → Option St) (k17 : St → Int32 → Int32 → Int32 → Int32 → Option St) (σ : St) (x1 : Int32) (x2 : Int32) (x3 : Int32) (x4 : Int32) : Option St :=
  BX11_findOrder_79 k4 k17 σ x1 x2 x3 x4 1
set_option maxRecDepth 100000 in
theorem okBX11_findOrder_74 {E : ET} {X : XT} {z : St} (O : Ok (YM E) X cX11_findOrder 6 RX11 none rmX11_findOrder none z) (k4 : St → Int32 → Int32 → Option St) (hk4 : ∀ (σ : St) (x1 : Int32) (x2 : Int32), k4 σ x1 x2 = some z → At (YM E) X 6 4 [(0, .ref (E.2.2.2.2 0)), (1, .int x1), (2, .int x2)] [] σ) (k17 : St → Int32 → Int32 → Int32 → Int32 → Option St) (hk17 : ∀ (σ : St) (x1 : Int32) (x2 : Int32) (x3 : Int32) (x4 : Int32), k17 σ x1 x2 x3 x4 = some z → At (YM E) X 6 17 [(0, .ref (E.2.2.2.2 0)), (1, .int x1), (2, .int x2), (3, .int x3), (4, .int x4)] [] σ) (σ : St) (x1 : Int32) (x2 : Int32) (x3 : Int32) (x4 : Int32) (hf : BX11_findOrder_74 k4 k17 σ x1 x2 x3 x4 = some z) : At (YM E) X 6 74 [(0, .ref (E.2.2.2.2 0)), (1, .int x1), (2, .int x2), (3, .int x3), (4, .int x4)] [] σ := by
  have hE := O.2.2.2.2.2.2.2.2.2.1
  unfold BX11_findOrder_74 at hf
  refine a_iconst (pc' := 75) (v := 1) O dX11_findOrder_74 (by decide) rfl ?_
  refine a_goto (tgt := 79) O dX11_findOrder_75 (by decide) ?_
  exact a_sub [0, 1, 2, 3, 4] rfl (okBX11_findOrder_79 O k4 hk4 k17 hk17 σ x1 x2 x3 x4 1 hf)
def BX11_findOrder_17 (k17 : St → Int32 → Int32 → Int32 → Int32 → Option St) (k4 : St → Int32 → Int32 → Option St) (σ : St) (x1 : Int32) (x2 : Int32) (x3 : Int32) (x4 : Int32) : Option St :=
  if (σ.1 20) ≤ x4 then BX11_findOrder_108 k4 σ x1 x2 x3 else (if x3 = (-1) then BX11_findOrder_74 k4 k17 σ x1 x2 x3 x4 else (gIn (2 * x4) 12 (gIn ((2 * x3) + 1) 12 (gIn (2 * x3) 12 (gIn ((2 * x4) + 1) 12 (if ((σ.2.2 13 (2 * x4).toNatClampNeg) * (σ.2.2 13 ((2 * x3) + 1).toNatClampNeg)) ≤ ((σ.2.2 13 (2 * x3).toNatClampNeg) * (σ.2.2 13 ((2 * x4) + 1).toNatClampNeg)) then BX11_findOrder_79 k4 k17 σ x1 x2 x3 x4 0 else (BX11_findOrder_74 k4 k17 σ x1 x2 x3 x4)))))))
set_option maxRecDepth 100000 in
theorem okBX11_findOrder_17 {E : ET} {X : XT} {z : St} (O : Ok (YM E) X cX11_findOrder 6 RX11 none rmX11_findOrder none z) (k17 : St → Int32 → Int32 → Int32 → Int32 → Option St) (hk17 : ∀ (σ : St) (x1 : Int32) (x2 : Int32) (x3 : Int32) (x4 : Int32), k17 σ x1 x2 x3 x4 = some z → At (YM E) X 6 17 [(0, .ref (E.2.2.2.2 0)), (1, .int x1), (2, .int x2), (3, .int x3), (4, .int x4)] [] σ) (k4 : St → Int32 → Int32 → Option St) (hk4 : ∀ (σ : St) (x1 : Int32) (x2 : Int32), k4 σ x1 x2 = some z → At (YM E) X 6 4 [(0, .ref (E.2.2.2.2 0)), (1, .int x1), (2, .int x2)] [] σ) (σ : St) (x1 : Int32) (x2 : Int32) (x3 : Int32) (x4 : Int32) (hf : BX11_findOrder_17 k17 k4 σ x1 x2 x3 x4 = some z) : At (YM E) X 6 17 [(0, .ref (E.2.2.2.2 0)), (1, .int x1), (2, .int x2), (3, .int x3), (4, .int x4)] [] σ := by
  have hE := O.2.2.2.2.2.2.2.2.2.1
  unfold BX11_findOrder_17 at hf
  refine a_iload (pc' := 19) O dX11_findOrder_17 4 rfl rfl ?_
  refine a_aload_n (pc' := 20) O dX11_findOrder_19 rfl 0 rfl rfl ?_
  refine gfM_0_20 (pc' := 23) O dX11_findOrder_20 rfl ?_
  refine a_icmp_ge (pc' := 26) (tgt := 108) O dX11_findOrder_23 (by decide) rfl hf (fun hf => ?_) (fun hf => ?_)
  · exact a_sub [0, 1, 2, 3] rfl (okBX11_findOrder_108 O k4 hk4 σ x1 x2 x3 hf)
  · refine a_iload_n (pc' := 27) O dX11_findOrder_26 rfl 3 rfl rfl ?_
    refine a_iconst (pc' := 28) (v := (-1)) O dX11_findOrder_27 (by decide) rfl ?_
    refine a_icmp_eq (pc' := 31) (tgt := 74) O dX11_findOrder_28 (by decide) rfl hf (fun hf => ?_) (fun hf => ?_)
    · exact a_sub [0, 1, 2, 3, 4] rfl (okBX11_findOrder_74 O k4 hk4 k17 hk17 σ x1 x2 x3 x4 hf)
    · refine a_aload_n (pc' := 32) O dX11_findOrder_31 rfl 0 rfl rfl ?_
      refine gfM_0_21 (pc' := 35) O dX11_findOrder_32 rfl ?_
      refine a_iconst (pc' := 36) (v := 2) O dX11_findOrder_35 (by decide) rfl ?_
      refine a_iload (pc' := 38) O dX11_findOrder_36 4 rfl rfl ?_
      refine a_imul (pc' := 39) O dX11_findOrder_38 rfl ?_
      refine laM_13 (pc' := 40) O hf dX11_findOrder_39 rfl (fun hf => ?_)
      refine a_aload_n (pc' := 41) O dX11_findOrder_40 rfl 0 rfl rfl ?_
      refine gfM_0_21 (pc' := 44) O dX11_findOrder_41 rfl ?_
      refine a_iconst (pc' := 45) (v := 2) O dX11_findOrder_44 (by decide) rfl ?_
      refine a_iload_n (pc' := 46) O dX11_findOrder_45 rfl 3 rfl rfl ?_
      refine a_imul (pc' := 47) O dX11_findOrder_46 rfl ?_
      refine a_iconst (pc' := 48) (v := 1) O dX11_findOrder_47 (by decide) rfl ?_
      refine a_iadd (pc' := 49) O dX11_findOrder_48 rfl ?_
      refine laM_13 (pc' := 50) O hf dX11_findOrder_49 rfl (fun hf => ?_)
      refine a_imul (pc' := 51) O dX11_findOrder_50 rfl ?_
      refine a_aload_n (pc' := 52) O dX11_findOrder_51 rfl 0 rfl rfl ?_
      refine gfM_0_21 (pc' := 55) O dX11_findOrder_52 rfl ?_
      refine a_iconst (pc' := 56) (v := 2) O dX11_findOrder_55 (by decide) rfl ?_
      refine a_iload_n (pc' := 57) O dX11_findOrder_56 rfl 3 rfl rfl ?_
      refine a_imul (pc' := 58) O dX11_findOrder_57 rfl ?_
      refine laM_13 (pc' := 59) O hf dX11_findOrder_58 rfl (fun hf => ?_)
      refine a_aload_n (pc' := 60) O dX11_findOrder_59 rfl 0 rfl rfl ?_
      refine gfM_0_21 (pc' := 63) O dX11_findOrder_60 rfl ?_
      refine a_iconst (pc' := 64) (v := 2) O dX11_findOrder_63 (by decide) rfl ?_
      refine a_iload (pc' := 66) O dX11_findOrder_64 4 rfl rfl ?_
      refine a_imul (pc' := 67) O dX11_findOrder_66 rfl ?_
      refine a_iconst (pc' := 68) (v := 1) O dX11_findOrder_67 (by decide) rfl ?_
      refine a_iadd (pc' := 69) O dX11_findOrder_68 rfl ?_
      refine laM_13 (pc' := 70) O hf dX11_findOrder_69 rfl (fun hf => ?_)
      refine a_imul (pc' := 71) O dX11_findOrder_70 rfl ?_
      refine a_icmp_le (pc' := 74) (tgt := 78) O dX11_findOrder_71 (by decide) rfl hf (fun hf => ?_) (fun hf => ?_)
      · refine a_iconst (pc' := 79) (v := 0) O dX11_findOrder_78 (by decide) rfl ?_
        exact a_sub [0, 1, 2, 3, 4] rfl (okBX11_findOrder_79 O k4 hk4 k17 hk17 σ x1 x2 x3 x4 0 hf)
      · exact a_sub [0, 1, 2, 3, 4] rfl (okBX11_findOrder_74 O k4 hk4 k17 hk17 σ x1 x2 x3 x4 hf)
def LX11_findOrder_17 (k4 : St → Int32 → Int32 → Option St) : Nat → St → Int32 → Int32 → Int32 → Int32 → Option St
  | 0, _, _, _, _, _ => none
  | n + 1, σ, x1, x2, x3, x4 => BX11_findOrder_17 (LX11_findOrder_17 k4 n) k4 σ x1 x2 x3 x4
theorem okLX11_findOrder_17 {E : ET} {X : XT} {z : St} (O : Ok (YM E) X cX11_findOrder 6 RX11 none rmX11_findOrder none z) (k4 : St → Int32 → Int32 → Option St) (hk4 : ∀ (σ : St) (x1 : Int32) (x2 : Int32), k4 σ x1 x2 = some z → At (YM E) X 6 4 [(0, .ref (E.2.2.2.2 0)), (1, .int x1), (2, .int x2)] [] σ) : ∀ (n : Nat) (σ : St) (x1 : Int32) (x2 : Int32) (x3 : Int32) (x4 : Int32), LX11_findOrder_17 k4 n σ x1 x2 x3 x4 = some z → At (YM E) X 6 17 [(0, .ref (E.2.2.2.2 0)), (1, .int x1), (2, .int x2), (3, .int x3), (4, .int x4)] [] σ := by
  intro n
  induction n with
  | zero =>
    intro σ x1 x2 x3 x4 hf
    rw [LX11_findOrder_17] at hf
    cases hf
  | succ n ih =>
    intro σ x1 x2 x3 x4 hf
    rw [LX11_findOrder_17] at hf
    exact okBX11_findOrder_17 O (LX11_findOrder_17 k4 n) ih k4 hk4 σ x1 x2 x3 x4 hf
def BX11_findOrder_4 (k4 : St → Int32 → Int32 → Option St) (σ : St) (x1 : Int32) (x2 : Int32) : Option St :=
  if (σ.1 20) ≤ x2 then some σ else (LX11_findOrder_17 k4 fu σ x1 x2 (-1) 0)
set_option maxRecDepth 100000 in
theorem okBX11_findOrder_4 {E : ET} {X : XT} {z : St} (O : Ok (YM E) X cX11_findOrder 6 RX11 none rmX11_findOrder none z) (k4 : St → Int32 → Int32 → Option St) (hk4 : ∀ (σ : St) (x1 : Int32) (x2 : Int32), k4 σ x1 x2 = some z → At (YM E) X 6 4 [(0, .ref (E.2.2.2.2 0)), (1, .int x1), (2, .int x2)] [] σ) (σ : St) (x1 : Int32) (x2 : Int32) (hf : BX11_findOrder_4 k4 σ x1 x2 = some z) : At (YM E) X 6 4 [(0, .ref (E.2.2.2.2 0)), (1, .int x1), (2, .int x2)] [] σ := by
  have hE := O.2.2.2.2.2.2.2.2.2.1
  unfold BX11_findOrder_4 at hf
  refine a_iload_n (pc' := 5) O dX11_findOrder_4 rfl 2 rfl rfl ?_
  refine a_aload_n (pc' := 6) O dX11_findOrder_5 rfl 0 rfl rfl ?_
  refine gfM_0_20 (pc' := 9) O dX11_findOrder_6 rfl ?_
  refine a_icmp_ge (pc' := 12) (tgt := 127) O dX11_findOrder_9 (by decide) rfl hf (fun hf => ?_) (fun hf => ?_)
  · exact a_vret O hf dX11_findOrder_127
  · refine a_iconst (pc' := 13) (v := (-1)) O dX11_findOrder_12 (by decide) rfl ?_
    refine a_istore_n (pc' := 14) (lv' := [(3, .int (-1)), (0, .ref (E.2.2.2.2 0)), (1, .int x1), (2, .int x2)]) O dX11_findOrder_13 rfl (by decide) rfl rfl ?_
    refine a_iconst (pc' := 15) (v := 0) O dX11_findOrder_14 (by decide) rfl ?_
    refine a_istore (pc' := 17) (lv' := [(4, .int 0), (3, .int (-1)), (0, .ref (E.2.2.2.2 0)), (1, .int x1), (2, .int x2)]) O dX11_findOrder_15 (by decide) rfl rfl ?_
    exact a_sub [2, 3, 4, 1, 0] rfl (okLX11_findOrder_17 O k4 hk4 fu σ x1 x2 (-1) 0 hf)
def LX11_findOrder_4 : Nat → St → Int32 → Int32 → Option St
  | 0, _, _, _ => none
  | n + 1, σ, x1, x2 => BX11_findOrder_4 (LX11_findOrder_4 n) σ x1 x2
theorem okLX11_findOrder_4 {E : ET} {X : XT} {z : St} (O : Ok (YM E) X cX11_findOrder 6 RX11 none rmX11_findOrder none z) : ∀ (n : Nat) (σ : St) (x1 : Int32) (x2 : Int32), LX11_findOrder_4 n σ x1 x2 = some z → At (YM E) X 6 4 [(0, .ref (E.2.2.2.2 0)), (1, .int x1), (2, .int x2)] [] σ := by
  intro n
  induction n with
  | zero =>
    intro σ x1 x2 hf
    rw [LX11_findOrder_4] at hf
    cases hf
  | succ n ih =>
    intro σ x1 x2 hf
    rw [LX11_findOrder_4] at hf
    exact okBX11_findOrder_4 O (LX11_findOrder_4 n) ih σ x1 x2 hf
def fX11_findOrder (σ : St) : Option St :=
  LX11_findOrder_4 fu σ 0 0
set_option maxRecDepth 100000 in
theorem ctX11_findOrder {E : ET} (hE : Dj (YM E)) (σ : St) (z : St) (hf : fX11_findOrder σ = some z) : Ct (YM E) yX11_findOrder cX11_findOrder 6 none rmX11_findOrder [.ref (E.2.2.2.2 0)] σ none z := by
  refine Ct.of hE (by decide) (Nat.le_of_ble_eq_true rfl) (fun X O => ?_)
  have O : Ok (YM E) X cX11_findOrder 6 RX11 none rmX11_findOrder none z := O
  show At (YM E) X 6 0 [(0, .ref (E.2.2.2.2 0))] [] σ
  unfold fX11_findOrder at hf
  refine a_iconst (pc' := 1) (v := 0) O dX11_findOrder_0 (by decide) rfl ?_
  refine a_istore_n (pc' := 2) (lv' := [(1, .int 0), (0, .ref (E.2.2.2.2 0))]) O dX11_findOrder_1 rfl (by decide) rfl rfl ?_
  refine a_iconst (pc' := 3) (v := 0) O dX11_findOrder_2 (by decide) rfl ?_
  refine a_istore_n (pc' := 4) (lv' := [(2, .int 0), (1, .int 0), (0, .ref (E.2.2.2.2 0))]) O dX11_findOrder_3 rfl (by decide) rfl rfl ?_
  exact a_sub [2, 1, 0] rfl (okLX11_findOrder_4 O fu σ 0 0 hf)
def rmX11_firstOf : Room := { frames := 2, cells := 0, slots := 0, locals := 46 }
def fX11_firstOf (a0 : Int32) (σ : St) : Option (Int32 × St) :=
  (fX11_findOrder σ).bind (fun z1 => if (z1.1 20) ≤ a0 then some ((-1), z1) else (gIn a0 6 (some ((z1.2.2 14 a0.toNatClampNeg), z1))))
set_option maxRecDepth 100000 in
theorem ctX11_firstOf {E : ET} (hE : Dj (YM E)) (a0 : Int32) (σ : St) (z : Int32 × St) (hf : fX11_firstOf a0 σ = some z) : Ct (YM E) yX11_firstOf cX11_firstOf 2 (some .int) rmX11_firstOf [.ref (E.2.2.2.2 0), .int a0] σ (some (.int z.1)) z.2 := by
  refine Ct.of hE (by decide) (Nat.le_of_ble_eq_true rfl) (fun X O => ?_)
  have O : Ok (YM E) X cX11_firstOf 2 RX11 (some .int) rmX11_firstOf (some (.int z.1)) z.2 := O
  show At (YM E) X 2 0 [(0, .ref (E.2.2.2.2 0)), (1, .int a0)] [] σ
  unfold fX11_firstOf at hf
  refine a_aload_n (pc' := 1) O dX11_firstOf_0 rfl 0 rfl rfl ?_
  obtain ⟨z1, h2, hf⟩ := bd_some hf
  refine a_callVN (pc' := 4) (n := 0) (As := []) (st := []) (q0 := 0) O (ctX11_findOrder hE σ z1 h2) wm_774 wm_775 wm_776 wm_5 wm_777 (by decide +kernel) (by decide) (gM_0 E _) hc_11 rfl rfl rfl (Nat.le_of_ble_eq_true rfl) dX11_firstOf_1 rfl ?_
  refine a_iload_n (pc' := 5) O dX11_firstOf_4 rfl 1 rfl rfl ?_
  refine a_aload_n (pc' := 6) O dX11_firstOf_5 rfl 0 rfl rfl ?_
  refine gfM_0_20 (pc' := 9) O dX11_firstOf_6 rfl ?_
  refine a_icmp_ge (pc' := 12) (tgt := 21) O dX11_firstOf_9 (by decide) rfl hf (fun hf => ?_) (fun hf => ?_)
  · refine a_iconst (pc' := 22) (v := (-1)) O dX11_firstOf_21 (by decide) rfl ?_
    exact a_iret O hf dX11_firstOf_22
  · refine a_aload_n (pc' := 13) O dX11_firstOf_12 rfl 0 rfl rfl ?_
    refine gfM_0_22 (pc' := 16) O dX11_firstOf_13 rfl ?_
    refine a_iload_n (pc' := 17) O dX11_firstOf_16 rfl 1 rfl rfl ?_
    refine laM_14 (pc' := 18) O hf dX11_firstOf_17 rfl (fun hf => ?_)
    refine a_goto (tgt := 22) O dX11_firstOf_18 (by decide) ?_
    exact a_iret O hf dX11_firstOf_22
def rmX11_first : Room := { frames := 3, cells := 0, slots := 0, locals := 67 }
def fX11_first (a0 : Int32) (σ : St) : Option (Int32 × St) :=
  (fX11_in (a0.toInt64) 0 5).bind (fun z1 => if z1 = 0 then some ((-2), σ) else ((fX11_firstOf a0 σ).bind (fun z3 => some (z3.1, z3.2))))
set_option maxRecDepth 100000 in
theorem ctX11_first {E : ET} (hE : Dj (YM E)) (a0 : Int32) (σ : St) (z : Int32 × St) (hf : fX11_first a0 σ = some z) : Ct (YM E) yX11_first cX11_first 2 (some .int) rmX11_first [.ref (E.2.2.2.2 0), .int a0] σ (some (.int z.1)) z.2 := by
  refine Ct.of hE (by decide) (Nat.le_of_ble_eq_true rfl) (fun X O => ?_)
  have O : Ok (YM E) X cX11_first 2 RX11 (some .int) rmX11_first (some (.int z.1)) z.2 := O
  show At (YM E) X 2 0 [(0, .ref (E.2.2.2.2 0)), (1, .int a0)] [] σ
  unfold fX11_first at hf
  refine a_iload_n (pc' := 1) O dX11_first_0 rfl 1 rfl rfl ?_
  refine a_i2l (pc' := 2) O dX11_first_1 rfl rfl ?_
  refine a_lconst (pc' := 3) (v := 0) O dX11_first_2 (by decide) rfl ?_
  refine a_ldc2 (pc' := 6) (v := 5) O wm_769 dX11_first_3 rfl ?_
  obtain ⟨z1, h2, hf⟩ := bd_some hf
  refine a_callSI (pc' := 9) (n := 3) (As := [.long (a0.toInt64), .long 0, .long 5]) (st := []) O (ctX11_in hE (a0.toInt64) 0 5 σ z1 h2) wm_201 wm_202 wm_5 wm_203 (by decide +kernel) (by decide) rfl rfl (Nat.le_of_ble_eq_true rfl) dX11_first_6 rfl ?_
  refine a_if_eq (pc' := 12) (tgt := 20) O dX11_first_9 (by decide) rfl hf (fun hf => ?_) (fun hf => ?_)
  · refine a_bipush (pc' := 22) (v := (-2)) O dX11_first_20 (by decide) rfl ?_
    exact a_iret O hf dX11_first_22
  · refine a_aload_n (pc' := 13) O dX11_first_12 rfl 0 rfl rfl ?_
    refine a_iload_n (pc' := 14) O dX11_first_13 rfl 1 rfl rfl ?_
    obtain ⟨z3, h4, hf⟩ := bd_some hf
    refine a_callVI (pc' := 17) (n := 1) (As := [.int a0]) (st := []) (q0 := 0) O (ctX11_firstOf hE a0 σ z3 h4) wm_770 wm_771 wm_772 wm_5 wm_773 (by decide +kernel) (by decide) (gM_0 E _) hc_11 rfl rfl rfl (Nat.le_of_ble_eq_true rfl) dX11_first_14 rfl ?_
    refine a_goto (tgt := 22) O dX11_first_17 (by decide) ?_
    exact a_iret O hf dX11_first_22
def rmX11_meanOf : Room := { frames := 2, cells := 0, slots := 0, locals := 46 }
def BX11_meanOf_69 (σ : St) (x1 : Int32) (x2 : Int64) (x4 : Int32) : Option (Int64 × St) :=
  (fX11_sixteenths σ).bind (fun z3 => (fX11_part (x2 + (((16 - z3) * x4).toInt64)) 16 x1).bind (fun z5 => some (z5, σ)))
set_option maxRecDepth 100000 in
theorem okBX11_meanOf_69 {E : ET} {X : XT} {z : Int64 × St} (O : Ok (YM E) X cX11_meanOf 6 RX11 (some .long) rmX11_meanOf (some (.long z.1)) z.2) (σ : St) (x1 : Int32) (x2 : Int64) (x4 : Int32) (hf : BX11_meanOf_69 σ x1 x2 x4 = some z) : At (YM E) X 6 69 [(0, .ref (E.2.2.2.2 0)), (1, .int x1), (2, .long x2), (4, .int x4)] [] σ := by
  have hE := O.2.2.2.2.2.2.2.2.2.1
  unfold BX11_meanOf_69 at hf
  refine a_lload_n (pc' := 70) O dX11_meanOf_69 rfl 2 rfl rfl ?_
  refine a_bipush (pc' := 72) (v := 16) O dX11_meanOf_70 (by decide) rfl ?_
  refine a_aload_n (pc' := 73) O dX11_meanOf_72 rfl 0 rfl rfl ?_
  obtain ⟨z3, h4, hf⟩ := bd_some hf
  refine a_callVI (pc' := 76) (n := 0) (As := []) (st := [.int 16, .long x2]) (q0 := 0) O (ctX11_sixteenths hE σ z3 h4) wm_741 wm_742 wm_743 wm_5 wm_744 (by decide +kernel) (by decide) (gM_0 E _) hc_11 rfl rfl rfl (Nat.le_of_ble_eq_true rfl) dX11_meanOf_73 rfl ?_
  refine a_isub (pc' := 77) O dX11_meanOf_76 rfl ?_
  refine a_iload (pc' := 79) O dX11_meanOf_77 3 rfl rfl ?_
  refine a_imul (pc' := 80) O dX11_meanOf_79 rfl ?_
  refine a_i2l (pc' := 81) O dX11_meanOf_80 rfl rfl ?_
  refine a_ladd (pc' := 82) O dX11_meanOf_81 rfl ?_
  refine a_ldc2 (pc' := 85) (v := 16) O wm_738 dX11_meanOf_82 rfl ?_
  refine a_iload_n (pc' := 86) O dX11_meanOf_85 rfl 1 rfl rfl ?_
  obtain ⟨z5, h6, hf⟩ := bd_some hf
  refine a_callSL (pc' := 89) (n := 3) (As := [.long (x2 + (((16 - z3) * x4).toInt64)), .long 16, .int x1]) (st := []) O (ctX11_part hE (x2 + (((16 - z3) * x4).toInt64)) 16 x1 σ z5 h6) wm_430 wm_431 wm_5 wm_432 (by decide +kernel) (by decide) rfl rfl (Nat.le_of_ble_eq_true rfl) dX11_meanOf_86 rfl ?_
  exact a_lret O hf dX11_meanOf_89
def BX11_meanOf_12 (k12 : St → Int32 → Int64 → Int32 → Int32 → Option (Int64 × St)) (σ : St) (x1 : Int32) (x2 : Int64) (x4 : Int32) (x5 : Int32) : Option (Int64 × St) :=
  if (σ.1 20) ≤ x5 then BX11_meanOf_69 σ x1 x2 x4 else (gIn x5 6 (gIn ((2 * (σ.2.2 14 x5.toNatClampNeg)) + 1) 12 (bI (x4 + (σ.2.2 13 ((2 * (σ.2.2 14 x5.toNatClampNeg)) + 1).toNatClampNeg)) (fun v7 => gIn x5 6 (gIn (2 * (σ.2.2 14 x5.toNatClampNeg)) 12 (bL (x2 + (((σ.2.2 13 (2 * (σ.2.2 14 x5.toNatClampNeg)).toNatClampNeg) * v7).toInt64)) (fun v8 => bI (x5 + 1) (fun v9 => k12 σ x1 v8 v7 v9))))))))
set_option maxRecDepth 100000 in
theorem okBX11_meanOf_12 {E : ET} {X : XT} {z : Int64 × St} (O : Ok (YM E) X cX11_meanOf 6 RX11 (some .long) rmX11_meanOf (some (.long z.1)) z.2) (k12 : St → Int32 → Int64 → Int32 → Int32 → Option (Int64 × St)) (hk12 : ∀ (σ : St) (x1 : Int32) (x2 : Int64) (x4 : Int32) (x5 : Int32), k12 σ x1 x2 x4 x5 = some z → At (YM E) X 6 12 [(0, .ref (E.2.2.2.2 0)), (1, .int x1), (2, .long x2), (4, .int x4), (5, .int x5)] [] σ) (σ : St) (x1 : Int32) (x2 : Int64) (x4 : Int32) (x5 : Int32) (hf : BX11_meanOf_12 k12 σ x1 x2 x4 x5 = some z) : At (YM E) X 6 12 [(0, .ref (E.2.2.2.2 0)), (1, .int x1), (2, .long x2), (4, .int x4), (5, .int x5)] [] σ := by
  have hE := O.2.2.2.2.2.2.2.2.2.1
  unfold BX11_meanOf_12 at hf
  refine a_iload (pc' := 14) O dX11_meanOf_12 4 rfl rfl ?_
  refine a_aload_n (pc' := 15) O dX11_meanOf_14 rfl 0 rfl rfl ?_
  refine gfM_0_20 (pc' := 18) O dX11_meanOf_15 rfl ?_
  refine a_icmp_ge (pc' := 21) (tgt := 69) O dX11_meanOf_18 (by decide) rfl hf (fun hf => ?_) (fun hf => ?_)
  · exact a_sub [0, 1, 2, 3] rfl (okBX11_meanOf_69 O σ x1 x2 x4 hf)
  · refine a_iload (pc' := 23) O dX11_meanOf_21 3 rfl rfl ?_
    refine a_aload_n (pc' := 24) O dX11_meanOf_23 rfl 0 rfl rfl ?_
    refine gfM_0_21 (pc' := 27) O dX11_meanOf_24 rfl ?_
    refine a_iconst (pc' := 28) (v := 2) O dX11_meanOf_27 (by decide) rfl ?_
    refine a_aload_n (pc' := 29) O dX11_meanOf_28 rfl 0 rfl rfl ?_
    refine gfM_0_22 (pc' := 32) O dX11_meanOf_29 rfl ?_
    refine a_iload (pc' := 34) O dX11_meanOf_32 4 rfl rfl ?_
    refine laM_14 (pc' := 35) O hf dX11_meanOf_34 rfl (fun hf => ?_)
    refine a_imul (pc' := 36) O dX11_meanOf_35 rfl ?_
    refine a_iconst (pc' := 37) (v := 1) O dX11_meanOf_36 (by decide) rfl ?_
    refine a_iadd (pc' := 38) O dX11_meanOf_37 rfl ?_
    refine laM_13 (pc' := 39) O hf dX11_meanOf_38 rfl (fun hf => ?_)
    refine a_iadd (pc' := 40) O dX11_meanOf_39 rfl ?_
    refine a_topi hf (fun v7 hf => ?_)
    refine a_istore (pc' := 42) (lv' := [(4, .int v7), (0, .ref (E.2.2.2.2 0)), (1, .int x1), (2, .long x2), (5, .int x5)]) O dX11_meanOf_40 (by decide) rfl rfl ?_
    refine a_lload_n (pc' := 43) O dX11_meanOf_42 rfl 3 rfl rfl ?_
    refine a_aload_n (pc' := 44) O dX11_meanOf_43 rfl 1 rfl rfl ?_
    refine gfM_0_21 (pc' := 47) O dX11_meanOf_44 rfl ?_
    refine a_iconst (pc' := 48) (v := 2) O dX11_meanOf_47 (by decide) rfl ?_
    refine a_aload_n (pc' := 49) O dX11_meanOf_48 rfl 1 rfl rfl ?_
    refine gfM_0_22 (pc' := 52) O dX11_meanOf_49 rfl ?_
    refine a_iload (pc' := 54) O dX11_meanOf_52 4 rfl rfl ?_
    refine laM_14 (pc' := 55) O hf dX11_meanOf_54 rfl (fun hf => ?_)
    refine a_imul (pc' := 56) O dX11_meanOf_55 rfl ?_
    refine laM_13 (pc' := 57) O hf dX11_meanOf_56 rfl (fun hf => ?_)
    refine a_iload (pc' := 59) O dX11_meanOf_57 0 rfl rfl ?_
    refine a_imul (pc' := 60) O dX11_meanOf_59 rfl ?_
    refine a_i2l (pc' := 61) O dX11_meanOf_60 rfl rfl ?_
    refine a_ladd (pc' := 62) O dX11_meanOf_61 rfl ?_
    refine a_topl hf (fun v8 hf => ?_)
    refine a_lstore_n (pc' := 63) (lv' := [(2, .long v8), (4, .int v7), (0, .ref (E.2.2.2.2 0)), (1, .int x1), (5, .int x5)]) O dX11_meanOf_62 rfl (by decide) rfl rfl ?_
    refine a_iincB (pc' := 66) (lv' := fun v9 => [(5, .int v9), (2, .long v8), (4, .int v7), (0, .ref (E.2.2.2.2 0)), (1, .int x1)]) (c0 := 1) O dX11_meanOf_63 4 rfl (by decide) (by decide) (fun _ => rfl) rfl hf (fun v9 hf => ?_)
    refine a_goto (tgt := 12) O dX11_meanOf_66 (by decide) ?_
    exact a_sub [3, 4, 1, 2, 0] rfl (hk12 σ x1 v8 v7 v9 hf)
def LX11_meanOf_12 : Nat → St → Int32 → Int64 → Int32 → Int32 → Option (Int64 × St)
  | 0, _, _, _, _, _ => none
  | n + 1, σ, x1, x2, x4, x5 => BX11_meanOf_12 (LX11_meanOf_12 n) σ x1 x2 x4 x5
theorem okLX11_meanOf_12 {E : ET} {X : XT} {z : Int64 × St} (O : Ok (YM E) X cX11_meanOf 6 RX11 (some .long) rmX11_meanOf (some (.long z.1)) z.2) : ∀ (n : Nat) (σ : St) (x1 : Int32) (x2 : Int64) (x4 : Int32) (x5 : Int32), LX11_meanOf_12 n σ x1 x2 x4 x5 = some z → At (YM E) X 6 12 [(0, .ref (E.2.2.2.2 0)), (1, .int x1), (2, .long x2), (4, .int x4), (5, .int x5)] [] σ := by
  intro n
  induction n with
  | zero =>
    intro σ x1 x2 x4 x5 hf
    rw [LX11_meanOf_12] at hf
    cases hf
  | succ n ih =>
    intro σ x1 x2 x4 x5 hf
    rw [LX11_meanOf_12] at hf
    exact okBX11_meanOf_12 O (LX11_meanOf_12 n) ih σ x1 x2 x4 x5 hf
def fX11_meanOf (a0 : Int32) (σ : St) : Option (Int64 × St) :=
  (fX11_findOrder σ).bind (fun z1 => LX11_meanOf_12 fu z1 a0 0 0 0)
set_option maxRecDepth 100000 in
theorem ctX11_meanOf {E : ET} (hE : Dj (YM E)) (a0 : Int32) (σ : St) (z : Int64 × St) (hf : fX11_meanOf a0 σ = some z) : Ct (YM E) yX11_meanOf cX11_meanOf 6 (some .long) rmX11_meanOf [.ref (E.2.2.2.2 0), .int a0] σ (some (.long z.1)) z.2 := by
  refine Ct.of hE (by decide) (Nat.le_of_ble_eq_true rfl) (fun X O => ?_)
  have O : Ok (YM E) X cX11_meanOf 6 RX11 (some .long) rmX11_meanOf (some (.long z.1)) z.2 := O
  show At (YM E) X 6 0 [(0, .ref (E.2.2.2.2 0)), (1, .int a0)] [] σ
  unfold fX11_meanOf at hf
  refine a_aload_n (pc' := 1) O dX11_meanOf_0 rfl 0 rfl rfl ?_
  obtain ⟨z1, h2, hf⟩ := bd_some hf
  refine a_callVN (pc' := 4) (n := 0) (As := []) (st := []) (q0 := 0) O (ctX11_findOrder hE σ z1 h2) wm_774 wm_775 wm_776 wm_5 wm_777 (by decide +kernel) (by decide) (gM_0 E _) hc_11 rfl rfl rfl (Nat.le_of_ble_eq_true rfl) dX11_meanOf_1 rfl ?_
  refine a_lconst (pc' := 5) (v := 0) O dX11_meanOf_4 (by decide) rfl ?_
  refine a_lstore_n (pc' := 6) (lv' := [(2, .long 0), (0, .ref (E.2.2.2.2 0)), (1, .int a0)]) O dX11_meanOf_5 rfl (by decide) rfl rfl ?_
  refine a_iconst (pc' := 7) (v := 0) O dX11_meanOf_6 (by decide) rfl ?_
  refine a_istore (pc' := 9) (lv' := [(4, .int 0), (2, .long 0), (0, .ref (E.2.2.2.2 0)), (1, .int a0)]) O dX11_meanOf_7 (by decide) rfl rfl ?_
  refine a_iconst (pc' := 10) (v := 0) O dX11_meanOf_9 (by decide) rfl ?_
  refine a_istore (pc' := 12) (lv' := [(5, .int 0), (4, .int 0), (2, .long 0), (0, .ref (E.2.2.2.2 0)), (1, .int a0)]) O dX11_meanOf_10 (by decide) rfl rfl ?_
  exact a_sub [3, 4, 2, 1, 0] rfl (okLX11_meanOf_12 O fu z1 a0 0 0 0 hf)
def rmX11_mean : Room := { frames := 3, cells := 0, slots := 0, locals := 71 }
def fX11_mean (a0 : Int32) (σ : St) : Option (Int64 × St) :=
  (fX11_isTwo a0).bind (fun z1 => if z1 = 0 then (fX11_no (-2)).bind (fun z3 => some (z3, σ)) else ((fX11_meanOf a0 σ).bind (fun z5 => some (z5.1, z5.2))))
set_option maxRecDepth 100000 in
theorem ctX11_mean {E : ET} (hE : Dj (YM E)) (a0 : Int32) (σ : St) (z : Int64 × St) (hf : fX11_mean a0 σ = some z) : Ct (YM E) yX11_mean cX11_mean 2 (some .long) rmX11_mean [.ref (E.2.2.2.2 0), .int a0] σ (some (.long z.1)) z.2 := by
  refine Ct.of hE (by decide) (Nat.le_of_ble_eq_true rfl) (fun X O => ?_)
  have O : Ok (YM E) X cX11_mean 2 RX11 (some .long) rmX11_mean (some (.long z.1)) z.2 := O
  show At (YM E) X 2 0 [(0, .ref (E.2.2.2.2 0)), (1, .int a0)] [] σ
  unfold fX11_mean at hf
  refine a_iload_n (pc' := 1) O dX11_mean_0 rfl 1 rfl rfl ?_
  obtain ⟨z1, h2, hf⟩ := bd_some hf
  refine a_callSI (pc' := 4) (n := 1) (As := [.int a0]) (st := []) O (ctX11_isTwo hE a0 σ z1 h2) wm_198 wm_199 wm_5 wm_200 (by decide +kernel) (by decide) rfl rfl (Nat.le_of_ble_eq_true rfl) dX11_mean_1 rfl ?_
  refine a_if_eq (pc' := 7) (tgt := 15) O dX11_mean_4 (by decide) rfl hf (fun hf => ?_) (fun hf => ?_)
  · refine a_bipush (pc' := 17) (v := (-2)) O dX11_mean_15 (by decide) rfl ?_
    obtain ⟨z3, h4, hf⟩ := bd_some hf
    refine a_callSL (pc' := 20) (n := 1) (As := [.int (-2)]) (st := []) O (ctX11_no hE (-2) σ z3 h4) wm_433 wm_434 wm_5 wm_435 (by decide +kernel) (by decide) rfl rfl (Nat.le_of_ble_eq_true rfl) dX11_mean_17 rfl ?_
    exact a_lret O hf dX11_mean_20
  · refine a_aload_n (pc' := 8) O dX11_mean_7 rfl 0 rfl rfl ?_
    refine a_iload_n (pc' := 9) O dX11_mean_8 rfl 1 rfl rfl ?_
    obtain ⟨z5, h6, hf⟩ := bd_some hf
    refine a_callVL (pc' := 12) (n := 1) (As := [.int a0]) (st := []) (q0 := 0) O (ctX11_meanOf hE a0 σ z5 h6) wm_791 wm_792 wm_793 wm_5 wm_794 (by decide +kernel) (by decide) (gM_0 E _) hc_11 rfl rfl rfl (Nat.le_of_ble_eq_true rfl) dX11_mean_9 rfl ?_
    refine a_goto (tgt := 20) O dX11_mean_12 (by decide) ?_
    exact a_lret O hf dX11_mean_20
def rmX11_can : Room := { frames := 2, cells := 0, slots := 0, locals := 45 }
def fX11_can (a0 : Int32) (a1 : Int32) (a2 : Int32) (a3 : Int32) (σ : St) : Option (Int32 × St) :=
  (fX11_in (a0.toInt64) 0 16).bind (fun z1 => if z1 = 0 then some ((-2), σ) else ((fX11_in (a1.toInt64) 0 3).bind (fun z3 => if z3 = 0 then some ((-2), σ) else ((fX11_in (a2.toInt64) 0 999).bind (fun z5 => if z5 = 0 then some ((-2), σ) else ((fX11_isTwo a3).bind (fun z7 => if z7 = 0 then some ((-2), σ) else (if (σ.1 23) = 6 then some ((-4), σ) else (gIn (4 * (σ.1 23)) 24 (bS (sA σ 15 (4 * (σ.1 23)).toNatClampNeg a0) (fun σ9 => gIn ((4 * (σ9.1 23)) + 1) 24 (bS (sA σ9 15 ((4 * (σ9.1 23)) + 1).toNatClampNeg a1) (fun σ10 => gIn ((4 * (σ10.1 23)) + 2) 24 (bS (sA σ10 15 ((4 * (σ10.1 23)) + 2).toNatClampNeg a2) (fun σ11 => gIn ((4 * (σ11.1 23)) + 3) 24 (bS (sA σ11 15 ((4 * (σ11.1 23)) + 3).toNatClampNeg a3) (fun σ12 => bS (sI σ12 23 ((σ12.1 23) + 1)) (fun σ13 => some ((σ13.1 23), σ13)))))))))))))))))))
set_option maxRecDepth 100000 in
theorem ctX11_can {E : ET} (hE : Dj (YM E)) (a0 : Int32) (a1 : Int32) (a2 : Int32) (a3 : Int32) (σ : St) (z : Int32 × St) (hf : fX11_can a0 a1 a2 a3 σ = some z) : Ct (YM E) yX11_can cX11_can 5 (some .int) rmX11_can [.ref (E.2.2.2.2 0), .int a0, .int a1, .int a2, .int a3] σ (some (.int z.1)) z.2 := by
  refine Ct.of hE (by decide) (Nat.le_of_ble_eq_true rfl) (fun X O => ?_)
  have O : Ok (YM E) X cX11_can 5 RX11 (some .int) rmX11_can (some (.int z.1)) z.2 := O
  show At (YM E) X 5 0 [(0, .ref (E.2.2.2.2 0)), (1, .int a0), (2, .int a1), (3, .int a2), (4, .int a3)] [] σ
  unfold fX11_can at hf
  refine a_iload_n (pc' := 1) O dX11_can_0 rfl 1 rfl rfl ?_
  refine a_i2l (pc' := 2) O dX11_can_1 rfl rfl ?_
  refine a_lconst (pc' := 3) (v := 0) O dX11_can_2 (by decide) rfl ?_
  refine a_ldc2 (pc' := 6) (v := 16) O wm_738 dX11_can_3 rfl ?_
  obtain ⟨z1, h2, hf⟩ := bd_some hf
  refine a_callSI (pc' := 9) (n := 3) (As := [.long (a0.toInt64), .long 0, .long 16]) (st := []) O (ctX11_in hE (a0.toInt64) 0 16 σ z1 h2) wm_201 wm_202 wm_5 wm_203 (by decide +kernel) (by decide) rfl rfl (Nat.le_of_ble_eq_true rfl) dX11_can_6 rfl ?_
  refine a_if_eq (pc' := 12) (tgt := 44) O dX11_can_9 (by decide) rfl hf (fun hf => ?_) (fun hf => ?_)
  · refine a_bipush (pc' := 46) (v := (-2)) O dX11_can_44 (by decide) rfl ?_
    exact a_iret O hf dX11_can_46
  · refine a_iload_n (pc' := 13) O dX11_can_12 rfl 2 rfl rfl ?_
    refine a_i2l (pc' := 14) O dX11_can_13 rfl rfl ?_
    refine a_lconst (pc' := 15) (v := 0) O dX11_can_14 (by decide) rfl ?_
    refine a_ldc2 (pc' := 18) (v := 3) O wm_285 dX11_can_15 rfl ?_
    obtain ⟨z3, h4, hf⟩ := bd_some hf
    refine a_callSI (pc' := 21) (n := 3) (As := [.long (a1.toInt64), .long 0, .long 3]) (st := []) O (ctX11_in hE (a1.toInt64) 0 3 σ z3 h4) wm_201 wm_202 wm_5 wm_203 (by decide +kernel) (by decide) rfl rfl (Nat.le_of_ble_eq_true rfl) dX11_can_18 rfl ?_
    refine a_if_eq (pc' := 24) (tgt := 44) O dX11_can_21 (by decide) rfl hf (fun hf => ?_) (fun hf => ?_)
    · refine a_bipush (pc' := 46) (v := (-2)) O dX11_can_44 (by decide) rfl ?_
      exact a_iret O hf dX11_can_46
    · refine a_iload_n (pc' := 25) O dX11_can_24 rfl 3 rfl rfl ?_
      refine a_i2l (pc' := 26) O dX11_can_25 rfl rfl ?_
      refine a_lconst (pc' := 27) (v := 0) O dX11_can_26 (by decide) rfl ?_
      refine a_ldc2 (pc' := 30) (v := 999) O wm_327 dX11_can_27 rfl ?_
      obtain ⟨z5, h6, hf⟩ := bd_some hf
      refine a_callSI (pc' := 33) (n := 3) (As := [.long (a2.toInt64), .long 0, .long 999]) (st := []) O (ctX11_in hE (a2.toInt64) 0 999 σ z5 h6) wm_201 wm_202 wm_5 wm_203 (by decide +kernel) (by decide) rfl rfl (Nat.le_of_ble_eq_true rfl) dX11_can_30 rfl ?_
      refine a_if_eq (pc' := 36) (tgt := 44) O dX11_can_33 (by decide) rfl hf (fun hf => ?_) (fun hf => ?_)
      · refine a_bipush (pc' := 46) (v := (-2)) O dX11_can_44 (by decide) rfl ?_
        exact a_iret O hf dX11_can_46
      · refine a_iload (pc' := 38) O dX11_can_36 4 rfl rfl ?_
        obtain ⟨z7, h8, hf⟩ := bd_some hf
        refine a_callSI (pc' := 41) (n := 1) (As := [.int a3]) (st := []) O (ctX11_isTwo hE a3 σ z7 h8) wm_198 wm_199 wm_5 wm_200 (by decide +kernel) (by decide) rfl rfl (Nat.le_of_ble_eq_true rfl) dX11_can_38 rfl ?_
        refine a_if_ne (pc' := 44) (tgt := 47) O dX11_can_41 (by decide) rfl hf (fun hf => ?_) (fun hf => ?_)
        · refine a_aload_n (pc' := 48) O dX11_can_47 rfl 0 rfl rfl ?_
          refine gfM_0_23 (pc' := 51) O dX11_can_48 rfl ?_
          refine a_bipush (pc' := 53) (v := 6) O dX11_can_51 (by decide) rfl ?_
          refine a_icmp_ne (pc' := 56) (tgt := 59) O dX11_can_53 (by decide) rfl hf (fun hf => ?_) (fun hf => ?_)
          · refine a_aload_n (pc' := 60) O dX11_can_59 rfl 0 rfl rfl ?_
            refine gfM_0_24 (pc' := 63) O dX11_can_60 rfl ?_
            refine a_iconst (pc' := 64) (v := 4) O dX11_can_63 (by decide) rfl ?_
            refine a_aload_n (pc' := 65) O dX11_can_64 rfl 0 rfl rfl ?_
            refine gfM_0_23 (pc' := 68) O dX11_can_65 rfl ?_
            refine a_imul (pc' := 69) O dX11_can_68 rfl ?_
            refine a_iload_n (pc' := 70) O dX11_can_69 rfl 1 rfl rfl ?_
            refine saM_15 (pc' := 71) O hf dX11_can_70 rfl (fun σ9 hf => ?_)
            refine a_aload_n (pc' := 72) O dX11_can_71 rfl 0 rfl rfl ?_
            refine gfM_0_24 (pc' := 75) O dX11_can_72 rfl ?_
            refine a_iconst (pc' := 76) (v := 4) O dX11_can_75 (by decide) rfl ?_
            refine a_aload_n (pc' := 77) O dX11_can_76 rfl 0 rfl rfl ?_
            refine gfM_0_23 (pc' := 80) O dX11_can_77 rfl ?_
            refine a_imul (pc' := 81) O dX11_can_80 rfl ?_
            refine a_iconst (pc' := 82) (v := 1) O dX11_can_81 (by decide) rfl ?_
            refine a_iadd (pc' := 83) O dX11_can_82 rfl ?_
            refine a_iload_n (pc' := 84) O dX11_can_83 rfl 2 rfl rfl ?_
            refine saM_15 (pc' := 85) O hf dX11_can_84 rfl (fun σ10 hf => ?_)
            refine a_aload_n (pc' := 86) O dX11_can_85 rfl 0 rfl rfl ?_
            refine gfM_0_24 (pc' := 89) O dX11_can_86 rfl ?_
            refine a_iconst (pc' := 90) (v := 4) O dX11_can_89 (by decide) rfl ?_
            refine a_aload_n (pc' := 91) O dX11_can_90 rfl 0 rfl rfl ?_
            refine gfM_0_23 (pc' := 94) O dX11_can_91 rfl ?_
            refine a_imul (pc' := 95) O dX11_can_94 rfl ?_
            refine a_iconst (pc' := 96) (v := 2) O dX11_can_95 (by decide) rfl ?_
            refine a_iadd (pc' := 97) O dX11_can_96 rfl ?_
            refine a_iload_n (pc' := 98) O dX11_can_97 rfl 3 rfl rfl ?_
            refine saM_15 (pc' := 99) O hf dX11_can_98 rfl (fun σ11 hf => ?_)
            refine a_aload_n (pc' := 100) O dX11_can_99 rfl 0 rfl rfl ?_
            refine gfM_0_24 (pc' := 103) O dX11_can_100 rfl ?_
            refine a_iconst (pc' := 104) (v := 4) O dX11_can_103 (by decide) rfl ?_
            refine a_aload_n (pc' := 105) O dX11_can_104 rfl 0 rfl rfl ?_
            refine gfM_0_23 (pc' := 108) O dX11_can_105 rfl ?_
            refine a_imul (pc' := 109) O dX11_can_108 rfl ?_
            refine a_iconst (pc' := 110) (v := 3) O dX11_can_109 (by decide) rfl ?_
            refine a_iadd (pc' := 111) O dX11_can_110 rfl ?_
            refine a_iload (pc' := 113) O dX11_can_111 4 rfl rfl ?_
            refine saM_15 (pc' := 114) O hf dX11_can_113 rfl (fun σ12 hf => ?_)
            refine a_aload_n (pc' := 115) O dX11_can_114 rfl 0 rfl rfl ?_
            refine a_dup (pc' := 116) O dX11_can_115 rfl rfl ?_
            refine gfM_0_23 (pc' := 119) O dX11_can_116 rfl ?_
            refine a_iconst (pc' := 120) (v := 1) O dX11_can_119 (by decide) rfl ?_
            refine a_iadd (pc' := 121) O dX11_can_120 rfl ?_
            refine pfM_0_23 (pc' := 124) O hf dX11_can_121 rfl (fun σ13 hf => ?_)
            refine a_aload_n (pc' := 125) O dX11_can_124 rfl 0 rfl rfl ?_
            refine gfM_0_23 (pc' := 128) O dX11_can_125 rfl ?_
            exact a_iret O hf dX11_can_128
          · refine a_bipush (pc' := 58) (v := (-4)) O dX11_can_56 (by decide) rfl ?_
            exact a_iret O hf dX11_can_58
        · refine a_bipush (pc' := 46) (v := (-2)) O dX11_can_44 (by decide) rfl ?_
          exact a_iret O hf dX11_can_46
def rmX11_forget : Room := { frames := 0, cells := 0, slots := 0, locals := 0 }
def fX11_forget (σ : St) : Option (Int32 × St) :=
  bI (σ.1 23) (fun v1 => bS (sI σ 23 0) (fun σ2 => some (v1, σ2)))
set_option maxRecDepth 100000 in
theorem ctX11_forget {E : ET} (hE : Dj (YM E)) (σ : St) (z : Int32 × St) (hf : fX11_forget σ = some z) : Ct (YM E) yX11_forget cX11_forget 2 (some .int) rmX11_forget [.ref (E.2.2.2.2 0)] σ (some (.int z.1)) z.2 := by
  refine Ct.of hE (by decide) (Nat.le_of_ble_eq_true rfl) (fun X O => ?_)
  have O : Ok (YM E) X cX11_forget 2 RX11 (some .int) rmX11_forget (some (.int z.1)) z.2 := O
  show At (YM E) X 2 0 [(0, .ref (E.2.2.2.2 0))] [] σ
  unfold fX11_forget at hf
  refine a_aload_n (pc' := 1) O dX11_forget_0 rfl 0 rfl rfl ?_
  refine gfM_0_23 (pc' := 4) O dX11_forget_1 rfl ?_
  refine a_topi hf (fun v1 hf => ?_)
  refine a_istore_n (pc' := 5) (lv' := [(1, .int v1), (0, .ref (E.2.2.2.2 0))]) O dX11_forget_4 rfl (by decide) rfl rfl ?_
  refine a_aload_n (pc' := 6) O dX11_forget_5 rfl 1 rfl rfl ?_
  refine a_iconst (pc' := 7) (v := 0) O dX11_forget_6 (by decide) rfl ?_
  refine pfM_0_23 (pc' := 10) O hf dX11_forget_7 rfl (fun σ2 hf => ?_)
  refine a_iload_n (pc' := 11) O dX11_forget_10 rfl 0 rfl rfl ?_
  exact a_iret O hf dX11_forget_11
def rmX11_between : Room := { frames := 0, cells := 0, slots := 0, locals := 0 }
def BX11_between_6 (k6 : Int32 → Int32 → Int32 → Int32 → Option Int32) (σ : St) (x2 : Int32) (x3 : Int32) (x4 : Int32) (x5 : Int32) : Option Int32 :=
  if x2 ≤ x5 then some x4 else (gIn ((3 * x5) + x3) 48 (bI (x4 + (σ.2.2 7 ((3 * x5) + x3).toNatClampNeg)) (fun v1 => bI (x5 + 1) (fun v2 => k6 x2 x3 v1 v2))))
set_option maxRecDepth 100000 in
theorem okBX11_between_6 {E : ET} {X : XT} {z : Int32} {σ : St} (O : Ok (YM E) X cX11_between 6 RX11 (some .int) rmX11_between (some (.int z)) σ) (k6 : Int32 → Int32 → Int32 → Int32 → Option Int32) (hk6 : ∀ (x2 : Int32) (x3 : Int32) (x4 : Int32) (x5 : Int32), k6 x2 x3 x4 x5 = some z → At (YM E) X 6 6 [(0, .ref (E.2.2.2.2 0)), (2, .int x2), (3, .int x3), (4, .int x4), (5, .int x5)] [] σ) (x2 : Int32) (x3 : Int32) (x4 : Int32) (x5 : Int32) (hf : BX11_between_6 k6 σ x2 x3 x4 x5 = some z) : At (YM E) X 6 6 [(0, .ref (E.2.2.2.2 0)), (2, .int x2), (3, .int x3), (4, .int x4), (5, .int x5)] [] σ := by
  have hE := O.2.2.2.2.2.2.2.2.2.1
  unfold BX11_between_6 at hf
  refine a_iload (pc' := 8) O dX11_between_6 4 rfl rfl ?_
  refine a_iload_n (pc' := 9) O dX11_between_8 rfl 1 rfl rfl ?_
  refine a_icmp_ge (pc' := 12) (tgt := 34) O dX11_between_9 (by decide) rfl hf (fun hf => ?_) (fun hf => ?_)
  · refine a_iload (pc' := 36) O dX11_between_34 3 rfl rfl ?_
    exact a_iretP O hf dX11_between_36
  · refine a_iload (pc' := 14) O dX11_between_12 3 rfl rfl ?_
    refine a_aload_n (pc' := 15) O dX11_between_14 rfl 0 rfl rfl ?_
    refine gfM_0_9 (pc' := 18) O dX11_between_15 rfl ?_
    refine a_iconst (pc' := 19) (v := 3) O dX11_between_18 (by decide) rfl ?_
    refine a_iload (pc' := 21) O dX11_between_19 4 rfl rfl ?_
    refine a_imul (pc' := 22) O dX11_between_21 rfl ?_
    refine a_iload_n (pc' := 23) O dX11_between_22 rfl 2 rfl rfl ?_
    refine a_iadd (pc' := 24) O dX11_between_23 rfl ?_
    refine laM_7 (pc' := 25) O hf dX11_between_24 rfl (fun hf => ?_)
    refine a_iadd (pc' := 26) O dX11_between_25 rfl ?_
    refine a_topi hf (fun v1 hf => ?_)
    refine a_istore (pc' := 28) (lv' := [(4, .int v1), (0, .ref (E.2.2.2.2 0)), (2, .int x2), (3, .int x3), (5, .int x5)]) O dX11_between_26 (by decide) rfl rfl ?_
    refine a_iincB (pc' := 31) (lv' := fun v2 => [(5, .int v2), (4, .int v1), (0, .ref (E.2.2.2.2 0)), (2, .int x2), (3, .int x3)]) (c0 := 1) O dX11_between_28 4 rfl (by decide) (by decide) (fun _ => rfl) rfl hf (fun v2 hf => ?_)
    refine a_goto (tgt := 6) O dX11_between_31 (by decide) ?_
    exact a_sub [2, 3, 4, 1, 0] rfl (hk6 x2 x3 v1 v2 hf)
def LX11_between_6 (σ : St) : Nat → Int32 → Int32 → Int32 → Int32 → Option Int32
  | 0, _, _, _, _ => none
  | n + 1, x2, x3, x4, x5 => BX11_between_6 (LX11_between_6 σ n) σ x2 x3 x4 x5
theorem okLX11_between_6 {E : ET} {X : XT} {z : Int32} {σ : St} (O : Ok (YM E) X cX11_between 6 RX11 (some .int) rmX11_between (some (.int z)) σ) : ∀ (n : Nat) (x2 : Int32) (x3 : Int32) (x4 : Int32) (x5 : Int32), LX11_between_6 σ n x2 x3 x4 x5 = some z → At (YM E) X 6 6 [(0, .ref (E.2.2.2.2 0)), (2, .int x2), (3, .int x3), (4, .int x4), (5, .int x5)] [] σ := by
  intro n
  induction n with
  | zero =>
    intro x2 x3 x4 x5 hf
    rw [LX11_between_6] at hf
    cases hf
  | succ n ih =>
    intro x2 x3 x4 x5 hf
    rw [LX11_between_6] at hf
    exact okBX11_between_6 O (LX11_between_6 σ n) ih x2 x3 x4 x5 hf
def fX11_between (a0 : Int32) (a1 : Int32) (a2 : Int32) (σ : St) : Option Int32 :=
  LX11_between_6 σ fu a1 a2 0 a0
set_option maxRecDepth 100000 in
theorem ctX11_between {E : ET} (hE : Dj (YM E)) (a0 : Int32) (a1 : Int32) (a2 : Int32) (σ : St) (z : Int32) (hf : fX11_between a0 a1 a2 σ = some z) : Ct (YM E) yX11_between cX11_between 6 (some .int) rmX11_between [.ref (E.2.2.2.2 0), .int a0, .int a1, .int a2] σ (some (.int z)) σ := by
  refine Ct.of hE (by decide) (Nat.le_of_ble_eq_true rfl) (fun X O => ?_)
  have O : Ok (YM E) X cX11_between 6 RX11 (some .int) rmX11_between (some (.int z)) σ := O
  show At (YM E) X 6 0 [(0, .ref (E.2.2.2.2 0)), (1, .int a0), (2, .int a1), (3, .int a2)] [] σ
  unfold fX11_between at hf
  refine a_iconst (pc' := 1) (v := 0) O dX11_between_0 (by decide) rfl ?_
  refine a_istore (pc' := 3) (lv' := [(4, .int 0), (0, .ref (E.2.2.2.2 0)), (1, .int a0), (2, .int a1), (3, .int a2)]) O dX11_between_1 (by decide) rfl rfl ?_
  refine a_iload_n (pc' := 4) O dX11_between_3 rfl 2 rfl rfl ?_
  refine a_istore (pc' := 6) (lv' := [(5, .int a0), (4, .int 0), (0, .ref (E.2.2.2.2 0)), (1, .int a0), (2, .int a1), (3, .int a2)]) O dX11_between_4 (by decide) rfl rfl ?_
  exact a_sub [2, 4, 5, 1, 0] rfl (okLX11_between_6 O fu a1 a2 0 a0 hf)
def rmX11_isSo : Room := { frames := 1, cells := 0, slots := 0, locals := 25 }
def BX11_isSo_66 (σ : St) (x1 : Int32) (x4 : Int32) (y0 : Int32) : Option Int32 :=
  gIn x4 4 (gIn ((4 * x1) + 2) 24 (if ((σ.2.2 9 x4.toNatClampNeg) - y0) = (σ.2.2 15 ((4 * x1) + 2).toNatClampNeg) then some 1 else (some 0)))
set_option maxRecDepth 100000 in
theorem okBX11_isSo_66 {E : ET} {X : XT} {z : Int32} {σ : St} (O : Ok (YM E) X cX11_isSo 6 RX11 (some .boolean) rmX11_isSo (some (.int z)) σ) (x1 : Int32) (x4 : Int32) (y0 : Int32) (hf : BX11_isSo_66 σ x1 x4 y0 = some z) : At (YM E) X 6 66 [(0, .ref (E.2.2.2.2 0)), (1, .int x1), (4, .int x4)] [.int y0] σ := by
  have hE := O.2.2.2.2.2.2.2.2.2.1
  unfold BX11_isSo_66 at hf
  refine a_istore (pc' := 68) (lv' := [(5, .int y0), (0, .ref (E.2.2.2.2 0)), (1, .int x1), (4, .int x4)]) O dX11_isSo_66 (by decide) rfl rfl ?_
  refine a_aload_n (pc' := 69) O dX11_isSo_68 rfl 1 rfl rfl ?_
  refine gfM_0_13 (pc' := 72) O dX11_isSo_69 rfl ?_
  refine a_iload (pc' := 74) O dX11_isSo_72 3 rfl rfl ?_
  refine laM_9 (pc' := 75) O hf dX11_isSo_74 rfl (fun hf => ?_)
  refine a_iload (pc' := 77) O dX11_isSo_75 0 rfl rfl ?_
  refine a_isub (pc' := 78) O dX11_isSo_77 rfl ?_
  refine a_aload_n (pc' := 79) O dX11_isSo_78 rfl 1 rfl rfl ?_
  refine gfM_0_24 (pc' := 82) O dX11_isSo_79 rfl ?_
  refine a_iconst (pc' := 83) (v := 4) O dX11_isSo_82 (by decide) rfl ?_
  refine a_iload_n (pc' := 84) O dX11_isSo_83 rfl 2 rfl rfl ?_
  refine a_imul (pc' := 85) O dX11_isSo_84 rfl ?_
  refine a_iconst (pc' := 86) (v := 2) O dX11_isSo_85 (by decide) rfl ?_
  refine a_iadd (pc' := 87) O dX11_isSo_86 rfl ?_
  refine laM_15 (pc' := 88) O hf dX11_isSo_87 rfl (fun hf => ?_)
  refine a_icmp_ne (pc' := 91) (tgt := 95) O dX11_isSo_88 (by decide) rfl hf (fun hf => ?_) (fun hf => ?_)
  · refine a_iconst (pc' := 96) (v := 0) O dX11_isSo_95 (by decide) rfl ?_
    exact a_zretP (Or.inl rfl) O hf dX11_isSo_96
  · refine a_iconst (pc' := 92) (v := 1) O dX11_isSo_91 (by decide) rfl ?_
    refine a_goto (tgt := 96) O dX11_isSo_92 (by decide) ?_
    exact a_zretP (Or.inr rfl) O hf dX11_isSo_96
def fX11_isSo (a0 : Int32) (a1 : Int32) (σ : St) : Option Int32 :=
  gIn (4 * a0) 24 (bI (σ.2.2 15 (4 * a0).toNatClampNeg) (fun v1 => gIn ((4 * a0) + 1) 24 (bI (σ.2.2 15 ((4 * a0) + 1).toNatClampNeg) (fun v2 => if v1 ≤ a1 then gIn ((4 * a0) + 3) 24 (if (σ.2.2 15 ((4 * a0) + 3).toNatClampNeg) = 0 then (fX11_between 0 v1 0 σ).bind (fun z7 => BX11_isSo_66 σ a0 v2 z7) else ((fX11_between 0 a1 0 σ).bind (fun z3 => (fX11_between v1 a1 1 σ).bind (fun z5 => BX11_isSo_66 σ a0 v2 (z3 + z5))))) else (some 0)))))
set_option maxRecDepth 100000 in
theorem ctX11_isSo {E : ET} (hE : Dj (YM E)) (a0 : Int32) (a1 : Int32) (σ : St) (z : Int32) (hf : fX11_isSo a0 a1 σ = some z) : Ct (YM E) yX11_isSo cX11_isSo 6 (some .boolean) rmX11_isSo [.ref (E.2.2.2.2 0), .int a0, .int a1] σ (some (.int z)) σ := by
  refine Ct.of hE (by decide) (Nat.le_of_ble_eq_true rfl) (fun X O => ?_)
  have O : Ok (YM E) X cX11_isSo 6 RX11 (some .boolean) rmX11_isSo (some (.int z)) σ := O
  show At (YM E) X 6 0 [(0, .ref (E.2.2.2.2 0)), (1, .int a0), (2, .int a1)] [] σ
  unfold fX11_isSo at hf
  refine a_aload_n (pc' := 1) O dX11_isSo_0 rfl 0 rfl rfl ?_
  refine gfM_0_24 (pc' := 4) O dX11_isSo_1 rfl ?_
  refine a_iconst (pc' := 5) (v := 4) O dX11_isSo_4 (by decide) rfl ?_
  refine a_iload_n (pc' := 6) O dX11_isSo_5 rfl 1 rfl rfl ?_
  refine a_imul (pc' := 7) O dX11_isSo_6 rfl ?_
  refine laM_15 (pc' := 8) O hf dX11_isSo_7 rfl (fun hf => ?_)
  refine a_topi hf (fun v1 hf => ?_)
  refine a_istore_n (pc' := 9) (lv' := [(3, .int v1), (0, .ref (E.2.2.2.2 0)), (1, .int a0), (2, .int a1)]) O dX11_isSo_8 rfl (by decide) rfl rfl ?_
  refine a_aload_n (pc' := 10) O dX11_isSo_9 rfl 1 rfl rfl ?_
  refine gfM_0_24 (pc' := 13) O dX11_isSo_10 rfl ?_
  refine a_iconst (pc' := 14) (v := 4) O dX11_isSo_13 (by decide) rfl ?_
  refine a_iload_n (pc' := 15) O dX11_isSo_14 rfl 2 rfl rfl ?_
  refine a_imul (pc' := 16) O dX11_isSo_15 rfl ?_
  refine a_iconst (pc' := 17) (v := 1) O dX11_isSo_16 (by decide) rfl ?_
  refine a_iadd (pc' := 18) O dX11_isSo_17 rfl ?_
  refine laM_15 (pc' := 19) O hf dX11_isSo_18 rfl (fun hf => ?_)
  refine a_topi hf (fun v2 hf => ?_)
  refine a_istore (pc' := 21) (lv' := [(4, .int v2), (3, .int v1), (0, .ref (E.2.2.2.2 0)), (1, .int a0), (2, .int a1)]) O dX11_isSo_19 (by decide) rfl rfl ?_
  refine a_iload_n (pc' := 22) O dX11_isSo_21 rfl 1 rfl rfl ?_
  refine a_iload_n (pc' := 23) O dX11_isSo_22 rfl 4 rfl rfl ?_
  refine a_icmp_le (pc' := 26) (tgt := 28) O dX11_isSo_23 (by decide) rfl hf (fun hf => ?_) (fun hf => ?_)
  · refine a_aload_n (pc' := 29) O dX11_isSo_28 rfl 2 rfl rfl ?_
    refine gfM_0_24 (pc' := 32) O dX11_isSo_29 rfl ?_
    refine a_iconst (pc' := 33) (v := 4) O dX11_isSo_32 (by decide) rfl ?_
    refine a_iload_n (pc' := 34) O dX11_isSo_33 rfl 3 rfl rfl ?_
    refine a_imul (pc' := 35) O dX11_isSo_34 rfl ?_
    refine a_iconst (pc' := 36) (v := 3) O dX11_isSo_35 (by decide) rfl ?_
    refine a_iadd (pc' := 37) O dX11_isSo_36 rfl ?_
    refine laM_15 (pc' := 38) O hf dX11_isSo_37 rfl (fun hf => ?_)
    refine a_if_ne (pc' := 41) (tgt := 51) O dX11_isSo_38 (by decide) rfl hf (fun hf => ?_) (fun hf => ?_)
    · refine a_aload_n (pc' := 52) O dX11_isSo_51 rfl 2 rfl rfl ?_
      refine a_iconst (pc' := 53) (v := 0) O dX11_isSo_52 (by decide) rfl ?_
      refine a_iload_n (pc' := 54) O dX11_isSo_53 rfl 4 rfl rfl ?_
      refine a_iconst (pc' := 55) (v := 0) O dX11_isSo_54 (by decide) rfl ?_
      obtain ⟨z3, h4, hf⟩ := bd_some hf
      refine a_callVI (pc' := 58) (n := 3) (As := [.int 0, .int a1, .int 0]) (st := []) (q0 := 0) O (ctX11_between hE 0 a1 0 σ z3 h4) wm_850 wm_851 wm_852 wm_5 wm_853 (by decide +kernel) (by decide) (gM_0 E _) hc_11 rfl rfl rfl (Nat.le_of_ble_eq_true rfl) dX11_isSo_55 rfl ?_
      refine a_aload_n (pc' := 59) O dX11_isSo_58 rfl 2 rfl rfl ?_
      refine a_iload_n (pc' := 60) O dX11_isSo_59 rfl 1 rfl rfl ?_
      refine a_iload_n (pc' := 61) O dX11_isSo_60 rfl 4 rfl rfl ?_
      refine a_iconst (pc' := 62) (v := 1) O dX11_isSo_61 (by decide) rfl ?_
      obtain ⟨z5, h6, hf⟩ := bd_some hf
      refine a_callVI (pc' := 65) (n := 3) (As := [.int v1, .int a1, .int 1]) (st := [.int z3]) (q0 := 0) O (ctX11_between hE v1 a1 1 σ z5 h6) wm_850 wm_851 wm_852 wm_5 wm_853 (by decide +kernel) (by decide) (gM_0 E _) hc_11 rfl rfl rfl (Nat.le_of_ble_eq_true rfl) dX11_isSo_62 rfl ?_
      refine a_iadd (pc' := 66) O dX11_isSo_65 rfl ?_
      exact a_sub [2, 3, 0] rfl (okBX11_isSo_66 O a0 v2 (z3 + z5) hf)
    · refine a_aload_n (pc' := 42) O dX11_isSo_41 rfl 2 rfl rfl ?_
      refine a_iconst (pc' := 43) (v := 0) O dX11_isSo_42 (by decide) rfl ?_
      refine a_iload_n (pc' := 44) O dX11_isSo_43 rfl 1 rfl rfl ?_
      refine a_iconst (pc' := 45) (v := 0) O dX11_isSo_44 (by decide) rfl ?_
      obtain ⟨z7, h8, hf⟩ := bd_some hf
      refine a_callVI (pc' := 48) (n := 3) (As := [.int 0, .int v1, .int 0]) (st := []) (q0 := 0) O (ctX11_between hE 0 v1 0 σ z7 h8) wm_850 wm_851 wm_852 wm_5 wm_853 (by decide +kernel) (by decide) (gM_0 E _) hc_11 rfl rfl rfl (Nat.le_of_ble_eq_true rfl) dX11_isSo_45 rfl ?_
      refine a_goto (tgt := 66) O dX11_isSo_48 (by decide) ?_
      exact a_sub [2, 3, 0] rfl (okBX11_isSo_66 O a0 v2 z7 hf)
  · refine a_iconst (pc' := 27) (v := 0) O dX11_isSo_26 (by decide) rfl ?_
    exact a_zretP (Or.inl rfl) O hf dX11_isSo_27
def rmX11_turnedNow : Room := { frames := 2, cells := 0, slots := 0, locals := 50 }
def BX11_turnedNow_52 (k4 : Int32 → Int32 → Option Int32) (σ : St) (x1 : Int32) (x2 : Int32) (x3 : Int32) : Option Int32 :=
  if x3 = 0 then bI (x1 ||| 0) (fun v1 => bI (x2 + 1) (fun v2 => k4 v1 v2)) else (bI (x1 ||| (1 <<< (x2 &&& 31))) (fun v3 => bI (x2 + 1) (fun v4 => k4 v3 v4)))
set_option maxRecDepth 100000 in
theorem okBX11_turnedNow_52 {E : ET} {X : XT} {z : Int32} {σ : St} (O : Ok (YM E) X cX11_turnedNow 5 RX11 (some .int) rmX11_turnedNow (some (.int z)) σ) (k4 : Int32 → Int32 → Option Int32) (hk4 : ∀ (x1 : Int32) (x2 : Int32), k4 x1 x2 = some z → At (YM E) X 5 4 [(0, .ref (E.2.2.2.2 0)), (1, .int x1), (2, .int x2)] [] σ) (x1 : Int32) (x2 : Int32) (x3 : Int32) (hf : BX11_turnedNow_52 k4 σ x1 x2 x3 = some z) : At (YM E) X 5 52 [(0, .ref (E.2.2.2.2 0)), (1, .int x1), (2, .int x2), (3, .int x3)] [] σ := by
  have hE := O.2.2.2.2.2.2.2.2.2.1
  unfold BX11_turnedNow_52 at hf
  refine a_iload_n (pc' := 53) O dX11_turnedNow_52 rfl 1 rfl rfl ?_
  refine a_iload_n (pc' := 54) O dX11_turnedNow_53 rfl 3 rfl rfl ?_
  refine a_if_eq (pc' := 57) (tgt := 63) O dX11_turnedNow_54 (by decide) rfl hf (fun hf => ?_) (fun hf => ?_)
  · refine a_iconst (pc' := 64) (v := 0) O dX11_turnedNow_63 (by decide) rfl ?_
    refine a_ior (pc' := 65) O dX11_turnedNow_64 rfl ?_
    refine a_topi hf (fun v1 hf => ?_)
    refine a_istore_n (pc' := 66) (lv' := [(1, .int v1), (0, .ref (E.2.2.2.2 0)), (2, .int x2), (3, .int x3)]) O dX11_turnedNow_65 rfl (by decide) rfl rfl ?_
    refine a_iincB (pc' := 69) (lv' := fun v2 => [(2, .int v2), (1, .int v1), (0, .ref (E.2.2.2.2 0)), (3, .int x3)]) (c0 := 1) O dX11_turnedNow_66 2 rfl (by decide) (by decide) (fun _ => rfl) rfl hf (fun v2 hf => ?_)
    refine a_goto (tgt := 4) O dX11_turnedNow_69 (by decide) ?_
    exact a_sub [2, 1, 0] rfl (hk4 v1 v2 hf)
  · refine a_iconst (pc' := 58) (v := 1) O dX11_turnedNow_57 (by decide) rfl ?_
    refine a_iload_n (pc' := 59) O dX11_turnedNow_58 rfl 2 rfl rfl ?_
    refine a_ishl (pc' := 60) O dX11_turnedNow_59 rfl ?_
    refine a_goto (tgt := 64) O dX11_turnedNow_60 (by decide) ?_
    refine a_ior (pc' := 65) O dX11_turnedNow_64 rfl ?_
    refine a_topi hf (fun v3 hf => ?_)
    refine a_istore_n (pc' := 66) (lv' := [(1, .int v3), (0, .ref (E.2.2.2.2 0)), (2, .int x2), (3, .int x3)]) O dX11_turnedNow_65 rfl (by decide) rfl rfl ?_
    refine a_iincB (pc' := 69) (lv' := fun v4 => [(2, .int v4), (1, .int v3), (0, .ref (E.2.2.2.2 0)), (3, .int x3)]) (c0 := 1) O dX11_turnedNow_66 2 rfl (by decide) (by decide) (fun _ => rfl) rfl hf (fun v4 hf => ?_)
    refine a_goto (tgt := 4) O dX11_turnedNow_69 (by decide) ?_
    exact a_sub [2, 1, 0] rfl (hk4 v3 v4 hf)
def BX11_turnedNow_17 (k17 : Int32 → Int32 → Int32 → Int32 → Option Int32) (k4 : Int32 → Int32 → Option Int32) (σ : St) (x1 : Int32) (x2 : Int32) (x3 : Int32) (x4 : Int32) : Option Int32 :=
  if (σ.1 23) ≤ x4 then BX11_turnedNow_52 k4 σ x1 x2 x3 else (if x3 = 0 then bI (x4 + 1) (fun v5 => k17 x1 x2 0 v5) else ((fX11_isSo x4 x2 σ).bind (fun z6 => if z6 = 0 then bI (x4 + 1) (fun v8 => k17 x1 x2 0 v8) else (bI (x4 + 1) (fun v9 => k17 x1 x2 1 v9)))))
set_option maxRecDepth 100000 in
theorem okBX11_turnedNow_17 {E : ET} {X : XT} {z : Int32} {σ : St} (O : Ok (YM E) X cX11_turnedNow 5 RX11 (some .int) rmX11_turnedNow (some (.int z)) σ) (k17 : Int32 → Int32 → Int32 → Int32 → Option Int32) (hk17 : ∀ (x1 : Int32) (x2 : Int32) (x3 : Int32) (x4 : Int32), k17 x1 x2 x3 x4 = some z → At (YM E) X 5 17 [(0, .ref (E.2.2.2.2 0)), (1, .int x1), (2, .int x2), (3, .int x3), (4, .int x4)] [] σ) (k4 : Int32 → Int32 → Option Int32) (hk4 : ∀ (x1 : Int32) (x2 : Int32), k4 x1 x2 = some z → At (YM E) X 5 4 [(0, .ref (E.2.2.2.2 0)), (1, .int x1), (2, .int x2)] [] σ) (x1 : Int32) (x2 : Int32) (x3 : Int32) (x4 : Int32) (hf : BX11_turnedNow_17 k17 k4 σ x1 x2 x3 x4 = some z) : At (YM E) X 5 17 [(0, .ref (E.2.2.2.2 0)), (1, .int x1), (2, .int x2), (3, .int x3), (4, .int x4)] [] σ := by
  have hE := O.2.2.2.2.2.2.2.2.2.1
  unfold BX11_turnedNow_17 at hf
  refine a_iload (pc' := 19) O dX11_turnedNow_17 4 rfl rfl ?_
  refine a_aload_n (pc' := 20) O dX11_turnedNow_19 rfl 0 rfl rfl ?_
  refine gfM_0_23 (pc' := 23) O dX11_turnedNow_20 rfl ?_
  refine a_icmp_ge (pc' := 26) (tgt := 52) O dX11_turnedNow_23 (by decide) rfl hf (fun hf => ?_) (fun hf => ?_)
  · exact a_sub [0, 1, 2, 3] rfl (okBX11_turnedNow_52 O k4 hk4 x1 x2 x3 hf)
  · refine a_iload_n (pc' := 27) O dX11_turnedNow_26 rfl 3 rfl rfl ?_
    refine a_if_eq (pc' := 30) (tgt := 44) O dX11_turnedNow_27 (by decide) rfl hf (fun hf => ?_) (fun hf => ?_)
    · refine a_iconst (pc' := 45) (v := 0) O dX11_turnedNow_44 (by decide) rfl ?_
      refine a_istore_n (pc' := 46) (lv' := [(3, .int 0), (0, .ref (E.2.2.2.2 0)), (1, .int x1), (2, .int x2), (4, .int x4)]) O dX11_turnedNow_45 rfl (by decide) rfl rfl ?_
      refine a_iincB (pc' := 49) (lv' := fun v5 => [(4, .int v5), (3, .int 0), (0, .ref (E.2.2.2.2 0)), (1, .int x1), (2, .int x2)]) (c0 := 1) O dX11_turnedNow_46 4 rfl (by decide) (by decide) (fun _ => rfl) rfl hf (fun v5 hf => ?_)
      refine a_goto (tgt := 17) O dX11_turnedNow_49 (by decide) ?_
      exact a_sub [2, 3, 4, 1, 0] rfl (hk17 x1 x2 0 v5 hf)
    · refine a_aload_n (pc' := 31) O dX11_turnedNow_30 rfl 0 rfl rfl ?_
      refine a_iload (pc' := 33) O dX11_turnedNow_31 4 rfl rfl ?_
      refine a_iload_n (pc' := 34) O dX11_turnedNow_33 rfl 2 rfl rfl ?_
      obtain ⟨z6, h7, hf⟩ := bd_some hf
      refine a_callVI (pc' := 37) (n := 2) (As := [.int x4, .int x2]) (st := []) (q0 := 0) O (ctX11_isSo hE x4 x2 σ z6 h7) wm_846 wm_847 wm_848 wm_5 wm_849 (by decide +kernel) (by decide) (gM_0 E _) hc_11 rfl rfl rfl (Nat.le_of_ble_eq_true rfl) dX11_turnedNow_34 rfl ?_
      refine a_if_eq (pc' := 40) (tgt := 44) O dX11_turnedNow_37 (by decide) rfl hf (fun hf => ?_) (fun hf => ?_)
      · refine a_iconst (pc' := 45) (v := 0) O dX11_turnedNow_44 (by decide) rfl ?_
        refine a_istore_n (pc' := 46) (lv' := [(3, .int 0), (0, .ref (E.2.2.2.2 0)), (1, .int x1), (2, .int x2), (4, .int x4)]) O dX11_turnedNow_45 rfl (by decide) rfl rfl ?_
        refine a_iincB (pc' := 49) (lv' := fun v8 => [(4, .int v8), (3, .int 0), (0, .ref (E.2.2.2.2 0)), (1, .int x1), (2, .int x2)]) (c0 := 1) O dX11_turnedNow_46 4 rfl (by decide) (by decide) (fun _ => rfl) rfl hf (fun v8 hf => ?_)
        refine a_goto (tgt := 17) O dX11_turnedNow_49 (by decide) ?_
        exact a_sub [2, 3, 4, 1, 0] rfl (hk17 x1 x2 0 v8 hf)
      · refine a_iconst (pc' := 41) (v := 1) O dX11_turnedNow_40 (by decide) rfl ?_
        refine a_goto (tgt := 45) O dX11_turnedNow_41 (by decide) ?_
        refine a_istore_n (pc' := 46) (lv' := [(3, .int 1), (0, .ref (E.2.2.2.2 0)), (1, .int x1), (2, .int x2), (4, .int x4)]) O dX11_turnedNow_45 rfl (by decide) rfl rfl ?_
        refine a_iincB (pc' := 49) (lv' := fun v9 => [(4, .int v9), (3, .int 1), (0, .ref (E.2.2.2.2 0)), (1, .int x1), (2, .int x2)]) (c0 := 1) O dX11_turnedNow_46 4 rfl (by decide) (by decide) (fun _ => rfl) rfl hf (fun v9 hf => ?_)
        refine a_goto (tgt := 17) O dX11_turnedNow_49 (by decide) ?_
        exact a_sub [2, 3, 4, 1, 0] rfl (hk17 x1 x2 1 v9 hf)
def LX11_turnedNow_17 (k4 : Int32 → Int32 → Option Int32) (σ : St) : Nat → Int32 → Int32 → Int32 → Int32 → Option Int32
  | 0, _, _, _, _ => none
  | n + 1, x1, x2, x3, x4 => BX11_turnedNow_17 (LX11_turnedNow_17 k4 σ n) k4 σ x1 x2 x3 x4
theorem okLX11_turnedNow_17 {E : ET} {X : XT} {z : Int32} {σ : St} (O : Ok (YM E) X cX11_turnedNow 5 RX11 (some .int) rmX11_turnedNow (some (.int z)) σ) (k4 : Int32 → Int32 → Option Int32) (hk4 : ∀ (x1 : Int32) (x2 : Int32), k4 x1 x2 = some z → At (YM E) X 5 4 [(0, .ref (E.2.2.2.2 0)), (1, .int x1), (2, .int x2)] [] σ) : ∀ (n : Nat) (x1 : Int32) (x2 : Int32) (x3 : Int32) (x4 : Int32), LX11_turnedNow_17 k4 σ n x1 x2 x3 x4 = some z → At (YM E) X 5 17 [(0, .ref (E.2.2.2.2 0)), (1, .int x1), (2, .int x2), (3, .int x3), (4, .int x4)] [] σ := by
  intro n
  induction n with
  | zero =>
    intro x1 x2 x3 x4 hf
    rw [LX11_turnedNow_17] at hf
    cases hf
  | succ n ih =>
    intro x1 x2 x3 x4 hf
    rw [LX11_turnedNow_17] at hf
    exact okBX11_turnedNow_17 O (LX11_turnedNow_17 k4 σ n) ih k4 hk4 x1 x2 x3 x4 hf
def BX11_turnedNow_4 (k4 : Int32 → Int32 → Option Int32) (σ : St) (x1 : Int32) (x2 : Int32) : Option Int32 :=
  if (σ.1 8) < x2 then some x1 else (LX11_turnedNow_17 k4 σ fu x1 x2 1 0)
set_option maxRecDepth 100000 in
theorem okBX11_turnedNow_4 {E : ET} {X : XT} {z : Int32} {σ : St} (O : Ok (YM E) X cX11_turnedNow 5 RX11 (some .int) rmX11_turnedNow (some (.int z)) σ) (k4 : Int32 → Int32 → Option Int32) (hk4 : ∀ (x1 : Int32) (x2 : Int32), k4 x1 x2 = some z → At (YM E) X 5 4 [(0, .ref (E.2.2.2.2 0)), (1, .int x1), (2, .int x2)] [] σ) (x1 : Int32) (x2 : Int32) (hf : BX11_turnedNow_4 k4 σ x1 x2 = some z) : At (YM E) X 5 4 [(0, .ref (E.2.2.2.2 0)), (1, .int x1), (2, .int x2)] [] σ := by
  have hE := O.2.2.2.2.2.2.2.2.2.1
  unfold BX11_turnedNow_4 at hf
  refine a_iload_n (pc' := 5) O dX11_turnedNow_4 rfl 2 rfl rfl ?_
  refine a_aload_n (pc' := 6) O dX11_turnedNow_5 rfl 0 rfl rfl ?_
  refine gfM_0_8 (pc' := 9) O dX11_turnedNow_6 rfl ?_
  refine a_icmp_gt (pc' := 12) (tgt := 72) O dX11_turnedNow_9 (by decide) rfl hf (fun hf => ?_) (fun hf => ?_)
  · refine a_iload_n (pc' := 73) O dX11_turnedNow_72 rfl 1 rfl rfl ?_
    exact a_iretP O hf dX11_turnedNow_73
  · refine a_iconst (pc' := 13) (v := 1) O dX11_turnedNow_12 (by decide) rfl ?_
    refine a_istore_n (pc' := 14) (lv' := [(3, .int 1), (0, .ref (E.2.2.2.2 0)), (1, .int x1), (2, .int x2)]) O dX11_turnedNow_13 rfl (by decide) rfl rfl ?_
    refine a_iconst (pc' := 15) (v := 0) O dX11_turnedNow_14 (by decide) rfl ?_
    refine a_istore (pc' := 17) (lv' := [(4, .int 0), (3, .int 1), (0, .ref (E.2.2.2.2 0)), (1, .int x1), (2, .int x2)]) O dX11_turnedNow_15 (by decide) rfl rfl ?_
    exact a_sub [2, 3, 4, 1, 0] rfl (okLX11_turnedNow_17 O k4 hk4 fu x1 x2 1 0 hf)
def LX11_turnedNow_4 (σ : St) : Nat → Int32 → Int32 → Option Int32
  | 0, _, _ => none
  | n + 1, x1, x2 => BX11_turnedNow_4 (LX11_turnedNow_4 σ n) σ x1 x2
theorem okLX11_turnedNow_4 {E : ET} {X : XT} {z : Int32} {σ : St} (O : Ok (YM E) X cX11_turnedNow 5 RX11 (some .int) rmX11_turnedNow (some (.int z)) σ) : ∀ (n : Nat) (x1 : Int32) (x2 : Int32), LX11_turnedNow_4 σ n x1 x2 = some z → At (YM E) X 5 4 [(0, .ref (E.2.2.2.2 0)), (1, .int x1), (2, .int x2)] [] σ := by
  intro n
  induction n with
  | zero =>
    intro x1 x2 hf
    rw [LX11_turnedNow_4] at hf
    cases hf
  | succ n ih =>
    intro x1 x2 hf
    rw [LX11_turnedNow_4] at hf
    exact okBX11_turnedNow_4 O (LX11_turnedNow_4 σ n) ih x1 x2 hf
def fX11_turnedNow (σ : St) : Option Int32 :=
  LX11_turnedNow_4 σ fu 0 0
set_option maxRecDepth 100000 in
theorem ctX11_turnedNow {E : ET} (hE : Dj (YM E)) (σ : St) (z : Int32) (hf : fX11_turnedNow σ = some z) : Ct (YM E) yX11_turnedNow cX11_turnedNow 5 (some .int) rmX11_turnedNow [.ref (E.2.2.2.2 0)] σ (some (.int z)) σ := by
  refine Ct.of hE (by decide) (Nat.le_of_ble_eq_true rfl) (fun X O => ?_)
  have O : Ok (YM E) X cX11_turnedNow 5 RX11 (some .int) rmX11_turnedNow (some (.int z)) σ := O
  show At (YM E) X 5 0 [(0, .ref (E.2.2.2.2 0))] [] σ
  unfold fX11_turnedNow at hf
  refine a_iconst (pc' := 1) (v := 0) O dX11_turnedNow_0 (by decide) rfl ?_
  refine a_istore_n (pc' := 2) (lv' := [(1, .int 0), (0, .ref (E.2.2.2.2 0))]) O dX11_turnedNow_1 rfl (by decide) rfl rfl ?_
  refine a_iconst (pc' := 3) (v := 0) O dX11_turnedNow_2 (by decide) rfl ?_
  refine a_istore_n (pc' := 4) (lv' := [(2, .int 0), (1, .int 0), (0, .ref (E.2.2.2.2 0))]) O dX11_turnedNow_3 rfl (by decide) rfl rfl ?_
  exact a_sub [2, 1, 0] rfl (okLX11_turnedNow_4 O fu 0 0 hf)
def rmX11_turned : Room := { frames := 4, cells := 0, slots := 0, locals := 89 }
def fX11_turned (σ : St) : Option (Int32 × St) :=
  (fX11_reads σ).bind (fun z1 => (fX11_turnedNow z1).bind (fun z3 => some (z3, z1)))
set_option maxRecDepth 100000 in
theorem ctX11_turned {E : ET} (hE : Dj (YM E)) (σ : St) (z : Int32 × St) (hf : fX11_turned σ = some z) : Ct (YM E) yX11_turned cX11_turned 1 (some .int) rmX11_turned [.ref (E.2.2.2.2 0)] σ (some (.int z.1)) z.2 := by
  refine Ct.of hE (by decide) (Nat.le_of_ble_eq_true rfl) (fun X O => ?_)
  have O : Ok (YM E) X cX11_turned 1 RX11 (some .int) rmX11_turned (some (.int z.1)) z.2 := O
  show At (YM E) X 1 0 [(0, .ref (E.2.2.2.2 0))] [] σ
  unfold fX11_turned at hf
  refine a_aload_n (pc' := 1) O dX11_turned_0 rfl 0 rfl rfl ?_
  obtain ⟨z1, h2, hf⟩ := bd_some hf
  refine a_callVN (pc' := 4) (n := 0) (As := []) (st := []) (q0 := 0) O (ctX11_reads hE σ z1 h2) wm_286 wm_287 wm_288 wm_5 wm_289 (by decide +kernel) (by decide) (gM_0 E _) hc_11 rfl rfl rfl (Nat.le_of_ble_eq_true rfl) dX11_turned_1 rfl ?_
  refine a_aload_n (pc' := 5) O dX11_turned_4 rfl 0 rfl rfl ?_
  obtain ⟨z3, h4, hf⟩ := bd_some hf
  refine a_callVI (pc' := 8) (n := 0) (As := []) (st := []) (q0 := 0) O (ctX11_turnedNow hE z1 z3 h4) wm_842 wm_843 wm_844 wm_5 wm_845 (by decide +kernel) (by decide) (gM_0 E _) hc_11 rfl rfl rfl (Nat.le_of_ble_eq_true rfl) dX11_turned_5 rfl ?_
  exact a_iret O hf dX11_turned_8
def rmX11_write : Room := { frames := 6, cells := 0, slots := 0, locals := 133 }
def BX11_write_45 (k45 : St → Int32 → Int32 → Int32 → Option (Int32 × St)) (σ : St) (x1 : Int32) (x2 : Int32) (x3 : Int32) : Option (Int32 × St) :=
  if x2 ≤ x3 then some (x2, σ) else (gIn x1 4 (gIn x3 4 ((fX11_cut (σ.2.2 1 x1.toNatClampNeg) (σ.2.2 10 x3.toNatClampNeg)).bind (fun z7 => gIn ((60 * x1) + x3) 240 (bS (sA σ 3 ((60 * x1) + x3).toNatClampNeg z7) (fun σ9 => bI (x3 + 1) (fun v10 => k45 σ9 x1 x2 v10)))))))
set_option maxRecDepth 100000 in
theorem okBX11_write_45 {E : ET} {X : XT} {z : Int32 × St} (O : Ok (YM E) X cX11_write 4 RX11 (some .int) rmX11_write (some (.int z.1)) z.2) (k45 : St → Int32 → Int32 → Int32 → Option (Int32 × St)) (hk45 : ∀ (σ : St) (x1 : Int32) (x2 : Int32) (x3 : Int32), k45 σ x1 x2 x3 = some z → At (YM E) X 4 45 [(0, .ref (E.2.2.2.2 0)), (1, .int x1), (2, .int x2), (3, .int x3)] [] σ) (σ : St) (x1 : Int32) (x2 : Int32) (x3 : Int32) (hf : BX11_write_45 k45 σ x1 x2 x3 = some z) : At (YM E) X 4 45 [(0, .ref (E.2.2.2.2 0)), (1, .int x1), (2, .int x2), (3, .int x3)] [] σ := by
  have hE := O.2.2.2.2.2.2.2.2.2.1
  unfold BX11_write_45 at hf
  refine a_iload_n (pc' := 46) O dX11_write_45 rfl 3 rfl rfl ?_
  refine a_iload_n (pc' := 47) O dX11_write_46 rfl 2 rfl rfl ?_
  refine a_icmp_ge (pc' := 50) (tgt := 82) O dX11_write_47 (by decide) rfl hf (fun hf => ?_) (fun hf => ?_)
  · refine a_iload_n (pc' := 83) O dX11_write_82 rfl 2 rfl rfl ?_
    exact a_iret O hf dX11_write_83
  · refine a_aload_n (pc' := 51) O dX11_write_50 rfl 0 rfl rfl ?_
    refine gfM_0_2 (pc' := 54) O dX11_write_51 rfl ?_
    refine a_bipush (pc' := 56) (v := 60) O dX11_write_54 (by decide) rfl ?_
    refine a_iload_n (pc' := 57) O dX11_write_56 rfl 1 rfl rfl ?_
    refine a_imul (pc' := 58) O dX11_write_57 rfl ?_
    refine a_iload_n (pc' := 59) O dX11_write_58 rfl 3 rfl rfl ?_
    refine a_iadd (pc' := 60) O dX11_write_59 rfl ?_
    refine a_aload_n (pc' := 61) O dX11_write_60 rfl 0 rfl rfl ?_
    refine gfM_0_0 (pc' := 64) O dX11_write_61 rfl ?_
    refine a_iload_n (pc' := 65) O dX11_write_64 rfl 1 rfl rfl ?_
    refine laM_1 (pc' := 66) O hf dX11_write_65 rfl (fun hf => ?_)
    refine a_aload_n (pc' := 67) O dX11_write_66 rfl 0 rfl rfl ?_
    refine gfM_0_17 (pc' := 70) O dX11_write_67 rfl ?_
    refine a_iload_n (pc' := 71) O dX11_write_70 rfl 3 rfl rfl ?_
    refine laM_10 (pc' := 72) O hf dX11_write_71 rfl (fun hf => ?_)
    obtain ⟨z7, h8, hf⟩ := bd_some hf
    refine a_callSI (pc' := 75) (n := 2) (As := [.int (σ.2.2 1 x1.toNatClampNeg), .int (σ.2.2 10 x3.toNatClampNeg)]) (st := [.int ((60 * x1) + x3), .ref (E.2.2.2.2 3)]) O (ctX11_cut hE (σ.2.2 1 x1.toNatClampNeg) (σ.2.2 10 x3.toNatClampNeg) σ z7 h8) wm_906 wm_907 wm_5 wm_908 (by decide +kernel) (by decide) rfl rfl (Nat.le_of_ble_eq_true rfl) dX11_write_72 rfl ?_
    refine saM_3 (pc' := 76) O hf dX11_write_75 rfl (fun σ9 hf => ?_)
    refine a_iincB (pc' := 79) (lv' := fun v10 => [(3, .int v10), (0, .ref (E.2.2.2.2 0)), (1, .int x1), (2, .int x2)]) (c0 := 1) O dX11_write_76 3 rfl (by decide) (by decide) (fun _ => rfl) rfl hf (fun v10 hf => ?_)
    refine a_goto (tgt := 45) O dX11_write_79 (by decide) ?_
    exact a_sub [1, 2, 3, 0] rfl (hk45 σ9 x1 x2 v10 hf)
def LX11_write_45 : Nat → St → Int32 → Int32 → Int32 → Option (Int32 × St)
  | 0, _, _, _, _ => none
  | n + 1, σ, x1, x2, x3 => BX11_write_45 (LX11_write_45 n) σ x1 x2 x3
theorem okLX11_write_45 {E : ET} {X : XT} {z : Int32 × St} (O : Ok (YM E) X cX11_write 4 RX11 (some .int) rmX11_write (some (.int z.1)) z.2) : ∀ (n : Nat) (σ : St) (x1 : Int32) (x2 : Int32) (x3 : Int32), LX11_write_45 n σ x1 x2 x3 = some z → At (YM E) X 4 45 [(0, .ref (E.2.2.2.2 0)), (1, .int x1), (2, .int x2), (3, .int x3)] [] σ := by
  intro n
  induction n with
  | zero =>
    intro σ x1 x2 x3 hf
    rw [LX11_write_45] at hf
    cases hf
  | succ n ih =>
    intro σ x1 x2 x3 hf
    rw [LX11_write_45] at hf
    exact okBX11_write_45 O (LX11_write_45 n) ih σ x1 x2 x3 hf
def fX11_write (a0 : Int32) (σ : St) : Option (Int32 × St) :=
  (fX11_isSheet a0).bind (fun z1 => if z1 = 0 then some ((-2), σ) else (gIn a0 4 (if 0 ≤ (σ.2.2 1 a0.toNatClampNeg) then (fX11_plansAll σ).bind (fun z3 => gIn a0 4 ((fX11_lesser (z3.2.2 2 a0.toNatClampNeg) (z3.1 12)).bind (fun z5 => LX11_write_45 fu z3 a0 z5 0))) else ((fX11_met 1 σ).bind (fun z11 => some (z11.1, z11.2))))))
set_option maxRecDepth 100000 in
theorem ctX11_write {E : ET} (hE : Dj (YM E)) (a0 : Int32) (σ : St) (z : Int32 × St) (hf : fX11_write a0 σ = some z) : Ct (YM E) yX11_write cX11_write 4 (some .int) rmX11_write [.ref (E.2.2.2.2 0), .int a0] σ (some (.int z.1)) z.2 := by
  refine Ct.of hE (by decide) (Nat.le_of_ble_eq_true rfl) (fun X O => ?_)
  have O : Ok (YM E) X cX11_write 4 RX11 (some .int) rmX11_write (some (.int z.1)) z.2 := O
  show At (YM E) X 4 0 [(0, .ref (E.2.2.2.2 0)), (1, .int a0)] [] σ
  unfold fX11_write at hf
  refine a_iload_n (pc' := 1) O dX11_write_0 rfl 1 rfl rfl ?_
  obtain ⟨z1, h2, hf⟩ := bd_some hf
  refine a_callSI (pc' := 4) (n := 1) (As := [.int a0]) (st := []) O (ctX11_isSheet hE a0 σ z1 h2) wm_365 wm_366 wm_5 wm_367 (by decide +kernel) (by decide) rfl rfl (Nat.le_of_ble_eq_true rfl) dX11_write_1 rfl ?_
  refine a_if_ne (pc' := 7) (tgt := 10) O dX11_write_4 (by decide) rfl hf (fun hf => ?_) (fun hf => ?_)
  · refine a_aload_n (pc' := 11) O dX11_write_10 rfl 0 rfl rfl ?_
    refine gfM_0_0 (pc' := 14) O dX11_write_11 rfl ?_
    refine a_iload_n (pc' := 15) O dX11_write_14 rfl 1 rfl rfl ?_
    refine laM_1 (pc' := 16) O hf dX11_write_15 rfl (fun hf => ?_)
    refine a_if_ge (pc' := 19) (tgt := 25) O dX11_write_16 (by decide) rfl hf (fun hf => ?_) (fun hf => ?_)
    · refine a_aload_n (pc' := 26) O dX11_write_25 rfl 0 rfl rfl ?_
      obtain ⟨z3, h4, hf⟩ := bd_some hf
      refine a_callVN (pc' := 29) (n := 0) (As := []) (st := []) (q0 := 0) O (ctX11_plansAll hE σ z3 h4) wm_576 wm_577 wm_578 wm_5 wm_579 (by decide +kernel) (by decide) (gM_0 E _) hc_11 rfl rfl rfl (Nat.le_of_ble_eq_true rfl) dX11_write_26 rfl ?_
      refine a_aload_n (pc' := 30) O dX11_write_29 rfl 0 rfl rfl ?_
      refine gfM_0_1 (pc' := 33) O dX11_write_30 rfl ?_
      refine a_iload_n (pc' := 34) O dX11_write_33 rfl 1 rfl rfl ?_
      refine laM_2 (pc' := 35) O hf dX11_write_34 rfl (fun hf => ?_)
      refine a_aload_n (pc' := 36) O dX11_write_35 rfl 0 rfl rfl ?_
      refine gfM_0_12 (pc' := 39) O dX11_write_36 rfl ?_
      obtain ⟨z5, h6, hf⟩ := bd_some hf
      refine a_callSI (pc' := 42) (n := 2) (As := [.int (z3.2.2 2 a0.toNatClampNeg), .int (z3.1 12)]) (st := []) O (ctX11_lesser hE (z3.2.2 2 a0.toNatClampNeg) (z3.1 12) z3 z5 h6) wm_467 wm_468 wm_5 wm_469 (by decide +kernel) (by decide) rfl rfl (Nat.le_of_ble_eq_true rfl) dX11_write_39 rfl ?_
      refine a_istore_n (pc' := 43) (lv' := [(2, .int z5), (0, .ref (E.2.2.2.2 0)), (1, .int a0)]) O dX11_write_42 rfl (by decide) rfl rfl ?_
      refine a_iconst (pc' := 44) (v := 0) O dX11_write_43 (by decide) rfl ?_
      refine a_istore_n (pc' := 45) (lv' := [(3, .int 0), (2, .int z5), (0, .ref (E.2.2.2.2 0)), (1, .int a0)]) O dX11_write_44 rfl (by decide) rfl rfl ?_
      exact a_sub [2, 3, 1, 0] rfl (okLX11_write_45 O fu z3 a0 z5 0 hf)
    · refine a_aload_n (pc' := 20) O dX11_write_19 rfl 0 rfl rfl ?_
      refine a_iconst (pc' := 21) (v := 1) O dX11_write_20 (by decide) rfl ?_
      obtain ⟨z11, h12, hf⟩ := bd_some hf
      refine a_callVI (pc' := 24) (n := 1) (As := [.int 1]) (st := []) (q0 := 0) O (ctX11_met hE 1 σ z11 h12) wm_368 wm_369 wm_370 wm_5 wm_371 (by decide +kernel) (by decide) (gM_0 E _) hc_11 rfl rfl rfl (Nat.le_of_ble_eq_true rfl) dX11_write_21 rfl ?_
      exact a_iret O hf dX11_write_24
  · refine a_bipush (pc' := 9) (v := (-2)) O dX11_write_7 (by decide) rfl ?_
    exact a_iret O hf dX11_write_9
def rmX11_count : Room := { frames := 4, cells := 0, slots := 0, locals := 89 }
def fX11_count (a0 : Int32) (σ : St) : Option (Int32 × St) :=
  (fX11_reads σ).bind (fun z1 => if a0 = 0 then some ((z1.1 8), z1) else (if a0 = 1 then some ((z1.1 11), z1) else (if a0 = 2 then gIn (a0 - 2) 2 (some ((z1.2.2 6 (a0 - 2).toNatClampNeg), z1)) else (if a0 = 3 then gIn (a0 - 2) 2 (some ((z1.2.2 6 (a0 - 2).toNatClampNeg), z1)) else (if a0 = 4 then some ((z1.1 12), z1) else (if a0 = 5 then (fX11_inAll z1).bind (fun z3 => some (z3, z1)) else (if a0 = 6 then some ((z1.1 20), z1) else (if a0 = 7 then some ((z1.1 23), z1) else (if a0 = 8 then some ((z1.1 4), z1) else (some ((-2), z1)))))))))))
set_option maxRecDepth 100000 in
theorem ctX11_count {E : ET} (hE : Dj (YM E)) (a0 : Int32) (σ : St) (z : Int32 × St) (hf : fX11_count a0 σ = some z) : Ct (YM E) yX11_count cX11_count 2 (some .int) rmX11_count [.ref (E.2.2.2.2 0), .int a0] σ (some (.int z.1)) z.2 := by
  refine Ct.of hE (by decide) (Nat.le_of_ble_eq_true rfl) (fun X O => ?_)
  have O : Ok (YM E) X cX11_count 2 RX11 (some .int) rmX11_count (some (.int z.1)) z.2 := O
  show At (YM E) X 2 0 [(0, .ref (E.2.2.2.2 0)), (1, .int a0)] [] σ
  unfold fX11_count at hf
  refine a_aload_n (pc' := 1) O dX11_count_0 rfl 0 rfl rfl ?_
  obtain ⟨z1, h2, hf⟩ := bd_some hf
  refine a_callVN (pc' := 4) (n := 0) (As := []) (st := []) (q0 := 0) O (ctX11_reads hE σ z1 h2) wm_286 wm_287 wm_288 wm_5 wm_289 (by decide +kernel) (by decide) (gM_0 E _) hc_11 rfl rfl rfl (Nat.le_of_ble_eq_true rfl) dX11_count_1 rfl ?_
  refine a_iload_n (pc' := 5) O dX11_count_4 rfl 1 rfl rfl ?_
  by_cases c5 : a0 = 0
  · rw [if_pos c5] at hf
    refine a_tswIn (tgt := 56) (k0 := 0) (off := 51) O c5 dX11_count_5 (by decide) (by decide) (by decide) (by decide) ?_
    refine a_aload_n (pc' := 57) O dX11_count_56 rfl 0 rfl rfl ?_
    refine gfM_0_8 (pc' := 60) O dX11_count_57 rfl ?_
    exact a_iret O hf dX11_count_60
  · rw [if_neg c5] at hf
    by_cases c6 : a0 = 1
    · rw [if_pos c6] at hf
      refine a_tswIn (tgt := 61) (k0 := 1) (off := 56) O c6 dX11_count_5 (by decide) (by decide) (by decide) (by decide) ?_
      refine a_aload_n (pc' := 62) O dX11_count_61 rfl 0 rfl rfl ?_
      refine gfM_0_11 (pc' := 65) O dX11_count_62 rfl ?_
      exact a_iret O hf dX11_count_65
    · rw [if_neg c6] at hf
      by_cases c7 : a0 = 2
      · rw [if_pos c7] at hf
        refine a_tswIn (tgt := 66) (k0 := 2) (off := 61) O c7 dX11_count_5 (by decide) (by decide) (by decide) (by decide) ?_
        refine a_aload_n (pc' := 67) O dX11_count_66 rfl 0 rfl rfl ?_
        refine gfM_0_6 (pc' := 70) O dX11_count_67 rfl ?_
        refine a_iload_n (pc' := 71) O dX11_count_70 rfl 1 rfl rfl ?_
        refine a_iconst (pc' := 72) (v := 2) O dX11_count_71 (by decide) rfl ?_
        refine a_isub (pc' := 73) O dX11_count_72 rfl ?_
        refine laM_6 (pc' := 74) O hf dX11_count_73 rfl (fun hf => ?_)
        exact a_iret O hf dX11_count_74
      · rw [if_neg c7] at hf
        by_cases c8 : a0 = 3
        · rw [if_pos c8] at hf
          refine a_tswIn (tgt := 66) (k0 := 3) (off := 61) O c8 dX11_count_5 (by decide) (by decide) (by decide) (by decide) ?_
          refine a_aload_n (pc' := 67) O dX11_count_66 rfl 0 rfl rfl ?_
          refine gfM_0_6 (pc' := 70) O dX11_count_67 rfl ?_
          refine a_iload_n (pc' := 71) O dX11_count_70 rfl 1 rfl rfl ?_
          refine a_iconst (pc' := 72) (v := 2) O dX11_count_71 (by decide) rfl ?_
          refine a_isub (pc' := 73) O dX11_count_72 rfl ?_
          refine laM_6 (pc' := 74) O hf dX11_count_73 rfl (fun hf => ?_)
          exact a_iret O hf dX11_count_74
        · rw [if_neg c8] at hf
          by_cases c9 : a0 = 4
          · rw [if_pos c9] at hf
            refine a_tswIn (tgt := 75) (k0 := 4) (off := 70) O c9 dX11_count_5 (by decide) (by decide) (by decide) (by decide) ?_
            refine a_aload_n (pc' := 76) O dX11_count_75 rfl 0 rfl rfl ?_
            refine gfM_0_12 (pc' := 79) O dX11_count_76 rfl ?_
            exact a_iret O hf dX11_count_79
          · rw [if_neg c9] at hf
            by_cases c10 : a0 = 5
            · rw [if_pos c10] at hf
              refine a_tswIn (tgt := 80) (k0 := 5) (off := 75) O c10 dX11_count_5 (by decide) (by decide) (by decide) (by decide) ?_
              refine a_aload_n (pc' := 81) O dX11_count_80 rfl 0 rfl rfl ?_
              obtain ⟨z3, h4, hf⟩ := bd_some hf
              refine a_callVI (pc' := 84) (n := 0) (As := []) (st := []) (q0 := 0) O (ctX11_inAll hE z1 z3 h4) wm_512 wm_513 wm_514 wm_5 wm_515 (by decide +kernel) (by decide) (gM_0 E _) hc_11 rfl rfl rfl (Nat.le_of_ble_eq_true rfl) dX11_count_81 rfl ?_
              exact a_iret O hf dX11_count_84
            · rw [if_neg c10] at hf
              by_cases c11 : a0 = 6
              · rw [if_pos c11] at hf
                refine a_tswIn (tgt := 85) (k0 := 6) (off := 80) O c11 dX11_count_5 (by decide) (by decide) (by decide) (by decide) ?_
                refine a_aload_n (pc' := 86) O dX11_count_85 rfl 0 rfl rfl ?_
                refine gfM_0_20 (pc' := 89) O dX11_count_86 rfl ?_
                exact a_iret O hf dX11_count_89
              · rw [if_neg c11] at hf
                by_cases c12 : a0 = 7
                · rw [if_pos c12] at hf
                  refine a_tswIn (tgt := 90) (k0 := 7) (off := 85) O c12 dX11_count_5 (by decide) (by decide) (by decide) (by decide) ?_
                  refine a_aload_n (pc' := 91) O dX11_count_90 rfl 0 rfl rfl ?_
                  refine gfM_0_23 (pc' := 94) O dX11_count_91 rfl ?_
                  exact a_iret O hf dX11_count_94
                · rw [if_neg c12] at hf
                  by_cases c13 : a0 = 8
                  · rw [if_pos c13] at hf
                    refine a_tswIn (tgt := 95) (k0 := 8) (off := 90) O c13 dX11_count_5 (by decide) (by decide) (by decide) (by decide) ?_
                    refine a_aload_n (pc' := 96) O dX11_count_95 rfl 0 rfl rfl ?_
                    refine gfM_0_4 (pc' := 99) O dX11_count_96 rfl ?_
                    exact a_iret O hf dX11_count_99
                  · rw [if_neg c13] at hf
                    refine a_tswOut (tgt := 100) O dX11_count_5 (sw_out8 c5 c6 c7 c8 c9 c10 c11 c12 c13) (by decide) ?_
                    refine a_bipush (pc' := 102) (v := (-2)) O dX11_count_100 (by decide) rfl ?_
                    exact a_iret O hf dX11_count_102
