def rmX11_pointOf : Room := { frames := 1, cells := 0, slots := 0, locals := 30 }
def BX11_pointOf_103 (σ : St) (x1 : Int32) : Option Int64 :=
  if x1 = 0 then some 0 else (some 1)
set_option maxRecDepth 100000 in
theorem okBX11_pointOf_103 {E : ET} {X : XT} {z : Int64} {σ : St} (O : Ok (YM E) X cX11_pointOf 6 RX11 (some .long) rmX11_pointOf (some (.long z)) σ) (x1 : Int32) (hf : BX11_pointOf_103 σ x1 = some z) : At (YM E) X 6 103 [(1, .int x1)] [] σ := by
  have hE := O.2.2.2.2.2.2.2.2.2.1
  unfold BX11_pointOf_103 at hf
  refine a_iload_n (pc' := 104) O dX11_pointOf_103 rfl 0 rfl rfl ?_
  refine a_if_ne (pc' := 107) (tgt := 111) O dX11_pointOf_104 (by decide) rfl hf (fun hf => ?_) (fun hf => ?_)
  · refine a_lconst (pc' := 112) (v := 1) O dX11_pointOf_111 (by decide) rfl ?_
    exact a_lretP O hf dX11_pointOf_112
  · refine a_lconst (pc' := 108) (v := 0) O dX11_pointOf_107 (by decide) rfl ?_
    refine a_goto (tgt := 112) O dX11_pointOf_108 (by decide) ?_
    exact a_lretP O hf dX11_pointOf_112
def BX11_pointOf_50 (σ : St) (x1 : Int32) (x2 : Int32) (x3 : Int32) (x4 : Int32) (x5 : Int32) : Option Int64 :=
  (fX11_part ((((x4.toInt64) * (x5.toInt64)) + (x2.toInt64)) - (x3.toInt64)) (x5.toInt64) x1).bind (fun z7 => some z7)
set_option maxRecDepth 100000 in
theorem okBX11_pointOf_50 {E : ET} {X : XT} {z : Int64} {σ : St} (O : Ok (YM E) X cX11_pointOf 6 RX11 (some .long) rmX11_pointOf (some (.long z)) σ) (x1 : Int32) (x2 : Int32) (x3 : Int32) (x4 : Int32) (x5 : Int32) (hf : BX11_pointOf_50 σ x1 x2 x3 x4 x5 = some z) : At (YM E) X 6 50 [(1, .int x1), (2, .int x2), (3, .int x3), (4, .int x4), (5, .int x5)] [] σ := by
  have hE := O.2.2.2.2.2.2.2.2.2.1
  unfold BX11_pointOf_50 at hf
  refine a_iload (pc' := 52) O dX11_pointOf_50 3 rfl rfl ?_
  refine a_i2l (pc' := 53) O dX11_pointOf_52 rfl rfl ?_
  refine a_iload (pc' := 55) O dX11_pointOf_53 4 rfl rfl ?_
  refine a_i2l (pc' := 56) O dX11_pointOf_55 rfl rfl ?_
  refine a_lmul (pc' := 57) O dX11_pointOf_56 rfl ?_
  refine a_iload_n (pc' := 58) O dX11_pointOf_57 rfl 1 rfl rfl ?_
  refine a_i2l (pc' := 59) O dX11_pointOf_58 rfl rfl ?_
  refine a_ladd (pc' := 60) O dX11_pointOf_59 rfl ?_
  refine a_iload_n (pc' := 61) O dX11_pointOf_60 rfl 2 rfl rfl ?_
  refine a_i2l (pc' := 62) O dX11_pointOf_61 rfl rfl ?_
  refine a_lsub (pc' := 63) O dX11_pointOf_62 rfl ?_
  refine a_iload (pc' := 65) O dX11_pointOf_63 4 rfl rfl ?_
  refine a_i2l (pc' := 66) O dX11_pointOf_65 rfl rfl ?_
  refine a_iload_n (pc' := 67) O dX11_pointOf_66 rfl 0 rfl rfl ?_
  obtain ⟨z7, h8, hf⟩ := bd_some hf
  refine a_callSL (pc' := 70) (n := 3) (As := [.long ((((x4.toInt64) * (x5.toInt64)) + (x2.toInt64)) - (x3.toInt64)), .long (x5.toInt64), .int x1]) (st := []) O (ctX11_part hE ((((x4.toInt64) * (x5.toInt64)) + (x2.toInt64)) - (x3.toInt64)) (x5.toInt64) x1 σ z7 h8) wm_430 wm_431 wm_5 wm_432 (by decide +kernel) (by decide) rfl rfl (Nat.le_of_ble_eq_true rfl) dX11_pointOf_67 rfl ?_
  exact a_lretP O hf dX11_pointOf_70
def BX11_pointOf_10 (k10 : Int32 → Int32 → Int32 → Int32 → Option Int64) (σ : St) (x1 : Int32) (x2 : Int32) (x3 : Int32) (x4 : Int32) : Option Int64 :=
  if (σ.1 8) ≤ x4 then BX11_pointOf_103 σ x1 else (gIn (3 * x4) 48 (gIn ((3 * x4) + 1) 48 (bI ((σ.2.2 7 (3 * x4).toNatClampNeg) + (σ.2.2 7 ((3 * x4) + 1).toNatClampNeg)) (fun v3 => if v3 < (x2 - x3) then gIn (3 * x4) 48 (bI (x2 - (σ.2.2 7 (3 * x4).toNatClampNeg)) (fun v4 => gIn ((3 * x4) + 1) 48 (bI (x3 + (σ.2.2 7 ((3 * x4) + 1).toNatClampNeg)) (fun v5 => bI (x4 + 1) (fun v6 => k10 x1 v4 v5 v6))))) else (BX11_pointOf_50 σ x1 x2 x3 x4 v3)))))
set_option maxRecDepth 100000 in
theorem okBX11_pointOf_10 {E : ET} {X : XT} {z : Int64} {σ : St} (O : Ok (YM E) X cX11_pointOf 6 RX11 (some .long) rmX11_pointOf (some (.long z)) σ) (k10 : Int32 → Int32 → Int32 → Int32 → Option Int64) (hk10 : ∀ (x1 : Int32) (x2 : Int32) (x3 : Int32) (x4 : Int32), k10 x1 x2 x3 x4 = some z → At (YM E) X 6 10 [(0, .ref (E.2.2.2.2 0)), (1, .int x1), (2, .int x2), (3, .int x3), (4, .int x4)] [] σ) (x1 : Int32) (x2 : Int32) (x3 : Int32) (x4 : Int32) (hf : BX11_pointOf_10 k10 σ x1 x2 x3 x4 = some z) : At (YM E) X 6 10 [(0, .ref (E.2.2.2.2 0)), (1, .int x1), (2, .int x2), (3, .int x3), (4, .int x4)] [] σ := by
  have hE := O.2.2.2.2.2.2.2.2.2.1
  unfold BX11_pointOf_10 at hf
  refine a_iload (pc' := 12) O dX11_pointOf_10 4 rfl rfl ?_
  refine a_aload_n (pc' := 13) O dX11_pointOf_12 rfl 0 rfl rfl ?_
  refine gfM_0_8 (pc' := 16) O dX11_pointOf_13 rfl ?_
  refine a_icmp_ge (pc' := 19) (tgt := 103) O dX11_pointOf_16 (by decide) rfl hf (fun hf => ?_) (fun hf => ?_)
  · exact a_sub [1] rfl (okBX11_pointOf_103 O x1 hf)
  · refine a_aload_n (pc' := 20) O dX11_pointOf_19 rfl 0 rfl rfl ?_
    refine gfM_0_9 (pc' := 23) O dX11_pointOf_20 rfl ?_
    refine a_iconst (pc' := 24) (v := 3) O dX11_pointOf_23 (by decide) rfl ?_
    refine a_iload (pc' := 26) O dX11_pointOf_24 4 rfl rfl ?_
    refine a_imul (pc' := 27) O dX11_pointOf_26 rfl ?_
    refine laM_7 (pc' := 28) O hf dX11_pointOf_27 rfl (fun hf => ?_)
    refine a_aload_n (pc' := 29) O dX11_pointOf_28 rfl 0 rfl rfl ?_
    refine gfM_0_9 (pc' := 32) O dX11_pointOf_29 rfl ?_
    refine a_iconst (pc' := 33) (v := 3) O dX11_pointOf_32 (by decide) rfl ?_
    refine a_iload (pc' := 35) O dX11_pointOf_33 4 rfl rfl ?_
    refine a_imul (pc' := 36) O dX11_pointOf_35 rfl ?_
    refine a_iconst (pc' := 37) (v := 1) O dX11_pointOf_36 (by decide) rfl ?_
    refine a_iadd (pc' := 38) O dX11_pointOf_37 rfl ?_
    refine laM_7 (pc' := 39) O hf dX11_pointOf_38 rfl (fun hf => ?_)
    refine a_iadd (pc' := 40) O dX11_pointOf_39 rfl ?_
    refine a_topi hf (fun v3 hf => ?_)
    refine a_istore (pc' := 42) (lv' := [(5, .int v3), (0, .ref (E.2.2.2.2 0)), (1, .int x1), (2, .int x2), (3, .int x3), (4, .int x4)]) O dX11_pointOf_40 (by decide) rfl rfl ?_
    refine a_iload_n (pc' := 43) O dX11_pointOf_42 rfl 3 rfl rfl ?_
    refine a_iload_n (pc' := 44) O dX11_pointOf_43 rfl 4 rfl rfl ?_
    refine a_isub (pc' := 45) O dX11_pointOf_44 rfl ?_
    refine a_iload (pc' := 47) O dX11_pointOf_45 0 rfl rfl ?_
    refine a_icmp_gt (pc' := 50) (tgt := 71) O dX11_pointOf_47 (by decide) rfl hf (fun hf => ?_) (fun hf => ?_)
    · refine a_iload_n (pc' := 72) O dX11_pointOf_71 rfl 3 rfl rfl ?_
      refine a_aload_n (pc' := 73) O dX11_pointOf_72 rfl 1 rfl rfl ?_
      refine gfM_0_9 (pc' := 76) O dX11_pointOf_73 rfl ?_
      refine a_iconst (pc' := 77) (v := 3) O dX11_pointOf_76 (by decide) rfl ?_
      refine a_iload (pc' := 79) O dX11_pointOf_77 5 rfl rfl ?_
      refine a_imul (pc' := 80) O dX11_pointOf_79 rfl ?_
      refine laM_7 (pc' := 81) O hf dX11_pointOf_80 rfl (fun hf => ?_)
      refine a_isub (pc' := 82) O dX11_pointOf_81 rfl ?_
      refine a_topi hf (fun v4 hf => ?_)
      refine a_istore_n (pc' := 83) (lv' := [(2, .int v4), (5, .int v3), (0, .ref (E.2.2.2.2 0)), (1, .int x1), (3, .int x3), (4, .int x4)]) O dX11_pointOf_82 rfl (by decide) rfl rfl ?_
      refine a_iload_n (pc' := 84) O dX11_pointOf_83 rfl 4 rfl rfl ?_
      refine a_aload_n (pc' := 85) O dX11_pointOf_84 rfl 2 rfl rfl ?_
      refine gfM_0_9 (pc' := 88) O dX11_pointOf_85 rfl ?_
      refine a_iconst (pc' := 89) (v := 3) O dX11_pointOf_88 (by decide) rfl ?_
      refine a_iload (pc' := 91) O dX11_pointOf_89 5 rfl rfl ?_
      refine a_imul (pc' := 92) O dX11_pointOf_91 rfl ?_
      refine a_iconst (pc' := 93) (v := 1) O dX11_pointOf_92 (by decide) rfl ?_
      refine a_iadd (pc' := 94) O dX11_pointOf_93 rfl ?_
      refine laM_7 (pc' := 95) O hf dX11_pointOf_94 rfl (fun hf => ?_)
      refine a_iadd (pc' := 96) O dX11_pointOf_95 rfl ?_
      refine a_topi hf (fun v5 hf => ?_)
      refine a_istore_n (pc' := 97) (lv' := [(3, .int v5), (2, .int v4), (5, .int v3), (0, .ref (E.2.2.2.2 0)), (1, .int x1), (4, .int x4)]) O dX11_pointOf_96 rfl (by decide) rfl rfl ?_
      refine a_iincB (pc' := 100) (lv' := fun v6 => [(4, .int v6), (3, .int v5), (2, .int v4), (5, .int v3), (0, .ref (E.2.2.2.2 0)), (1, .int x1)]) (c0 := 1) O dX11_pointOf_97 5 rfl (by decide) (by decide) (fun _ => rfl) rfl hf (fun v6 hf => ?_)
      refine a_goto (tgt := 10) O dX11_pointOf_100 (by decide) ?_
      exact a_sub [4, 5, 2, 1, 0] rfl (hk10 x1 v4 v5 v6 hf)
    · exact a_sub [2, 3, 4, 5, 0] rfl (okBX11_pointOf_50 O x1 x2 x3 x4 v3 hf)
def LX11_pointOf_10 (σ : St) : Nat → Int32 → Int32 → Int32 → Int32 → Option Int64
  | 0, _, _, _, _ => none
  | n + 1, x1, x2, x3, x4 => BX11_pointOf_10 (LX11_pointOf_10 σ n) σ x1 x2 x3 x4
theorem okLX11_pointOf_10 {E : ET} {X : XT} {z : Int64} {σ : St} (O : Ok (YM E) X cX11_pointOf 6 RX11 (some .long) rmX11_pointOf (some (.long z)) σ) : ∀ (n : Nat) (x1 : Int32) (x2 : Int32) (x3 : Int32) (x4 : Int32), LX11_pointOf_10 σ n x1 x2 x3 x4 = some z → At (YM E) X 6 10 [(0, .ref (E.2.2.2.2 0)), (1, .int x1), (2, .int x2), (3, .int x3), (4, .int x4)] [] σ := by
  intro n
  induction n with
  | zero =>
    intro x1 x2 x3 x4 hf
    rw [LX11_pointOf_10] at hf
    cases hf
  | succ n ih =>
    intro x1 x2 x3 x4 hf
    rw [LX11_pointOf_10] at hf
    exact okBX11_pointOf_10 O (LX11_pointOf_10 σ n) ih x1 x2 x3 x4 hf
def fX11_pointOf (a0 : Int32) (σ : St) : Option Int64 :=
  (fX11_inAll σ).bind (fun z1 => LX11_pointOf_10 σ fu a0 z1 0 0)
set_option maxRecDepth 100000 in
theorem ctX11_pointOf {E : ET} (hE : Dj (YM E)) (a0 : Int32) (σ : St) (z : Int64) (hf : fX11_pointOf a0 σ = some z) : Ct (YM E) yX11_pointOf cX11_pointOf 6 (some .long) rmX11_pointOf [.ref (E.2.2.2.2 0), .int a0] σ (some (.long z)) σ := by
  refine Ct.of hE (by decide) (Nat.le_of_ble_eq_true rfl) (fun X O => ?_)
  have O : Ok (YM E) X cX11_pointOf 6 RX11 (some .long) rmX11_pointOf (some (.long z)) σ := O
  show At (YM E) X 6 0 [(0, .ref (E.2.2.2.2 0)), (1, .int a0)] [] σ
  unfold fX11_pointOf at hf
  refine a_aload_n (pc' := 1) O dX11_pointOf_0 rfl 0 rfl rfl ?_
  obtain ⟨z1, h2, hf⟩ := bd_some hf
  refine a_callVI (pc' := 4) (n := 0) (As := []) (st := []) (q0 := 0) O (ctX11_inAll hE σ z1 h2) wm_512 wm_513 wm_514 wm_5 wm_515 (by decide +kernel) (by decide) (gM_0 E _) hc_11 rfl rfl rfl (Nat.le_of_ble_eq_true rfl) dX11_pointOf_1 rfl ?_
  refine a_istore_n (pc' := 5) (lv' := [(2, .int z1), (0, .ref (E.2.2.2.2 0)), (1, .int a0)]) O dX11_pointOf_4 rfl (by decide) rfl rfl ?_
  refine a_iconst (pc' := 6) (v := 0) O dX11_pointOf_5 (by decide) rfl ?_
  refine a_istore_n (pc' := 7) (lv' := [(3, .int 0), (2, .int z1), (0, .ref (E.2.2.2.2 0)), (1, .int a0)]) O dX11_pointOf_6 rfl (by decide) rfl rfl ?_
  refine a_iconst (pc' := 8) (v := 0) O dX11_pointOf_7 (by decide) rfl ?_
  refine a_istore (pc' := 10) (lv' := [(4, .int 0), (3, .int 0), (2, .int z1), (0, .ref (E.2.2.2.2 0)), (1, .int a0)]) O dX11_pointOf_8 (by decide) rfl rfl ?_
  exact a_sub [3, 4, 2, 1, 0] rfl (okLX11_pointOf_10 O fu a0 z1 0 0 hf)
def rmX11_point : Room := { frames := 4, cells := 0, slots := 0, locals := 89 }
def fX11_point (a0 : Int32) (σ : St) : Option (Int64 × St) :=
  (fX11_reads σ).bind (fun z1 => (fX11_isTwo a0).bind (fun z3 => if z3 = 0 then (fX11_no (-2)).bind (fun z5 => some (z5, z1)) else ((fX11_pointOf a0 z1).bind (fun z7 => some (z7, z1)))))
set_option maxRecDepth 100000 in
theorem ctX11_point {E : ET} (hE : Dj (YM E)) (a0 : Int32) (σ : St) (z : Int64 × St) (hf : fX11_point a0 σ = some z) : Ct (YM E) yX11_point cX11_point 2 (some .long) rmX11_point [.ref (E.2.2.2.2 0), .int a0] σ (some (.long z.1)) z.2 := by
  refine Ct.of hE (by decide) (Nat.le_of_ble_eq_true rfl) (fun X O => ?_)
  have O : Ok (YM E) X cX11_point 2 RX11 (some .long) rmX11_point (some (.long z.1)) z.2 := O
  show At (YM E) X 2 0 [(0, .ref (E.2.2.2.2 0)), (1, .int a0)] [] σ
  unfold fX11_point at hf
  refine a_aload_n (pc' := 1) O dX11_point_0 rfl 0 rfl rfl ?_
  obtain ⟨z1, h2, hf⟩ := bd_some hf
  refine a_callVN (pc' := 4) (n := 0) (As := []) (st := []) (q0 := 0) O (ctX11_reads hE σ z1 h2) wm_286 wm_287 wm_288 wm_5 wm_289 (by decide +kernel) (by decide) (gM_0 E _) hc_11 rfl rfl rfl (Nat.le_of_ble_eq_true rfl) dX11_point_1 rfl ?_
  refine a_iload_n (pc' := 5) O dX11_point_4 rfl 1 rfl rfl ?_
  obtain ⟨z3, h4, hf⟩ := bd_some hf
  refine a_callSI (pc' := 8) (n := 1) (As := [.int a0]) (st := []) O (ctX11_isTwo hE a0 z1 z3 h4) wm_198 wm_199 wm_5 wm_200 (by decide +kernel) (by decide) rfl rfl (Nat.le_of_ble_eq_true rfl) dX11_point_5 rfl ?_
  refine a_if_eq (pc' := 11) (tgt := 19) O dX11_point_8 (by decide) rfl hf (fun hf => ?_) (fun hf => ?_)
  · refine a_bipush (pc' := 21) (v := (-2)) O dX11_point_19 (by decide) rfl ?_
    obtain ⟨z5, h6, hf⟩ := bd_some hf
    refine a_callSL (pc' := 24) (n := 1) (As := [.int (-2)]) (st := []) O (ctX11_no hE (-2) z1 z5 h6) wm_433 wm_434 wm_5 wm_435 (by decide +kernel) (by decide) rfl rfl (Nat.le_of_ble_eq_true rfl) dX11_point_21 rfl ?_
    exact a_lret O hf dX11_point_24
  · refine a_aload_n (pc' := 12) O dX11_point_11 rfl 0 rfl rfl ?_
    refine a_iload_n (pc' := 13) O dX11_point_12 rfl 1 rfl rfl ?_
    obtain ⟨z7, h8, hf⟩ := bd_some hf
    refine a_callVL (pc' := 16) (n := 1) (As := [.int a0]) (st := []) (q0 := 0) O (ctX11_pointOf hE a0 z1 z7 h8) wm_508 wm_509 wm_510 wm_5 wm_511 (by decide +kernel) (by decide) (gM_0 E _) hc_11 rfl rfl rfl (Nat.le_of_ble_eq_true rfl) dX11_point_13 rfl ?_
    refine a_goto (tgt := 24) O dX11_point_16 (by decide) ?_
    exact a_lret O hf dX11_point_24
def rmX11_going : Room := { frames := 0, cells := 0, slots := 0, locals := 0 }
def BX11_going_4 (k4 : Int32 → Int32 → Option Int32) (σ : St) (x1 : Int32) (x2 : Int32) : Option Int32 :=
  if (σ.1 12) ≤ x2 then some x1 else (gIn x2 4 (if (σ.2.2 11 x2.toNatClampNeg) = 0 then bI (x1 + 0) (fun v1 => bI (x2 + 1) (fun v2 => k4 v1 v2)) else (bI (x1 + 1) (fun v3 => bI (x2 + 1) (fun v4 => k4 v3 v4)))))
set_option maxRecDepth 100000 in
theorem okBX11_going_4 {E : ET} {X : XT} {z : Int32} {σ : St} (O : Ok (YM E) X cX11_going 3 RX11 (some .int) rmX11_going (some (.int z)) σ) (k4 : Int32 → Int32 → Option Int32) (hk4 : ∀ (x1 : Int32) (x2 : Int32), k4 x1 x2 = some z → At (YM E) X 3 4 [(0, .ref (E.2.2.2.2 0)), (1, .int x1), (2, .int x2)] [] σ) (x1 : Int32) (x2 : Int32) (hf : BX11_going_4 k4 σ x1 x2 = some z) : At (YM E) X 3 4 [(0, .ref (E.2.2.2.2 0)), (1, .int x1), (2, .int x2)] [] σ := by
  have hE := O.2.2.2.2.2.2.2.2.2.1
  unfold BX11_going_4 at hf
  refine a_iload_n (pc' := 5) O dX11_going_4 rfl 2 rfl rfl ?_
  refine a_aload_n (pc' := 6) O dX11_going_5 rfl 0 rfl rfl ?_
  refine gfM_0_12 (pc' := 9) O dX11_going_6 rfl ?_
  refine a_icmp_ge (pc' := 12) (tgt := 35) O dX11_going_9 (by decide) rfl hf (fun hf => ?_) (fun hf => ?_)
  · refine a_iload_n (pc' := 36) O dX11_going_35 rfl 1 rfl rfl ?_
    exact a_iretP O hf dX11_going_36
  · refine a_iload_n (pc' := 13) O dX11_going_12 rfl 1 rfl rfl ?_
    refine a_aload_n (pc' := 14) O dX11_going_13 rfl 0 rfl rfl ?_
    refine gfM_0_18 (pc' := 17) O dX11_going_14 rfl ?_
    refine a_iload_n (pc' := 18) O dX11_going_17 rfl 2 rfl rfl ?_
    refine laM_11 (pc' := 19) O hf dX11_going_18 rfl (fun hf => ?_)
    refine a_if_eq (pc' := 22) (tgt := 26) O dX11_going_19 (by decide) rfl hf (fun hf => ?_) (fun hf => ?_)
    · refine a_iconst (pc' := 27) (v := 0) O dX11_going_26 (by decide) rfl ?_
      refine a_iadd (pc' := 28) O dX11_going_27 rfl ?_
      refine a_topi hf (fun v1 hf => ?_)
      refine a_istore_n (pc' := 29) (lv' := [(1, .int v1), (0, .ref (E.2.2.2.2 0)), (2, .int x2)]) O dX11_going_28 rfl (by decide) rfl rfl ?_
      refine a_iincB (pc' := 32) (lv' := fun v2 => [(2, .int v2), (1, .int v1), (0, .ref (E.2.2.2.2 0))]) (c0 := 1) O dX11_going_29 2 rfl (by decide) (by decide) (fun _ => rfl) rfl hf (fun v2 hf => ?_)
      refine a_goto (tgt := 4) O dX11_going_32 (by decide) ?_
      exact a_sub [2, 1, 0] rfl (hk4 v1 v2 hf)
    · refine a_iconst (pc' := 23) (v := 1) O dX11_going_22 (by decide) rfl ?_
      refine a_goto (tgt := 27) O dX11_going_23 (by decide) ?_
      refine a_iadd (pc' := 28) O dX11_going_27 rfl ?_
      refine a_topi hf (fun v3 hf => ?_)
      refine a_istore_n (pc' := 29) (lv' := [(1, .int v3), (0, .ref (E.2.2.2.2 0)), (2, .int x2)]) O dX11_going_28 rfl (by decide) rfl rfl ?_
      refine a_iincB (pc' := 32) (lv' := fun v4 => [(2, .int v4), (1, .int v3), (0, .ref (E.2.2.2.2 0))]) (c0 := 1) O dX11_going_29 2 rfl (by decide) (by decide) (fun _ => rfl) rfl hf (fun v4 hf => ?_)
      refine a_goto (tgt := 4) O dX11_going_32 (by decide) ?_
      exact a_sub [2, 1, 0] rfl (hk4 v3 v4 hf)
def LX11_going_4 (σ : St) : Nat → Int32 → Int32 → Option Int32
  | 0, _, _ => none
  | n + 1, x1, x2 => BX11_going_4 (LX11_going_4 σ n) σ x1 x2
theorem okLX11_going_4 {E : ET} {X : XT} {z : Int32} {σ : St} (O : Ok (YM E) X cX11_going 3 RX11 (some .int) rmX11_going (some (.int z)) σ) : ∀ (n : Nat) (x1 : Int32) (x2 : Int32), LX11_going_4 σ n x1 x2 = some z → At (YM E) X 3 4 [(0, .ref (E.2.2.2.2 0)), (1, .int x1), (2, .int x2)] [] σ := by
  intro n
  induction n with
  | zero =>
    intro x1 x2 hf
    rw [LX11_going_4] at hf
    cases hf
  | succ n ih =>
    intro x1 x2 hf
    rw [LX11_going_4] at hf
    exact okBX11_going_4 O (LX11_going_4 σ n) ih x1 x2 hf
def fX11_going (σ : St) : Option Int32 :=
  LX11_going_4 σ fu 0 0
set_option maxRecDepth 100000 in
theorem ctX11_going {E : ET} (hE : Dj (YM E)) (σ : St) (z : Int32) (hf : fX11_going σ = some z) : Ct (YM E) yX11_going cX11_going 3 (some .int) rmX11_going [.ref (E.2.2.2.2 0)] σ (some (.int z)) σ := by
  refine Ct.of hE (by decide) (Nat.le_of_ble_eq_true rfl) (fun X O => ?_)
  have O : Ok (YM E) X cX11_going 3 RX11 (some .int) rmX11_going (some (.int z)) σ := O
  show At (YM E) X 3 0 [(0, .ref (E.2.2.2.2 0))] [] σ
  unfold fX11_going at hf
  refine a_iconst (pc' := 1) (v := 0) O dX11_going_0 (by decide) rfl ?_
  refine a_istore_n (pc' := 2) (lv' := [(1, .int 0), (0, .ref (E.2.2.2.2 0))]) O dX11_going_1 rfl (by decide) rfl rfl ?_
  refine a_iconst (pc' := 3) (v := 0) O dX11_going_2 (by decide) rfl ?_
  refine a_istore_n (pc' := 4) (lv' := [(2, .int 0), (1, .int 0), (0, .ref (E.2.2.2.2 0))]) O dX11_going_3 rfl (by decide) rfl rfl ?_
  exact a_sub [2, 1, 0] rfl (okLX11_going_4 O fu 0 0 hf)
def rmX11_fails : Room := { frames := 0, cells := 0, slots := 0, locals := 0 }
def fX11_fails (a0 : Int32) (σ : St) : Option St :=
  gIn a0 4 (bS (sA σ 11 a0.toNatClampNeg 0) (fun σ1 => gIn a0 4 (bS (sA σ1 10 a0.toNatClampNeg 0) (fun σ2 => some σ2))))
set_option maxRecDepth 100000 in
theorem ctX11_fails {E : ET} (hE : Dj (YM E)) (a0 : Int32) (σ : St) (z : St) (hf : fX11_fails a0 σ = some z) : Ct (YM E) yX11_fails cX11_fails 2 none rmX11_fails [.ref (E.2.2.2.2 0), .int a0] σ none z := by
  refine Ct.of hE (by decide) (Nat.le_of_ble_eq_true rfl) (fun X O => ?_)
  have O : Ok (YM E) X cX11_fails 2 RX11 none rmX11_fails none z := O
  show At (YM E) X 2 0 [(0, .ref (E.2.2.2.2 0)), (1, .int a0)] [] σ
  unfold fX11_fails at hf
  refine a_aload_n (pc' := 1) O dX11_fails_0 rfl 0 rfl rfl ?_
  refine gfM_0_18 (pc' := 4) O dX11_fails_1 rfl ?_
  refine a_iload_n (pc' := 5) O dX11_fails_4 rfl 1 rfl rfl ?_
  refine a_iconst (pc' := 6) (v := 0) O dX11_fails_5 (by decide) rfl ?_
  refine saM_11 (pc' := 7) O (Or.inl rfl) hf dX11_fails_6 rfl (fun σ1 hf => ?_)
  refine a_aload_n (pc' := 8) O dX11_fails_7 rfl 0 rfl rfl ?_
  refine gfM_0_17 (pc' := 11) O dX11_fails_8 rfl ?_
  refine a_iload_n (pc' := 12) O dX11_fails_11 rfl 1 rfl rfl ?_
  refine a_iconst (pc' := 13) (v := 0) O dX11_fails_12 (by decide) rfl ?_
  refine saM_10 (pc' := 14) O hf dX11_fails_13 rfl (fun σ2 hf => ?_)
  exact a_vret O hf dX11_fails_14
def rmX11_lights : Room := { frames := 1, cells := 0, slots := 0, locals := 22 }
def BX11_lights_57 (k57 : St → Int32 → Int32 → Int32 → Int32 → Int32 → Option (Int32 × St)) (k5 : St → Int32 → Int32 → Int32 → Int32 → Option (Int32 × St)) (σ : St) (x1 : Int32) (x2 : Int32) (x3 : Int32) (x4 : Int32) (x6 : Int32) : Option (Int32 × St) :=
  if (σ.1 12) ≤ x6 then k5 σ x1 x2 x3 x4 else (gIn x6 4 (if (σ.2.2 11 x6.toNatClampNeg) = 0 then bI (x6 + 1) (fun v7 => k57 σ x1 x2 x3 x4 v7) else (gIn x6 4 (if x4 ≤ (σ.2.2 10 x6.toNatClampNeg) then bI (x6 + 1) (fun v8 => k57 σ x1 x2 x3 x4 v8) else ((fX11_fails x6 σ).bind (fun z9 => bI (x6 + 1) (fun v11 => k57 z9 x1 x2 1 x4 v11)))))))
set_option maxRecDepth 100000 in
theorem okBX11_lights_57 {E : ET} {X : XT} {z : Int32 × St} (O : Ok (YM E) X cX11_lights 7 RX11 (some .int) rmX11_lights (some (.int z.1)) z.2) (k57 : St → Int32 → Int32 → Int32 → Int32 → Int32 → Option (Int32 × St)) (hk57 : ∀ (σ : St) (x1 : Int32) (x2 : Int32) (x3 : Int32) (x4 : Int32) (x6 : Int32), k57 σ x1 x2 x3 x4 x6 = some z → At (YM E) X 7 57 [(0, .ref (E.2.2.2.2 0)), (1, .int x1), (2, .int x2), (3, .int x3), (4, .int x4), (6, .int x6)] [] σ) (k5 : St → Int32 → Int32 → Int32 → Int32 → Option (Int32 × St)) (hk5 : ∀ (σ : St) (x1 : Int32) (x2 : Int32) (x3 : Int32) (x4 : Int32), k5 σ x1 x2 x3 x4 = some z → At (YM E) X 7 5 [(0, .ref (E.2.2.2.2 0)), (1, .int x1), (2, .int x2), (3, .int x3), (4, .int x4)] [] σ) (σ : St) (x1 : Int32) (x2 : Int32) (x3 : Int32) (x4 : Int32) (x6 : Int32) (hf : BX11_lights_57 k57 k5 σ x1 x2 x3 x4 x6 = some z) : At (YM E) X 7 57 [(0, .ref (E.2.2.2.2 0)), (1, .int x1), (2, .int x2), (3, .int x3), (4, .int x4), (6, .int x6)] [] σ := by
  have hE := O.2.2.2.2.2.2.2.2.2.1
  unfold BX11_lights_57 at hf
  refine a_iload (pc' := 59) O dX11_lights_57 5 rfl rfl ?_
  refine a_aload_n (pc' := 60) O dX11_lights_59 rfl 0 rfl rfl ?_
  refine gfM_0_12 (pc' := 63) O dX11_lights_60 rfl ?_
  refine a_icmp_ge (pc' := 66) (tgt := 102) O dX11_lights_63 (by decide) rfl hf (fun hf => ?_) (fun hf => ?_)
  · refine a_goto (tgt := 5) O dX11_lights_102 (by decide) ?_
    exact a_sub [0, 1, 2, 3, 4] rfl (hk5 σ x1 x2 x3 x4 hf)
  · refine a_aload_n (pc' := 67) O dX11_lights_66 rfl 0 rfl rfl ?_
    refine gfM_0_18 (pc' := 70) O dX11_lights_67 rfl ?_
    refine a_iload (pc' := 72) O dX11_lights_70 5 rfl rfl ?_
    refine laM_11 (pc' := 73) O hf dX11_lights_72 rfl (fun hf => ?_)
    refine a_if_eq (pc' := 76) (tgt := 96) O dX11_lights_73 (by decide) rfl hf (fun hf => ?_) (fun hf => ?_)
    · refine a_iincB (pc' := 99) (lv' := fun v7 => [(6, .int v7), (0, .ref (E.2.2.2.2 0)), (1, .int x1), (2, .int x2), (3, .int x3), (4, .int x4)]) (c0 := 1) O dX11_lights_96 5 rfl (by decide) (by decide) (fun _ => rfl) rfl hf (fun v7 hf => ?_)
      refine a_goto (tgt := 57) O dX11_lights_99 (by decide) ?_
      exact a_sub [1, 2, 3, 4, 5, 0] rfl (hk57 σ x1 x2 x3 x4 v7 hf)
    · refine a_aload_n (pc' := 77) O dX11_lights_76 rfl 0 rfl rfl ?_
      refine gfM_0_17 (pc' := 80) O dX11_lights_77 rfl ?_
      refine a_iload (pc' := 82) O dX11_lights_80 5 rfl rfl ?_
      refine laM_10 (pc' := 83) O hf dX11_lights_82 rfl (fun hf => ?_)
      refine a_iload (pc' := 85) O dX11_lights_83 4 rfl rfl ?_
      refine a_icmp_ge (pc' := 88) (tgt := 96) O dX11_lights_85 (by decide) rfl hf (fun hf => ?_) (fun hf => ?_)
      · refine a_iincB (pc' := 99) (lv' := fun v8 => [(6, .int v8), (0, .ref (E.2.2.2.2 0)), (1, .int x1), (2, .int x2), (3, .int x3), (4, .int x4)]) (c0 := 1) O dX11_lights_96 5 rfl (by decide) (by decide) (fun _ => rfl) rfl hf (fun v8 hf => ?_)
        refine a_goto (tgt := 57) O dX11_lights_99 (by decide) ?_
        exact a_sub [1, 2, 3, 4, 5, 0] rfl (hk57 σ x1 x2 x3 x4 v8 hf)
      · refine a_aload_n (pc' := 89) O dX11_lights_88 rfl 0 rfl rfl ?_
        refine a_iload (pc' := 91) O dX11_lights_89 5 rfl rfl ?_
        obtain ⟨z9, h10, hf⟩ := bd_some hf
        refine a_callVN (pc' := 94) (n := 1) (As := [.int x6]) (st := []) (q0 := 0) O (ctX11_fails hE x6 σ z9 h10) wm_598 wm_599 wm_600 wm_5 wm_601 (by decide +kernel) (by decide) (gM_0 E _) hc_11 rfl rfl rfl (Nat.le_of_ble_eq_true rfl) dX11_lights_91 rfl ?_
        refine a_iconst (pc' := 95) (v := 1) O dX11_lights_94 (by decide) rfl ?_
        refine a_istore_n (pc' := 96) (lv' := [(3, .int 1), (0, .ref (E.2.2.2.2 0)), (1, .int x1), (2, .int x2), (4, .int x4), (6, .int x6)]) O dX11_lights_95 rfl (by decide) rfl rfl ?_
        refine a_iincB (pc' := 99) (lv' := fun v11 => [(6, .int v11), (3, .int 1), (0, .ref (E.2.2.2.2 0)), (1, .int x1), (2, .int x2), (4, .int x4)]) (c0 := 1) O dX11_lights_96 5 rfl (by decide) (by decide) (fun _ => rfl) rfl hf (fun v11 hf => ?_)
        refine a_goto (tgt := 57) O dX11_lights_99 (by decide) ?_
        exact a_sub [2, 3, 4, 1, 5, 0] rfl (hk57 z9 x1 x2 1 x4 v11 hf)
def LX11_lights_57 (k5 : St → Int32 → Int32 → Int32 → Int32 → Option (Int32 × St)) : Nat → St → Int32 → Int32 → Int32 → Int32 → Int32 → Option (Int32 × St)
  | 0, _, _, _, _, _, _ => none
  | n + 1, σ, x1, x2, x3, x4, x6 => BX11_lights_57 (LX11_lights_57 k5 n) k5 σ x1 x2 x3 x4 x6
theorem okLX11_lights_57 {E : ET} {X : XT} {z : Int32 × St} (O : Ok (YM E) X cX11_lights 7 RX11 (some .int) rmX11_lights (some (.int z.1)) z.2) (k5 : St → Int32 → Int32 → Int32 → Int32 → Option (Int32 × St)) (hk5 : ∀ (σ : St) (x1 : Int32) (x2 : Int32) (x3 : Int32) (x4 : Int32), k5 σ x1 x2 x3 x4 = some z → At (YM E) X 7 5 [(0, .ref (E.2.2.2.2 0)), (1, .int x1), (2, .int x2), (3, .int x3), (4, .int x4)] [] σ) : ∀ (n : Nat) (σ : St) (x1 : Int32) (x2 : Int32) (x3 : Int32) (x4 : Int32) (x6 : Int32), LX11_lights_57 k5 n σ x1 x2 x3 x4 x6 = some z → At (YM E) X 7 57 [(0, .ref (E.2.2.2.2 0)), (1, .int x1), (2, .int x2), (3, .int x3), (4, .int x4), (6, .int x6)] [] σ := by
  intro n
  induction n with
  | zero =>
    intro σ x1 x2 x3 x4 x6 hf
    rw [LX11_lights_57] at hf
    cases hf
  | succ n ih =>
    intro σ x1 x2 x3 x4 x6 hf
    rw [LX11_lights_57] at hf
    exact okBX11_lights_57 O (LX11_lights_57 k5 n) ih k5 hk5 σ x1 x2 x3 x4 x6 hf
def BX11_lights_5 (k5 : St → Int32 → Int32 → Int32 → Int32 → Option (Int32 × St)) (σ : St) (x1 : Int32) (x2 : Int32) (x3 : Int32) (x4 : Int32) : Option (Int32 × St) :=
  if x3 = 0 then some (x4, σ) else ((fX11_going σ).bind (fun z1 => if z1 = 0 then LX11_lights_57 k5 fu σ x1 x2 0 0 0 else (if x2 = 0 then (fX11_toLight z1 σ).bind (fun z3 => (fX11_outBy x1 z3 σ).bind (fun z5 => LX11_lights_57 k5 fu σ x1 x2 0 z5 0)) else (gIn (3 * x1) 48 (bI (σ.2.2 7 (3 * x1).toNatClampNeg) (fun v12 => LX11_lights_57 k5 fu σ x1 x2 0 v12 0))))))
set_option maxRecDepth 100000 in
theorem okBX11_lights_5 {E : ET} {X : XT} {z : Int32 × St} (O : Ok (YM E) X cX11_lights 7 RX11 (some .int) rmX11_lights (some (.int z.1)) z.2) (k5 : St → Int32 → Int32 → Int32 → Int32 → Option (Int32 × St)) (hk5 : ∀ (σ : St) (x1 : Int32) (x2 : Int32) (x3 : Int32) (x4 : Int32), k5 σ x1 x2 x3 x4 = some z → At (YM E) X 7 5 [(0, .ref (E.2.2.2.2 0)), (1, .int x1), (2, .int x2), (3, .int x3), (4, .int x4)] [] σ) (σ : St) (x1 : Int32) (x2 : Int32) (x3 : Int32) (x4 : Int32) (hf : BX11_lights_5 k5 σ x1 x2 x3 x4 = some z) : At (YM E) X 7 5 [(0, .ref (E.2.2.2.2 0)), (1, .int x1), (2, .int x2), (3, .int x3), (4, .int x4)] [] σ := by
  have hE := O.2.2.2.2.2.2.2.2.2.1
  unfold BX11_lights_5 at hf
  refine a_iload_n (pc' := 6) O dX11_lights_5 rfl 3 rfl rfl ?_
  refine a_if_eq (pc' := 9) (tgt := 105) O dX11_lights_6 (by decide) rfl hf (fun hf => ?_) (fun hf => ?_)
  · refine a_iload (pc' := 107) O dX11_lights_105 4 rfl rfl ?_
    exact a_iret O hf dX11_lights_107
  · refine a_iconst (pc' := 10) (v := 0) O dX11_lights_9 (by decide) rfl ?_
    refine a_istore_n (pc' := 11) (lv' := [(3, .int 0), (0, .ref (E.2.2.2.2 0)), (1, .int x1), (2, .int x2), (4, .int x4)]) O dX11_lights_10 rfl (by decide) rfl rfl ?_
    refine a_aload_n (pc' := 12) O dX11_lights_11 rfl 1 rfl rfl ?_
    obtain ⟨z1, h2, hf⟩ := bd_some hf
    refine a_callVI (pc' := 15) (n := 0) (As := []) (st := []) (q0 := 0) O (ctX11_going hE σ z1 h2) wm_594 wm_595 wm_596 wm_5 wm_597 (by decide +kernel) (by decide) (gM_0 E _) hc_11 rfl rfl rfl (Nat.le_of_ble_eq_true rfl) dX11_lights_12 rfl ?_
    refine a_istore (pc' := 17) (lv' := [(5, .int z1), (3, .int 0), (0, .ref (E.2.2.2.2 0)), (1, .int x1), (2, .int x2), (4, .int x4)]) O dX11_lights_15 (by decide) rfl rfl ?_
    refine a_iload (pc' := 19) O dX11_lights_17 0 rfl rfl ?_
    refine a_if_ne (pc' := 22) (tgt := 26) O dX11_lights_19 (by decide) rfl hf (fun hf => ?_) (fun hf => ?_)
    · refine a_iload_n (pc' := 27) O dX11_lights_26 rfl 4 rfl rfl ?_
      refine a_if_eq (pc' := 30) (tgt := 41) O dX11_lights_27 (by decide) rfl hf (fun hf => ?_) (fun hf => ?_)
      · refine a_aload_n (pc' := 42) O dX11_lights_41 rfl 2 rfl rfl ?_
        refine a_iload_n (pc' := 43) O dX11_lights_42 rfl 3 rfl rfl ?_
        refine a_aload_n (pc' := 44) O dX11_lights_43 rfl 2 rfl rfl ?_
        refine a_iload (pc' := 46) O dX11_lights_44 0 rfl rfl ?_
        obtain ⟨z3, h4, hf⟩ := bd_some hf
        refine a_callVI (pc' := 49) (n := 1) (As := [.int z1]) (st := [.int x1, .ref (E.2.2.2.2 0)]) (q0 := 0) O (ctX11_toLight hE z1 σ z3 h4) wm_470 wm_471 wm_472 wm_5 wm_473 (by decide +kernel) (by decide) (gM_0 E _) hc_11 rfl rfl rfl (Nat.le_of_ble_eq_true rfl) dX11_lights_46 rfl ?_
        obtain ⟨z5, h6, hf⟩ := bd_some hf
        refine a_callVI (pc' := 52) (n := 2) (As := [.int x1, .int z3]) (st := []) (q0 := 0) O (ctX11_outBy hE x1 z3 σ z5 h6) wm_426 wm_427 wm_428 wm_5 wm_429 (by decide +kernel) (by decide) (gM_0 E _) hc_11 rfl rfl rfl (Nat.le_of_ble_eq_true rfl) dX11_lights_49 rfl ?_
        refine a_istore (pc' := 54) (lv' := [(4, .int z5), (5, .int z1), (3, .int 0), (0, .ref (E.2.2.2.2 0)), (1, .int x1), (2, .int x2)]) O dX11_lights_52 (by decide) rfl rfl ?_
        refine a_iconst (pc' := 55) (v := 0) O dX11_lights_54 (by decide) rfl ?_
        refine a_istore (pc' := 57) (lv' := [(6, .int 0), (4, .int z5), (5, .int z1), (3, .int 0), (0, .ref (E.2.2.2.2 0)), (1, .int x1), (2, .int x2)]) O dX11_lights_55 (by decide) rfl rfl ?_
        exact a_sub [4, 5, 6, 3, 1, 0] rfl (okLX11_lights_57 O k5 hk5 fu σ x1 x2 0 z5 0 hf)
      · refine a_aload_n (pc' := 31) O dX11_lights_30 rfl 2 rfl rfl ?_
        refine gfM_0_9 (pc' := 34) O dX11_lights_31 rfl ?_
        refine a_iconst (pc' := 35) (v := 3) O dX11_lights_34 (by decide) rfl ?_
        refine a_iload_n (pc' := 36) O dX11_lights_35 rfl 3 rfl rfl ?_
        refine a_imul (pc' := 37) O dX11_lights_36 rfl ?_
        refine laM_7 (pc' := 38) O hf dX11_lights_37 rfl (fun hf => ?_)
        refine a_goto (tgt := 52) O dX11_lights_38 (by decide) ?_
        refine a_topi hf (fun v12 hf => ?_)
        refine a_istore (pc' := 54) (lv' := [(4, .int v12), (5, .int z1), (3, .int 0), (0, .ref (E.2.2.2.2 0)), (1, .int x1), (2, .int x2)]) O dX11_lights_52 (by decide) rfl rfl ?_
        refine a_iconst (pc' := 55) (v := 0) O dX11_lights_54 (by decide) rfl ?_
        refine a_istore (pc' := 57) (lv' := [(6, .int 0), (4, .int v12), (5, .int z1), (3, .int 0), (0, .ref (E.2.2.2.2 0)), (1, .int x1), (2, .int x2)]) O dX11_lights_55 (by decide) rfl rfl ?_
        exact a_sub [4, 5, 6, 3, 1, 0] rfl (okLX11_lights_57 O k5 hk5 fu σ x1 x2 0 v12 0 hf)
    · refine a_iconst (pc' := 23) (v := 0) O dX11_lights_22 (by decide) rfl ?_
      refine a_goto (tgt := 52) O dX11_lights_23 (by decide) ?_
      refine a_istore (pc' := 54) (lv' := [(4, .int 0), (5, .int z1), (3, .int 0), (0, .ref (E.2.2.2.2 0)), (1, .int x1), (2, .int x2)]) O dX11_lights_52 (by decide) rfl rfl ?_
      refine a_iconst (pc' := 55) (v := 0) O dX11_lights_54 (by decide) rfl ?_
      refine a_istore (pc' := 57) (lv' := [(6, .int 0), (4, .int 0), (5, .int z1), (3, .int 0), (0, .ref (E.2.2.2.2 0)), (1, .int x1), (2, .int x2)]) O dX11_lights_55 (by decide) rfl rfl ?_
      exact a_sub [4, 5, 6, 3, 1, 0] rfl (okLX11_lights_57 O k5 hk5 fu σ x1 x2 0 0 0 hf)
def LX11_lights_5 : Nat → St → Int32 → Int32 → Int32 → Int32 → Option (Int32 × St)
  | 0, _, _, _, _, _ => none
  | n + 1, σ, x1, x2, x3, x4 => BX11_lights_5 (LX11_lights_5 n) σ x1 x2 x3 x4
theorem okLX11_lights_5 {E : ET} {X : XT} {z : Int32 × St} (O : Ok (YM E) X cX11_lights 7 RX11 (some .int) rmX11_lights (some (.int z.1)) z.2) : ∀ (n : Nat) (σ : St) (x1 : Int32) (x2 : Int32) (x3 : Int32) (x4 : Int32), LX11_lights_5 n σ x1 x2 x3 x4 = some z → At (YM E) X 7 5 [(0, .ref (E.2.2.2.2 0)), (1, .int x1), (2, .int x2), (3, .int x3), (4, .int x4)] [] σ := by
  intro n
  induction n with
  | zero =>
    intro σ x1 x2 x3 x4 hf
    rw [LX11_lights_5] at hf
    cases hf
  | succ n ih =>
    intro σ x1 x2 x3 x4 hf
    rw [LX11_lights_5] at hf
    exact okBX11_lights_5 O (LX11_lights_5 n) ih σ x1 x2 x3 x4 hf
def fX11_lights (a0 : Int32) (a1 : Int32) (σ : St) : Option (Int32 × St) :=
  LX11_lights_5 fu σ a0 a1 1 0
set_option maxRecDepth 100000 in
theorem ctX11_lights {E : ET} (hE : Dj (YM E)) (a0 : Int32) (a1 : Int32) (σ : St) (z : Int32 × St) (hf : fX11_lights a0 a1 σ = some z) : Ct (YM E) yX11_lights cX11_lights 7 (some .int) rmX11_lights [.ref (E.2.2.2.2 0), .int a0, .int a1] σ (some (.int z.1)) z.2 := by
  refine Ct.of hE (by decide) (Nat.le_of_ble_eq_true rfl) (fun X O => ?_)
  have O : Ok (YM E) X cX11_lights 7 RX11 (some .int) rmX11_lights (some (.int z.1)) z.2 := O
  show At (YM E) X 7 0 [(0, .ref (E.2.2.2.2 0)), (1, .int a0), (2, .int a1)] [] σ
  unfold fX11_lights at hf
  refine a_iconst (pc' := 1) (v := 1) O dX11_lights_0 (by decide) rfl ?_
  refine a_istore_n (pc' := 2) (lv' := [(3, .int 1), (0, .ref (E.2.2.2.2 0)), (1, .int a0), (2, .int a1)]) O dX11_lights_1 rfl (by decide) rfl rfl ?_
  refine a_iconst (pc' := 3) (v := 0) O dX11_lights_2 (by decide) rfl ?_
  refine a_istore (pc' := 5) (lv' := [(4, .int 0), (3, .int 1), (0, .ref (E.2.2.2.2 0)), (1, .int a0), (2, .int a1)]) O dX11_lights_3 (by decide) rfl rfl ?_
  exact a_sub [2, 3, 4, 1, 0] rfl (okLX11_lights_5 O fu σ a0 a1 1 0 hf)
def rmX11_steps : Room := { frames := 2, cells := 0, slots := 0, locals := 48 }
def BX11_steps_132 (σ : St) (x1 : Int32) (x4 : Int32) : Option (Int32 × St) :=
  bS (sI σ 15 ((σ.1 15) + x4)) (fun σ6 => if x4 = 0 then bS (sI σ6 14 ((σ6.1 14) + 0)) (fun σ9 => if x4 ≤ 0 then some (0, σ9) else (some (1, σ9))) else (if x1 = 0 then bS (sI σ6 14 ((σ6.1 14) + (-1))) (fun σ7 => if x4 ≤ 0 then some (0, σ7) else (some (1, σ7))) else (bS (sI σ6 14 ((σ6.1 14) + 1)) (fun σ8 => if x4 ≤ 0 then some (0, σ8) else (some (1, σ8))))))
set_option maxRecDepth 100000 in
theorem okBX11_steps_132 {E : ET} {X : XT} {z : Int32 × St} (O : Ok (YM E) X cX11_steps 6 RX11 (some .boolean) rmX11_steps (some (.int z.1)) z.2) (σ : St) (x1 : Int32) (x4 : Int32) (hf : BX11_steps_132 σ x1 x4 = some z) : At (YM E) X 6 132 [(0, .ref (E.2.2.2.2 0)), (1, .int x1), (4, .int x4)] [] σ := by
  have hE := O.2.2.2.2.2.2.2.2.2.1
  unfold BX11_steps_132 at hf
  refine a_aload_n (pc' := 133) O dX11_steps_132 rfl 0 rfl rfl ?_
  refine a_dup (pc' := 134) O dX11_steps_133 rfl rfl ?_
  refine gfM_0_15 (pc' := 137) O dX11_steps_134 rfl ?_
  refine a_iload (pc' := 139) O dX11_steps_137 2 rfl rfl ?_
  refine a_iadd (pc' := 140) O dX11_steps_139 rfl ?_
  refine pfM_0_15 (pc' := 143) O hf dX11_steps_140 rfl (fun σ6 hf => ?_)
  refine a_aload_n (pc' := 144) O dX11_steps_143 rfl 0 rfl rfl ?_
  refine a_dup (pc' := 145) O dX11_steps_144 rfl rfl ?_
  refine gfM_0_14 (pc' := 148) O dX11_steps_145 rfl ?_
  refine a_iload (pc' := 150) O dX11_steps_148 2 rfl rfl ?_
  refine a_if_ne (pc' := 153) (tgt := 157) O dX11_steps_150 (by decide) rfl hf (fun hf => ?_) (fun hf => ?_)
  · refine a_iload_n (pc' := 158) O dX11_steps_157 rfl 1 rfl rfl ?_
    refine a_if_eq (pc' := 161) (tgt := 165) O dX11_steps_158 (by decide) rfl hf (fun hf => ?_) (fun hf => ?_)
    · refine a_iconst (pc' := 166) (v := (-1)) O dX11_steps_165 (by decide) rfl ?_
      refine a_iadd (pc' := 167) O dX11_steps_166 rfl ?_
      refine pfM_0_14 (pc' := 170) O hf dX11_steps_167 rfl (fun σ7 hf => ?_)
      refine a_iload (pc' := 172) O dX11_steps_170 2 rfl rfl ?_
      refine a_if_le (pc' := 175) (tgt := 179) O dX11_steps_172 (by decide) rfl hf (fun hf => ?_) (fun hf => ?_)
      · refine a_iconst (pc' := 180) (v := 0) O dX11_steps_179 (by decide) rfl ?_
        exact a_zret (Or.inl rfl) O hf dX11_steps_180
      · refine a_iconst (pc' := 176) (v := 1) O dX11_steps_175 (by decide) rfl ?_
        refine a_goto (tgt := 180) O dX11_steps_176 (by decide) ?_
        exact a_zret (Or.inr rfl) O hf dX11_steps_180
    · refine a_iconst (pc' := 162) (v := 1) O dX11_steps_161 (by decide) rfl ?_
      refine a_goto (tgt := 166) O dX11_steps_162 (by decide) ?_
      refine a_iadd (pc' := 167) O dX11_steps_166 rfl ?_
      refine pfM_0_14 (pc' := 170) O hf dX11_steps_167 rfl (fun σ8 hf => ?_)
      refine a_iload (pc' := 172) O dX11_steps_170 2 rfl rfl ?_
      refine a_if_le (pc' := 175) (tgt := 179) O dX11_steps_172 (by decide) rfl hf (fun hf => ?_) (fun hf => ?_)
      · refine a_iconst (pc' := 180) (v := 0) O dX11_steps_179 (by decide) rfl ?_
        exact a_zret (Or.inl rfl) O hf dX11_steps_180
      · refine a_iconst (pc' := 176) (v := 1) O dX11_steps_175 (by decide) rfl ?_
        refine a_goto (tgt := 180) O dX11_steps_176 (by decide) ?_
        exact a_zret (Or.inr rfl) O hf dX11_steps_180
  · refine a_iconst (pc' := 154) (v := 0) O dX11_steps_153 (by decide) rfl ?_
    refine a_goto (tgt := 166) O dX11_steps_154 (by decide) ?_
    refine a_iadd (pc' := 167) O dX11_steps_166 rfl ?_
    refine pfM_0_14 (pc' := 170) O hf dX11_steps_167 rfl (fun σ9 hf => ?_)
    refine a_iload (pc' := 172) O dX11_steps_170 2 rfl rfl ?_
    refine a_if_le (pc' := 175) (tgt := 179) O dX11_steps_172 (by decide) rfl hf (fun hf => ?_) (fun hf => ?_)
    · refine a_iconst (pc' := 180) (v := 0) O dX11_steps_179 (by decide) rfl ?_
      exact a_zret (Or.inl rfl) O hf dX11_steps_180
    · refine a_iconst (pc' := 176) (v := 1) O dX11_steps_175 (by decide) rfl ?_
      refine a_goto (tgt := 180) O dX11_steps_176 (by decide) ?_
      exact a_zret (Or.inr rfl) O hf dX11_steps_180
def BX11_steps_87 (k87 : St → Int32 → Int32 → Int32 → Int32 → Option (Int32 × St)) (σ : St) (x1 : Int32) (x2 : Int32) (x4 : Int32) (x5 : Int32) : Option (Int32 × St) :=
  if (σ.1 12) ≤ x5 then BX11_steps_132 σ x1 x4 else (if x2 = 0 then gIn x5 4 (gIn x5 4 (if (σ.2.2 11 x5.toNatClampNeg) = 0 then gIn x5 4 (bS (sA σ 10 x5.toNatClampNeg ((σ.2.2 10 x5.toNatClampNeg) - 0)) (fun σ10 => bI (x5 + 1) (fun v11 => k87 σ10 x1 x2 x4 v11))) else (gIn x5 4 (bS (sA σ 10 x5.toNatClampNeg ((σ.2.2 10 x5.toNatClampNeg) - x4)) (fun σ12 => bI (x5 + 1) (fun v13 => k87 σ12 x1 x2 x4 v13)))))) else (BX11_steps_132 σ x1 x4))
set_option maxRecDepth 100000 in
theorem okBX11_steps_87 {E : ET} {X : XT} {z : Int32 × St} (O : Ok (YM E) X cX11_steps 6 RX11 (some .boolean) rmX11_steps (some (.int z.1)) z.2) (k87 : St → Int32 → Int32 → Int32 → Int32 → Option (Int32 × St)) (hk87 : ∀ (σ : St) (x1 : Int32) (x2 : Int32) (x4 : Int32) (x5 : Int32), k87 σ x1 x2 x4 x5 = some z → At (YM E) X 6 87 [(0, .ref (E.2.2.2.2 0)), (1, .int x1), (2, .int x2), (4, .int x4), (5, .int x5)] [] σ) (σ : St) (x1 : Int32) (x2 : Int32) (x4 : Int32) (x5 : Int32) (hf : BX11_steps_87 k87 σ x1 x2 x4 x5 = some z) : At (YM E) X 6 87 [(0, .ref (E.2.2.2.2 0)), (1, .int x1), (2, .int x2), (4, .int x4), (5, .int x5)] [] σ := by
  have hE := O.2.2.2.2.2.2.2.2.2.1
  unfold BX11_steps_87 at hf
  refine a_iload (pc' := 89) O dX11_steps_87 4 rfl rfl ?_
  refine a_aload_n (pc' := 90) O dX11_steps_89 rfl 0 rfl rfl ?_
  refine gfM_0_12 (pc' := 93) O dX11_steps_90 rfl ?_
  refine a_icmp_ge (pc' := 96) (tgt := 132) O dX11_steps_93 (by decide) rfl hf (fun hf => ?_) (fun hf => ?_)
  · exact a_sub [0, 1, 3] rfl (okBX11_steps_132 O σ x1 x4 hf)
  · refine a_iload_n (pc' := 97) O dX11_steps_96 rfl 2 rfl rfl ?_
    refine a_if_ne (pc' := 100) (tgt := 132) O dX11_steps_97 (by decide) rfl hf (fun hf => ?_) (fun hf => ?_)
    · exact a_sub [0, 1, 3] rfl (okBX11_steps_132 O σ x1 x4 hf)
    · refine a_aload_n (pc' := 101) O dX11_steps_100 rfl 0 rfl rfl ?_
      refine gfM_0_17 (pc' := 104) O dX11_steps_101 rfl ?_
      refine a_iload (pc' := 106) O dX11_steps_104 4 rfl rfl ?_
      refine a_dup2_11 (pc' := 107) O dX11_steps_106 rfl rfl rfl ?_
      refine laM_10 (pc' := 108) O hf dX11_steps_107 rfl (fun hf => ?_)
      refine a_aload_n (pc' := 109) O dX11_steps_108 rfl 0 rfl rfl ?_
      refine gfM_0_18 (pc' := 112) O dX11_steps_109 rfl ?_
      refine a_iload (pc' := 114) O dX11_steps_112 4 rfl rfl ?_
      refine laM_11 (pc' := 115) O hf dX11_steps_114 rfl (fun hf => ?_)
      refine a_if_eq (pc' := 118) (tgt := 123) O dX11_steps_115 (by decide) rfl hf (fun hf => ?_) (fun hf => ?_)
      · refine a_iconst (pc' := 124) (v := 0) O dX11_steps_123 (by decide) rfl ?_
        refine a_isub (pc' := 125) O dX11_steps_124 rfl ?_
        refine saM_10 (pc' := 126) O hf dX11_steps_125 rfl (fun σ10 hf => ?_)
        refine a_iincB (pc' := 129) (lv' := fun v11 => [(5, .int v11), (0, .ref (E.2.2.2.2 0)), (1, .int x1), (2, .int x2), (4, .int x4)]) (c0 := 1) O dX11_steps_126 4 rfl (by decide) (by decide) (fun _ => rfl) rfl hf (fun v11 hf => ?_)
        refine a_goto (tgt := 87) O dX11_steps_129 (by decide) ?_
        exact a_sub [1, 2, 3, 4, 0] rfl (hk87 σ10 x1 x2 x4 v11 hf)
      · refine a_iload (pc' := 120) O dX11_steps_118 3 rfl rfl ?_
        refine a_goto (tgt := 124) O dX11_steps_120 (by decide) ?_
        refine a_isub (pc' := 125) O dX11_steps_124 rfl ?_
        refine saM_10 (pc' := 126) O hf dX11_steps_125 rfl (fun σ12 hf => ?_)
        refine a_iincB (pc' := 129) (lv' := fun v13 => [(5, .int v13), (0, .ref (E.2.2.2.2 0)), (1, .int x1), (2, .int x2), (4, .int x4)]) (c0 := 1) O dX11_steps_126 4 rfl (by decide) (by decide) (fun _ => rfl) rfl hf (fun v13 hf => ?_)
        refine a_goto (tgt := 87) O dX11_steps_129 (by decide) ?_
        exact a_sub [1, 2, 3, 4, 0] rfl (hk87 σ12 x1 x2 x4 v13 hf)
def LX11_steps_87 : Nat → St → Int32 → Int32 → Int32 → Int32 → Option (Int32 × St)
  | 0, _, _, _, _, _ => none
  | n + 1, σ, x1, x2, x4, x5 => BX11_steps_87 (LX11_steps_87 n) σ x1 x2 x4 x5
theorem okLX11_steps_87 {E : ET} {X : XT} {z : Int32 × St} (O : Ok (YM E) X cX11_steps 6 RX11 (some .boolean) rmX11_steps (some (.int z.1)) z.2) : ∀ (n : Nat) (σ : St) (x1 : Int32) (x2 : Int32) (x4 : Int32) (x5 : Int32), LX11_steps_87 n σ x1 x2 x4 x5 = some z → At (YM E) X 6 87 [(0, .ref (E.2.2.2.2 0)), (1, .int x1), (2, .int x2), (4, .int x4), (5, .int x5)] [] σ := by
  intro n
  induction n with
  | zero =>
    intro σ x1 x2 x4 x5 hf
    rw [LX11_steps_87] at hf
    cases hf
  | succ n ih =>
    intro σ x1 x2 x4 x5 hf
    rw [LX11_steps_87] at hf
    exact okBX11_steps_87 O (LX11_steps_87 n) ih σ x1 x2 x4 x5 hf
def BX11_steps_49 (σ : St) (x1 : Int32) (x2 : Int32) (x3 : Int32) : Option (Int32 × St) :=
  if x2 = 0 then (fX11_lights x3 x1 σ).bind (fun z3 => bI z3.1 (fun v5 => LX11_steps_87 fu z3.2 x1 x2 v5 0)) else (if x1 = 0 then gIn ((3 * x3) + 1) 48 (bI (2 * (σ.2.2 7 ((3 * x3) + 1).toNatClampNeg)) (fun v14 => LX11_steps_87 fu σ x1 x2 v14 0)) else (gIn ((3 * x3) + 0) 48 (bI (2 * (σ.2.2 7 ((3 * x3) + 0).toNatClampNeg)) (fun v15 => LX11_steps_87 fu σ x1 x2 v15 0))))
set_option maxRecDepth 100000 in
theorem okBX11_steps_49 {E : ET} {X : XT} {z : Int32 × St} (O : Ok (YM E) X cX11_steps 6 RX11 (some .boolean) rmX11_steps (some (.int z.1)) z.2) (σ : St) (x1 : Int32) (x2 : Int32) (x3 : Int32) (hf : BX11_steps_49 σ x1 x2 x3 = some z) : At (YM E) X 6 49 [(0, .ref (E.2.2.2.2 0)), (1, .int x1), (2, .int x2), (3, .int x3)] [] σ := by
  have hE := O.2.2.2.2.2.2.2.2.2.1
  unfold BX11_steps_49 at hf
  refine a_iload_n (pc' := 50) O dX11_steps_49 rfl 2 rfl rfl ?_
  refine a_if_eq (pc' := 53) (tgt := 76) O dX11_steps_50 (by decide) rfl hf (fun hf => ?_) (fun hf => ?_)
  · refine a_aload_n (pc' := 77) O dX11_steps_76 rfl 0 rfl rfl ?_
    refine a_iload_n (pc' := 78) O dX11_steps_77 rfl 3 rfl rfl ?_
    refine a_iload_n (pc' := 79) O dX11_steps_78 rfl 1 rfl rfl ?_
    obtain ⟨z3, h4, hf⟩ := bd_some hf
    refine a_callVI (pc' := 82) (n := 2) (As := [.int x3, .int x1]) (st := []) (q0 := 0) O (ctX11_lights hE x3 x1 σ z3 h4) wm_590 wm_591 wm_592 wm_5 wm_593 (by decide +kernel) (by decide) (gM_0 E _) hc_11 rfl rfl rfl (Nat.le_of_ble_eq_true rfl) dX11_steps_79 rfl ?_
    refine a_topi hf (fun v5 hf => ?_)
    refine a_istore (pc' := 84) (lv' := [(4, .int v5), (0, .ref (E.2.2.2.2 0)), (1, .int x1), (2, .int x2), (3, .int x3)]) O dX11_steps_82 (by decide) rfl rfl ?_
    refine a_iconst (pc' := 85) (v := 0) O dX11_steps_84 (by decide) rfl ?_
    refine a_istore (pc' := 87) (lv' := [(5, .int 0), (4, .int v5), (0, .ref (E.2.2.2.2 0)), (1, .int x1), (2, .int x2), (3, .int x3)]) O dX11_steps_85 (by decide) rfl rfl ?_
    exact a_sub [2, 3, 4, 1, 0] rfl (okLX11_steps_87 O fu z3.2 x1 x2 v5 0 hf)
  · refine a_iconst (pc' := 54) (v := 2) O dX11_steps_53 (by decide) rfl ?_
    refine a_aload_n (pc' := 55) O dX11_steps_54 rfl 0 rfl rfl ?_
    refine gfM_0_9 (pc' := 58) O dX11_steps_55 rfl ?_
    refine a_iconst (pc' := 59) (v := 3) O dX11_steps_58 (by decide) rfl ?_
    refine a_iload_n (pc' := 60) O dX11_steps_59 rfl 3 rfl rfl ?_
    refine a_imul (pc' := 61) O dX11_steps_60 rfl ?_
    refine a_iload_n (pc' := 62) O dX11_steps_61 rfl 1 rfl rfl ?_
    refine a_if_eq (pc' := 65) (tgt := 69) O dX11_steps_62 (by decide) rfl hf (fun hf => ?_) (fun hf => ?_)
    · refine a_iconst (pc' := 70) (v := 1) O dX11_steps_69 (by decide) rfl ?_
      refine a_iadd (pc' := 71) O dX11_steps_70 rfl ?_
      refine laM_7 (pc' := 72) O hf dX11_steps_71 rfl (fun hf => ?_)
      refine a_imul (pc' := 73) O dX11_steps_72 rfl ?_
      refine a_goto (tgt := 82) O dX11_steps_73 (by decide) ?_
      refine a_topi hf (fun v14 hf => ?_)
      refine a_istore (pc' := 84) (lv' := [(4, .int v14), (0, .ref (E.2.2.2.2 0)), (1, .int x1), (2, .int x2), (3, .int x3)]) O dX11_steps_82 (by decide) rfl rfl ?_
      refine a_iconst (pc' := 85) (v := 0) O dX11_steps_84 (by decide) rfl ?_
      refine a_istore (pc' := 87) (lv' := [(5, .int 0), (4, .int v14), (0, .ref (E.2.2.2.2 0)), (1, .int x1), (2, .int x2), (3, .int x3)]) O dX11_steps_85 (by decide) rfl rfl ?_
      exact a_sub [2, 3, 4, 1, 0] rfl (okLX11_steps_87 O fu σ x1 x2 v14 0 hf)
    · refine a_iconst (pc' := 66) (v := 0) O dX11_steps_65 (by decide) rfl ?_
      refine a_goto (tgt := 70) O dX11_steps_66 (by decide) ?_
      refine a_iadd (pc' := 71) O dX11_steps_70 rfl ?_
      refine laM_7 (pc' := 72) O hf dX11_steps_71 rfl (fun hf => ?_)
      refine a_imul (pc' := 73) O dX11_steps_72 rfl ?_
      refine a_goto (tgt := 82) O dX11_steps_73 (by decide) ?_
      refine a_topi hf (fun v15 hf => ?_)
      refine a_istore (pc' := 84) (lv' := [(4, .int v15), (0, .ref (E.2.2.2.2 0)), (1, .int x1), (2, .int x2), (3, .int x3)]) O dX11_steps_82 (by decide) rfl rfl ?_
      refine a_iconst (pc' := 85) (v := 0) O dX11_steps_84 (by decide) rfl ?_
      refine a_istore (pc' := 87) (lv' := [(5, .int 0), (4, .int v15), (0, .ref (E.2.2.2.2 0)), (1, .int x1), (2, .int x2), (3, .int x3)]) O dX11_steps_85 (by decide) rfl rfl ?_
      exact a_sub [2, 3, 4, 1, 0] rfl (okLX11_steps_87 O fu σ x1 x2 v15 0 hf)
def BX11_steps_17 (σ : St) (x1 : Int32) (x2 : Int32) (y0 : Int32) : Option (Int32 × St) :=
  (fX11_in (y0.toInt64) 0 (((σ.1 8) - 1).toInt64)).bind (fun z1 => if z1 = 0 then some (0, σ) else (if x2 = 0 then BX11_steps_49 σ x1 x2 y0 else (gIn y0 16 (if (σ.2.2 8 y0.toNatClampNeg) = 0 then some (0, σ) else (BX11_steps_49 σ x1 x2 y0)))))
set_option maxRecDepth 100000 in
theorem okBX11_steps_17 {E : ET} {X : XT} {z : Int32 × St} (O : Ok (YM E) X cX11_steps 6 RX11 (some .boolean) rmX11_steps (some (.int z.1)) z.2) (σ : St) (x1 : Int32) (x2 : Int32) (y0 : Int32) (hf : BX11_steps_17 σ x1 x2 y0 = some z) : At (YM E) X 6 17 [(0, .ref (E.2.2.2.2 0)), (1, .int x1), (2, .int x2)] [.int y0] σ := by
  have hE := O.2.2.2.2.2.2.2.2.2.1
  unfold BX11_steps_17 at hf
  refine a_istore_n (pc' := 18) (lv' := [(3, .int y0), (0, .ref (E.2.2.2.2 0)), (1, .int x1), (2, .int x2)]) O dX11_steps_17 rfl (by decide) rfl rfl ?_
  refine a_iload_n (pc' := 19) O dX11_steps_18 rfl 0 rfl rfl ?_
  refine a_i2l (pc' := 20) O dX11_steps_19 rfl rfl ?_
  refine a_lconst (pc' := 21) (v := 0) O dX11_steps_20 (by decide) rfl ?_
  refine a_aload_n (pc' := 22) O dX11_steps_21 rfl 1 rfl rfl ?_
  refine gfM_0_8 (pc' := 25) O dX11_steps_22 rfl ?_
  refine a_iconst (pc' := 26) (v := 1) O dX11_steps_25 (by decide) rfl ?_
  refine a_isub (pc' := 27) O dX11_steps_26 rfl ?_
  refine a_i2l (pc' := 28) O dX11_steps_27 rfl rfl ?_
  obtain ⟨z1, h2, hf⟩ := bd_some hf
  refine a_callSI (pc' := 31) (n := 3) (As := [.long (y0.toInt64), .long 0, .long (((σ.1 8) - 1).toInt64)]) (st := []) O (ctX11_in hE (y0.toInt64) 0 (((σ.1 8) - 1).toInt64) σ z1 h2) wm_201 wm_202 wm_5 wm_203 (by decide +kernel) (by decide) rfl rfl (Nat.le_of_ble_eq_true rfl) dX11_steps_28 rfl ?_
  refine a_if_eq (pc' := 34) (tgt := 47) O dX11_steps_31 (by decide) rfl hf (fun hf => ?_) (fun hf => ?_)
  · refine a_iconst (pc' := 48) (v := 0) O dX11_steps_47 (by decide) rfl ?_
    exact a_zret (Or.inl rfl) O hf dX11_steps_48
  · refine a_iload_n (pc' := 35) O dX11_steps_34 rfl 3 rfl rfl ?_
    refine a_if_eq (pc' := 38) (tgt := 49) O dX11_steps_35 (by decide) rfl hf (fun hf => ?_) (fun hf => ?_)
    · exact a_sub [1, 2, 3, 0] rfl (okBX11_steps_49 O σ x1 x2 y0 hf)
    · refine a_aload_n (pc' := 39) O dX11_steps_38 rfl 1 rfl rfl ?_
      refine gfM_0_10 (pc' := 42) O dX11_steps_39 rfl ?_
      refine a_iload_n (pc' := 43) O dX11_steps_42 rfl 0 rfl rfl ?_
      refine laM_8 (pc' := 44) O hf dX11_steps_43 rfl (fun hf => ?_)
      refine a_if_ne (pc' := 47) (tgt := 49) O dX11_steps_44 (by decide) rfl hf (fun hf => ?_) (fun hf => ?_)
      · exact a_sub [1, 2, 3, 0] rfl (okBX11_steps_49 O σ x1 x2 y0 hf)
      · refine a_iconst (pc' := 48) (v := 0) O dX11_steps_47 (by decide) rfl ?_
        exact a_zret (Or.inl rfl) O hf dX11_steps_48
def fX11_steps (a0 : Int32) (a1 : Int32) (σ : St) : Option (Int32 × St) :=
  if a0 = 0 then BX11_steps_17 σ a0 a1 ((σ.1 14) - 1) else (BX11_steps_17 σ a0 a1 (σ.1 14))
set_option maxRecDepth 100000 in
theorem ctX11_steps {E : ET} (hE : Dj (YM E)) (a0 : Int32) (a1 : Int32) (σ : St) (z : Int32 × St) (hf : fX11_steps a0 a1 σ = some z) : Ct (YM E) yX11_steps cX11_steps 6 (some .boolean) rmX11_steps [.ref (E.2.2.2.2 0), .int a0, .int a1] σ (some (.int z.1)) z.2 := by
  refine Ct.of hE (by decide) (Nat.le_of_ble_eq_true rfl) (fun X O => ?_)
  have O : Ok (YM E) X cX11_steps 6 RX11 (some .boolean) rmX11_steps (some (.int z.1)) z.2 := O
  show At (YM E) X 6 0 [(0, .ref (E.2.2.2.2 0)), (1, .int a0), (2, .int a1)] [] σ
  unfold fX11_steps at hf
  refine a_iload_n (pc' := 1) O dX11_steps_0 rfl 1 rfl rfl ?_
  refine a_if_eq (pc' := 4) (tgt := 11) O dX11_steps_1 (by decide) rfl hf (fun hf => ?_) (fun hf => ?_)
  · refine a_aload_n (pc' := 12) O dX11_steps_11 rfl 0 rfl rfl ?_
    refine gfM_0_14 (pc' := 15) O dX11_steps_12 rfl ?_
    refine a_iconst (pc' := 16) (v := 1) O dX11_steps_15 (by decide) rfl ?_
    refine a_isub (pc' := 17) O dX11_steps_16 rfl ?_
    exact a_sub [0, 1, 2] rfl (okBX11_steps_17 O σ a0 a1 ((σ.1 14) - 1) hf)
  · refine a_aload_n (pc' := 5) O dX11_steps_4 rfl 0 rfl rfl ?_
    refine gfM_0_14 (pc' := 8) O dX11_steps_5 rfl ?_
    refine a_goto (tgt := 17) O dX11_steps_8 (by decide) ?_
    exact a_sub [0, 1, 2] rfl (okBX11_steps_17 O σ a0 a1 (σ.1 14) hf)
def rmX11_plans : Room := { frames := 4, cells := 0, slots := 0, locals := 89 }
def BX11_plans_131 (k67 : St → Int32 → Int32 → Int32 → Option St) (σ : St) (x1 : Int32) (x2 : Int32) (x3 : Int32) (y0 : Int32) : Option St :=
  (fX11_steps y0 x2 σ).bind (fun z7 => if z7.1 = 0 then bS (sI z7.2 16 x3) (fun σ9 => bI (x3 + 1) (fun v10 => k67 σ9 x1 0 v10)) else (bS (sI z7.2 16 (-1)) (fun σ11 => bI (x3 + 1) (fun v12 => k67 σ11 x1 0 v12))))
set_option maxRecDepth 100000 in
theorem okBX11_plans_131 {E : ET} {X : XT} {z : St} (O : Ok (YM E) X cX11_plans 5 RX11 none rmX11_plans none z) (k67 : St → Int32 → Int32 → Int32 → Option St) (hk67 : ∀ (σ : St) (x1 : Int32) (x2 : Int32) (x3 : Int32), k67 σ x1 x2 x3 = some z → At (YM E) X 5 67 [(0, .ref (E.2.2.2.2 0)), (1, .int x1), (2, .int x2), (3, .int x3)] [] σ) (σ : St) (x1 : Int32) (x2 : Int32) (x3 : Int32) (y0 : Int32) (hf : BX11_plans_131 k67 σ x1 x2 x3 y0 = some z) : At (YM E) X 5 131 [(0, .ref (E.2.2.2.2 0)), (1, .int x1), (2, .int x2), (3, .int x3)] [.int y0, .ref (E.2.2.2.2 0), .ref (E.2.2.2.2 0)] σ := by
  have hE := O.2.2.2.2.2.2.2.2.2.1
  unfold BX11_plans_131 at hf
  refine a_iload_n (pc' := 132) O dX11_plans_131 rfl 2 rfl rfl ?_
  obtain ⟨z7, h8, hf⟩ := bd_some hf
  refine a_callVI (pc' := 135) (n := 2) (As := [.int y0, .int x2]) (st := [.ref (E.2.2.2.2 0)]) (q0 := 0) O (ctX11_steps hE y0 x2 σ z7 h8) wm_586 wm_587 wm_588 wm_5 wm_589 (by decide +kernel) (by decide) (gM_0 E _) hc_11 rfl rfl rfl (Nat.le_of_ble_eq_true rfl) dX11_plans_132 rfl ?_
  refine a_if_eq (pc' := 138) (tgt := 142) O dX11_plans_135 (by decide) rfl hf (fun hf => ?_) (fun hf => ?_)
  · refine a_iload_n (pc' := 143) O dX11_plans_142 rfl 3 rfl rfl ?_
    refine pfM_0_16 (pc' := 146) O hf dX11_plans_143 rfl (fun σ9 hf => ?_)
    refine a_iconst (pc' := 147) (v := 0) O dX11_plans_146 (by decide) rfl ?_
    refine a_istore_n (pc' := 148) (lv' := [(2, .int 0), (0, .ref (E.2.2.2.2 0)), (1, .int x1), (3, .int x3)]) O dX11_plans_147 rfl (by decide) rfl rfl ?_
    refine a_goto (tgt := 167) O dX11_plans_148 (by decide) ?_
    refine a_iincB (pc' := 170) (lv' := fun v10 => [(3, .int v10), (2, .int 0), (0, .ref (E.2.2.2.2 0)), (1, .int x1)]) (c0 := 1) O dX11_plans_167 3 rfl (by decide) (by decide) (fun _ => rfl) rfl hf (fun v10 hf => ?_)
    refine a_goto (tgt := 67) O dX11_plans_170 (by decide) ?_
    exact a_sub [2, 3, 1, 0] rfl (hk67 σ9 x1 0 v10 hf)
  · refine a_iconst (pc' := 139) (v := (-1)) O dX11_plans_138 (by decide) rfl ?_
    refine a_goto (tgt := 143) O dX11_plans_139 (by decide) ?_
    refine pfM_0_16 (pc' := 146) O hf dX11_plans_143 rfl (fun σ11 hf => ?_)
    refine a_iconst (pc' := 147) (v := 0) O dX11_plans_146 (by decide) rfl ?_
    refine a_istore_n (pc' := 148) (lv' := [(2, .int 0), (0, .ref (E.2.2.2.2 0)), (1, .int x1), (3, .int x3)]) O dX11_plans_147 rfl (by decide) rfl rfl ?_
    refine a_goto (tgt := 167) O dX11_plans_148 (by decide) ?_
    refine a_iincB (pc' := 170) (lv' := fun v12 => [(3, .int v12), (2, .int 0), (0, .ref (E.2.2.2.2 0)), (1, .int x1)]) (c0 := 1) O dX11_plans_167 3 rfl (by decide) (by decide) (fun _ => rfl) rfl hf (fun v12 hf => ?_)
    refine a_goto (tgt := 67) O dX11_plans_170 (by decide) ?_
    exact a_sub [2, 3, 1, 0] rfl (hk67 σ11 x1 0 v12 hf)
def BX11_plans_117 (k67 : St → Int32 → Int32 → Int32 → Option St) (σ : St) (x1 : Int32) (x2 : Int32) (x3 : Int32) (x4 : Int32) : Option St :=
  if x4 = 43 then BX11_plans_131 k67 σ x1 x2 x3 1 else (BX11_plans_131 k67 σ x1 x2 x3 0)
set_option maxRecDepth 100000 in
theorem okBX11_plans_117 {E : ET} {X : XT} {z : St} (O : Ok (YM E) X cX11_plans 5 RX11 none rmX11_plans none z) (k67 : St → Int32 → Int32 → Int32 → Option St) (hk67 : ∀ (σ : St) (x1 : Int32) (x2 : Int32) (x3 : Int32), k67 σ x1 x2 x3 = some z → At (YM E) X 5 67 [(0, .ref (E.2.2.2.2 0)), (1, .int x1), (2, .int x2), (3, .int x3)] [] σ) (σ : St) (x1 : Int32) (x2 : Int32) (x3 : Int32) (x4 : Int32) (hf : BX11_plans_117 k67 σ x1 x2 x3 x4 = some z) : At (YM E) X 5 117 [(0, .ref (E.2.2.2.2 0)), (1, .int x1), (2, .int x2), (3, .int x3), (4, .int x4)] [] σ := by
  have hE := O.2.2.2.2.2.2.2.2.2.1
  unfold BX11_plans_117 at hf
  refine a_aload_n (pc' := 118) O dX11_plans_117 rfl 0 rfl rfl ?_
  refine a_aload_n (pc' := 119) O dX11_plans_118 rfl 0 rfl rfl ?_
  refine a_iload (pc' := 121) O dX11_plans_119 4 rfl rfl ?_
  refine a_bipush (pc' := 123) (v := 43) O dX11_plans_121 (by decide) rfl ?_
  refine a_icmp_ne (pc' := 126) (tgt := 130) O dX11_plans_123 (by decide) rfl hf (fun hf => ?_) (fun hf => ?_)
  · refine a_iconst (pc' := 131) (v := 0) O dX11_plans_130 (by decide) rfl ?_
    exact a_sub [0, 1, 2, 3] rfl (okBX11_plans_131 O k67 hk67 σ x1 x2 x3 0 hf)
  · refine a_iconst (pc' := 127) (v := 1) O dX11_plans_126 (by decide) rfl ?_
    refine a_goto (tgt := 131) O dX11_plans_127 (by decide) ?_
    exact a_sub [0, 1, 2, 3] rfl (okBX11_plans_131 O k67 hk67 σ x1 x2 x3 1 hf)
def BX11_plans_67 (k67 : St → Int32 → Int32 → Int32 → Option St) (σ : St) (x1 : Int32) (x2 : Int32) (x3 : Int32) : Option St :=
  if x1 ≤ x3 then some σ else (if (σ.1 16) = (-1) then gIn (80 + x3) 120 (bI (σ.2.2 5 (80 + x3).toNatClampNeg) (fun v6 => if v6 = 117 then bI (x3 + 1) (fun v17 => k67 σ x1 1 v17) else (if v6 = 43 then BX11_plans_117 k67 σ x1 x2 x3 v6 else (if v6 = 45 then BX11_plans_117 k67 σ x1 x2 x3 v6 else (if v6 = 120 then bI (x3 + 1) (fun v13 => k67 σ x1 x2 v13) else ((fX11_fails (v6 - 48) σ).bind (fun z14 => bI (x3 + 1) (fun v16 => k67 z14 x1 x2 v16)))))))) else (some σ))
set_option maxRecDepth 100000 in
theorem okBX11_plans_67 {E : ET} {X : XT} {z : St} (O : Ok (YM E) X cX11_plans 5 RX11 none rmX11_plans none z) (k67 : St → Int32 → Int32 → Int32 → Option St) (hk67 : ∀ (σ : St) (x1 : Int32) (x2 : Int32) (x3 : Int32), k67 σ x1 x2 x3 = some z → At (YM E) X 5 67 [(0, .ref (E.2.2.2.2 0)), (1, .int x1), (2, .int x2), (3, .int x3)] [] σ) (σ : St) (x1 : Int32) (x2 : Int32) (x3 : Int32) (hf : BX11_plans_67 k67 σ x1 x2 x3 = some z) : At (YM E) X 5 67 [(0, .ref (E.2.2.2.2 0)), (1, .int x1), (2, .int x2), (3, .int x3)] [] σ := by
  have hE := O.2.2.2.2.2.2.2.2.2.1
  unfold BX11_plans_67 at hf
  refine a_iload_n (pc' := 68) O dX11_plans_67 rfl 3 rfl rfl ?_
  refine a_iload_n (pc' := 69) O dX11_plans_68 rfl 1 rfl rfl ?_
  refine a_icmp_ge (pc' := 72) (tgt := 173) O dX11_plans_69 (by decide) rfl hf (fun hf => ?_) (fun hf => ?_)
  · exact a_vret O hf dX11_plans_173
  · refine a_aload_n (pc' := 73) O dX11_plans_72 rfl 0 rfl rfl ?_
    refine gfM_0_16 (pc' := 76) O dX11_plans_73 rfl ?_
    refine a_iconst (pc' := 77) (v := (-1)) O dX11_plans_76 (by decide) rfl ?_
    refine a_icmp_ne (pc' := 80) (tgt := 173) O dX11_plans_77 (by decide) rfl hf (fun hf => ?_) (fun hf => ?_)
    · exact a_vret O hf dX11_plans_173
    · refine a_aload_n (pc' := 81) O dX11_plans_80 rfl 0 rfl rfl ?_
      refine gfM_0_5 (pc' := 84) O dX11_plans_81 rfl ?_
      refine a_bipush (pc' := 86) (v := 80) O dX11_plans_84 (by decide) rfl ?_
      refine a_iload_n (pc' := 87) O dX11_plans_86 rfl 3 rfl rfl ?_
      refine a_iadd (pc' := 88) O dX11_plans_87 rfl ?_
      refine laM_5 (pc' := 89) O hf dX11_plans_88 rfl (fun hf => ?_)
      refine a_topi hf (fun v6 hf => ?_)
      refine a_istore (pc' := 91) (lv' := [(4, .int v6), (0, .ref (E.2.2.2.2 0)), (1, .int x1), (2, .int x2), (3, .int x3)]) O dX11_plans_89 (by decide) rfl rfl ?_
      refine a_iload (pc' := 93) O dX11_plans_91 0 rfl rfl ?_
      refine a_bipush (pc' := 95) (v := 117) O dX11_plans_93 (by decide) rfl ?_
      refine a_icmp_ne (pc' := 98) (tgt := 103) O dX11_plans_95 (by decide) rfl hf (fun hf => ?_) (fun hf => ?_)
      · refine a_iload (pc' := 105) O dX11_plans_103 0 rfl rfl ?_
        refine a_bipush (pc' := 107) (v := 43) O dX11_plans_105 (by decide) rfl ?_
        refine a_icmp_eq (pc' := 110) (tgt := 117) O dX11_plans_107 (by decide) rfl hf (fun hf => ?_) (fun hf => ?_)
        · exact a_sub [1, 2, 3, 4, 0] rfl (okBX11_plans_117 O k67 hk67 σ x1 x2 x3 v6 hf)
        · refine a_iload (pc' := 112) O dX11_plans_110 0 rfl rfl ?_
          refine a_bipush (pc' := 114) (v := 45) O dX11_plans_112 (by decide) rfl ?_
          refine a_icmp_ne (pc' := 117) (tgt := 151) O dX11_plans_114 (by decide) rfl hf (fun hf => ?_) (fun hf => ?_)
          · refine a_iload (pc' := 153) O dX11_plans_151 0 rfl rfl ?_
            refine a_bipush (pc' := 155) (v := 120) O dX11_plans_153 (by decide) rfl ?_
            refine a_icmp_eq (pc' := 158) (tgt := 167) O dX11_plans_155 (by decide) rfl hf (fun hf => ?_) (fun hf => ?_)
            · refine a_iincB (pc' := 170) (lv' := fun v13 => [(3, .int v13), (4, .int v6), (0, .ref (E.2.2.2.2 0)), (1, .int x1), (2, .int x2)]) (c0 := 1) O dX11_plans_167 4 rfl (by decide) (by decide) (fun _ => rfl) rfl hf (fun v13 hf => ?_)
              refine a_goto (tgt := 67) O dX11_plans_170 (by decide) ?_
              exact a_sub [2, 3, 4, 0] rfl (hk67 σ x1 x2 v13 hf)
            · refine a_aload_n (pc' := 159) O dX11_plans_158 rfl 1 rfl rfl ?_
              refine a_iload (pc' := 161) O dX11_plans_159 0 rfl rfl ?_
              refine a_bipush (pc' := 163) (v := 48) O dX11_plans_161 (by decide) rfl ?_
              refine a_isub (pc' := 164) O dX11_plans_163 rfl ?_
              obtain ⟨z14, h15, hf⟩ := bd_some hf
              refine a_callVN (pc' := 167) (n := 1) (As := [.int (v6 - 48)]) (st := []) (q0 := 0) O (ctX11_fails hE (v6 - 48) σ z14 h15) wm_598 wm_599 wm_600 wm_5 wm_601 (by decide +kernel) (by decide) (gM_0 E _) hc_11 rfl rfl rfl (Nat.le_of_ble_eq_true rfl) dX11_plans_164 rfl ?_
              refine a_iincB (pc' := 170) (lv' := fun v16 => [(3, .int v16), (4, .int v6), (0, .ref (E.2.2.2.2 0)), (1, .int x1), (2, .int x2)]) (c0 := 1) O dX11_plans_167 4 rfl (by decide) (by decide) (fun _ => rfl) rfl hf (fun v16 hf => ?_)
              refine a_goto (tgt := 67) O dX11_plans_170 (by decide) ?_
              exact a_sub [2, 3, 4, 0] rfl (hk67 z14 x1 x2 v16 hf)
          · exact a_sub [1, 2, 3, 4, 0] rfl (okBX11_plans_117 O k67 hk67 σ x1 x2 x3 v6 hf)
      · refine a_iconst (pc' := 99) (v := 1) O dX11_plans_98 (by decide) rfl ?_
        refine a_istore_n (pc' := 100) (lv' := [(2, .int 1), (4, .int v6), (0, .ref (E.2.2.2.2 0)), (1, .int x1), (3, .int x3)]) O dX11_plans_99 rfl (by decide) rfl rfl ?_
        refine a_goto (tgt := 167) O dX11_plans_100 (by decide) ?_
        refine a_iincB (pc' := 170) (lv' := fun v17 => [(3, .int v17), (2, .int 1), (4, .int v6), (0, .ref (E.2.2.2.2 0)), (1, .int x1)]) (c0 := 1) O dX11_plans_167 4 rfl (by decide) (by decide) (fun _ => rfl) rfl hf (fun v17 hf => ?_)
        refine a_goto (tgt := 67) O dX11_plans_170 (by decide) ?_
        exact a_sub [3, 4, 1, 0] rfl (hk67 σ x1 1 v17 hf)
def LX11_plans_67 : Nat → St → Int32 → Int32 → Int32 → Option St
  | 0, _, _, _, _ => none
  | n + 1, σ, x1, x2, x3 => BX11_plans_67 (LX11_plans_67 n) σ x1 x2 x3
theorem okLX11_plans_67 {E : ET} {X : XT} {z : St} (O : Ok (YM E) X cX11_plans 5 RX11 none rmX11_plans none z) : ∀ (n : Nat) (σ : St) (x1 : Int32) (x2 : Int32) (x3 : Int32), LX11_plans_67 n σ x1 x2 x3 = some z → At (YM E) X 5 67 [(0, .ref (E.2.2.2.2 0)), (1, .int x1), (2, .int x2), (3, .int x3)] [] σ := by
  intro n
  induction n with
  | zero =>
    intro σ x1 x2 x3 hf
    rw [LX11_plans_67] at hf
    cases hf
  | succ n ih =>
    intro σ x1 x2 x3 hf
    rw [LX11_plans_67] at hf
    exact okBX11_plans_67 O (LX11_plans_67 n) ih σ x1 x2 x3 hf
def BX11_plans_63 (σ : St) (x1 : Int32) : Option St :=
  LX11_plans_67 fu σ x1 0 0
set_option maxRecDepth 100000 in
theorem okBX11_plans_63 {E : ET} {X : XT} {z : St} (O : Ok (YM E) X cX11_plans 5 RX11 none rmX11_plans none z) (σ : St) (x1 : Int32) (hf : BX11_plans_63 σ x1 = some z) : At (YM E) X 5 63 [(0, .ref (E.2.2.2.2 0)), (1, .int x1)] [] σ := by
  have hE := O.2.2.2.2.2.2.2.2.2.1
  unfold BX11_plans_63 at hf
  refine a_iconst (pc' := 64) (v := 0) O dX11_plans_63 (by decide) rfl ?_
  refine a_istore_n (pc' := 65) (lv' := [(2, .int 0), (0, .ref (E.2.2.2.2 0)), (1, .int x1)]) O dX11_plans_64 rfl (by decide) rfl rfl ?_
  refine a_iconst (pc' := 66) (v := 0) O dX11_plans_65 (by decide) rfl ?_
  refine a_istore_n (pc' := 67) (lv' := [(3, .int 0), (2, .int 0), (0, .ref (E.2.2.2.2 0)), (1, .int x1)]) O dX11_plans_66 rfl (by decide) rfl rfl ?_
  exact a_sub [2, 3, 1, 0] rfl (okLX11_plans_67 O fu σ x1 0 0 hf)
def BX11_plans_21 (k21 : St → Int32 → Int32 → Option St) (σ : St) (x1 : Int32) (x2 : Int32) : Option St :=
  if 4 ≤ x2 then BX11_plans_63 σ x1 else (gIn x2 4 (gIn x2 4 (bS (sA σ 10 x2.toNatClampNeg (σ.2.2 9 x2.toNatClampNeg)) (fun σ18 => if (σ18.1 12) ≤ x2 then gIn x2 4 (bS (sA σ18 11 x2.toNatClampNeg 0) (fun σ19 => bI (x2 + 1) (fun v20 => k21 σ19 x1 v20))) else (gIn x2 4 (bS (sA σ18 11 x2.toNatClampNeg 1) (fun σ21 => bI (x2 + 1) (fun v22 => k21 σ21 x1 v22))))))))
set_option maxRecDepth 100000 in
theorem okBX11_plans_21 {E : ET} {X : XT} {z : St} (O : Ok (YM E) X cX11_plans 5 RX11 none rmX11_plans none z) (k21 : St → Int32 → Int32 → Option St) (hk21 : ∀ (σ : St) (x1 : Int32) (x2 : Int32), k21 σ x1 x2 = some z → At (YM E) X 5 21 [(0, .ref (E.2.2.2.2 0)), (1, .int x1), (2, .int x2)] [] σ) (σ : St) (x1 : Int32) (x2 : Int32) (hf : BX11_plans_21 k21 σ x1 x2 = some z) : At (YM E) X 5 21 [(0, .ref (E.2.2.2.2 0)), (1, .int x1), (2, .int x2)] [] σ := by
  have hE := O.2.2.2.2.2.2.2.2.2.1
  unfold BX11_plans_21 at hf
  refine a_iload_n (pc' := 22) O dX11_plans_21 rfl 2 rfl rfl ?_
  refine a_iconst (pc' := 23) (v := 4) O dX11_plans_22 (by decide) rfl ?_
  refine a_icmp_ge (pc' := 26) (tgt := 63) O dX11_plans_23 (by decide) rfl hf (fun hf => ?_) (fun hf => ?_)
  · exact a_sub [0, 1] rfl (okBX11_plans_63 O σ x1 hf)
  · refine a_aload_n (pc' := 27) O dX11_plans_26 rfl 0 rfl rfl ?_
    refine gfM_0_17 (pc' := 30) O dX11_plans_27 rfl ?_
    refine a_iload_n (pc' := 31) O dX11_plans_30 rfl 2 rfl rfl ?_
    refine a_aload_n (pc' := 32) O dX11_plans_31 rfl 0 rfl rfl ?_
    refine gfM_0_13 (pc' := 35) O dX11_plans_32 rfl ?_
    refine a_iload_n (pc' := 36) O dX11_plans_35 rfl 2 rfl rfl ?_
    refine laM_9 (pc' := 37) O hf dX11_plans_36 rfl (fun hf => ?_)
    refine saM_10 (pc' := 38) O hf dX11_plans_37 rfl (fun σ18 hf => ?_)
    refine a_aload_n (pc' := 39) O dX11_plans_38 rfl 0 rfl rfl ?_
    refine gfM_0_18 (pc' := 42) O dX11_plans_39 rfl ?_
    refine a_iload_n (pc' := 43) O dX11_plans_42 rfl 2 rfl rfl ?_
    refine a_iload_n (pc' := 44) O dX11_plans_43 rfl 2 rfl rfl ?_
    refine a_aload_n (pc' := 45) O dX11_plans_44 rfl 0 rfl rfl ?_
    refine gfM_0_12 (pc' := 48) O dX11_plans_45 rfl ?_
    refine a_icmp_ge (pc' := 51) (tgt := 55) O dX11_plans_48 (by decide) rfl hf (fun hf => ?_) (fun hf => ?_)
    · refine a_iconst (pc' := 56) (v := 0) O dX11_plans_55 (by decide) rfl ?_
      refine saM_11 (pc' := 57) O (Or.inl rfl) hf dX11_plans_56 rfl (fun σ19 hf => ?_)
      refine a_iincB (pc' := 60) (lv' := fun v20 => [(2, .int v20), (0, .ref (E.2.2.2.2 0)), (1, .int x1)]) (c0 := 1) O dX11_plans_57 2 rfl (by decide) (by decide) (fun _ => rfl) rfl hf (fun v20 hf => ?_)
      refine a_goto (tgt := 21) O dX11_plans_60 (by decide) ?_
      exact a_sub [1, 2, 0] rfl (hk21 σ19 x1 v20 hf)
    · refine a_iconst (pc' := 52) (v := 1) O dX11_plans_51 (by decide) rfl ?_
      refine a_goto (tgt := 56) O dX11_plans_52 (by decide) ?_
      refine saM_11 (pc' := 57) O (Or.inr rfl) hf dX11_plans_56 rfl (fun σ21 hf => ?_)
      refine a_iincB (pc' := 60) (lv' := fun v22 => [(2, .int v22), (0, .ref (E.2.2.2.2 0)), (1, .int x1)]) (c0 := 1) O dX11_plans_57 2 rfl (by decide) (by decide) (fun _ => rfl) rfl hf (fun v22 hf => ?_)
      refine a_goto (tgt := 21) O dX11_plans_60 (by decide) ?_
      exact a_sub [1, 2, 0] rfl (hk21 σ21 x1 v22 hf)
def LX11_plans_21 : Nat → St → Int32 → Int32 → Option St
  | 0, _, _, _ => none
  | n + 1, σ, x1, x2 => BX11_plans_21 (LX11_plans_21 n) σ x1 x2
theorem okLX11_plans_21 {E : ET} {X : XT} {z : St} (O : Ok (YM E) X cX11_plans 5 RX11 none rmX11_plans none z) : ∀ (n : Nat) (σ : St) (x1 : Int32) (x2 : Int32), LX11_plans_21 n σ x1 x2 = some z → At (YM E) X 5 21 [(0, .ref (E.2.2.2.2 0)), (1, .int x1), (2, .int x2)] [] σ := by
  intro n
  induction n with
  | zero =>
    intro σ x1 x2 hf
    rw [LX11_plans_21] at hf
    cases hf
  | succ n ih =>
    intro σ x1 x2 hf
    rw [LX11_plans_21] at hf
    exact okBX11_plans_21 O (LX11_plans_21 n) ih σ x1 x2 hf
def fX11_plans (a0 : Int32) (σ : St) : Option St :=
  (fX11_reads σ).bind (fun z1 => bS (sI z1 14 0) (fun σ3 => bS (sI σ3 15 0) (fun σ4 => bS (sI σ4 16 (-1)) (fun σ5 => LX11_plans_21 fu σ5 a0 0))))
set_option maxRecDepth 100000 in
theorem ctX11_plans {E : ET} (hE : Dj (YM E)) (a0 : Int32) (σ : St) (z : St) (hf : fX11_plans a0 σ = some z) : Ct (YM E) yX11_plans cX11_plans 5 none rmX11_plans [.ref (E.2.2.2.2 0), .int a0] σ none z := by
  refine Ct.of hE (by decide) (Nat.le_of_ble_eq_true rfl) (fun X O => ?_)
  have O : Ok (YM E) X cX11_plans 5 RX11 none rmX11_plans none z := O
  show At (YM E) X 5 0 [(0, .ref (E.2.2.2.2 0)), (1, .int a0)] [] σ
  unfold fX11_plans at hf
  refine a_aload_n (pc' := 1) O dX11_plans_0 rfl 0 rfl rfl ?_
  obtain ⟨z1, h2, hf⟩ := bd_some hf
  refine a_callVN (pc' := 4) (n := 0) (As := []) (st := []) (q0 := 0) O (ctX11_reads hE σ z1 h2) wm_286 wm_287 wm_288 wm_5 wm_289 (by decide +kernel) (by decide) (gM_0 E _) hc_11 rfl rfl rfl (Nat.le_of_ble_eq_true rfl) dX11_plans_1 rfl ?_
  refine a_aload_n (pc' := 5) O dX11_plans_4 rfl 0 rfl rfl ?_
  refine a_iconst (pc' := 6) (v := 0) O dX11_plans_5 (by decide) rfl ?_
  refine pfM_0_14 (pc' := 9) O hf dX11_plans_6 rfl (fun σ3 hf => ?_)
  refine a_aload_n (pc' := 10) O dX11_plans_9 rfl 0 rfl rfl ?_
  refine a_iconst (pc' := 11) (v := 0) O dX11_plans_10 (by decide) rfl ?_
  refine pfM_0_15 (pc' := 14) O hf dX11_plans_11 rfl (fun σ4 hf => ?_)
  refine a_aload_n (pc' := 15) O dX11_plans_14 rfl 0 rfl rfl ?_
  refine a_iconst (pc' := 16) (v := (-1)) O dX11_plans_15 (by decide) rfl ?_
  refine pfM_0_16 (pc' := 19) O hf dX11_plans_16 rfl (fun σ5 hf => ?_)
  refine a_iconst (pc' := 20) (v := 0) O dX11_plans_19 (by decide) rfl ?_
  refine a_istore_n (pc' := 21) (lv' := [(2, .int 0), (0, .ref (E.2.2.2.2 0)), (1, .int a0)]) O dX11_plans_20 rfl (by decide) rfl rfl ?_
  exact a_sub [1, 2, 0] rfl (okLX11_plans_21 O fu σ5 a0 0 hf)
def rmX11_plansAll : Room := { frames := 5, cells := 0, slots := 0, locals := 113 }
def fX11_plansAll (σ : St) : Option St :=
  (fX11_readsPlan σ).bind (fun z1 => (fX11_plans (z1.2.1 11) z1.2).bind (fun z3 => some z3))
set_option maxRecDepth 100000 in
theorem ctX11_plansAll {E : ET} (hE : Dj (YM E)) (σ : St) (z : St) (hf : fX11_plansAll σ = some z) : Ct (YM E) yX11_plansAll cX11_plansAll 1 none rmX11_plansAll [.ref (E.2.2.2.2 0)] σ none z := by
  refine Ct.of hE (by decide) (Nat.le_of_ble_eq_true rfl) (fun X O => ?_)
  have O : Ok (YM E) X cX11_plansAll 1 RX11 none rmX11_plansAll none z := O
  show At (YM E) X 1 0 [(0, .ref (E.2.2.2.2 0))] [] σ
  unfold fX11_plansAll at hf
  refine a_aload_n (pc' := 1) O dX11_plansAll_0 rfl 0 rfl rfl ?_
  obtain ⟨z1, h2, hf⟩ := bd_some hf
  refine a_callVI (pc' := 4) (n := 0) (As := []) (st := []) (q0 := 0) O (ctX11_readsPlan hE σ z1 h2) wm_259 wm_260 wm_261 wm_5 wm_262 (by decide +kernel) (by decide) (gM_0 E _) hc_11 rfl rfl rfl (Nat.le_of_ble_eq_true rfl) dX11_plansAll_1 rfl ?_
  refine a_pop (pc' := 5) O dX11_plansAll_4 rfl rfl ?_
  refine a_aload_n (pc' := 6) O dX11_plansAll_5 rfl 0 rfl rfl ?_
  refine a_aload_n (pc' := 7) O dX11_plansAll_6 rfl 0 rfl rfl ?_
  refine gfM_0_11 (pc' := 10) O dX11_plansAll_7 rfl ?_
  obtain ⟨z3, h4, hf⟩ := bd_some hf
  refine a_callVN (pc' := 13) (n := 1) (As := [.int (z1.2.1 11)]) (st := []) (q0 := 0) O (ctX11_plans hE (z1.2.1 11) z1.2 z3 h4) wm_580 wm_581 wm_582 wm_5 wm_583 (by decide +kernel) (by decide) (gM_0 E _) hc_11 rfl rfl rfl (Nat.le_of_ble_eq_true rfl) dX11_plansAll_10 rfl ?_
  exact a_vret O hf dX11_plansAll_13
def rmX11_judged : Room := { frames := 6, cells := 0, slots := 0, locals := 133 }
def fX11_judged (σ : St) : Option (Int32 × St) :=
  (fX11_plansAll σ).bind (fun z1 => some ((z1.1 16), z1))
set_option maxRecDepth 100000 in
theorem ctX11_judged {E : ET} (hE : Dj (YM E)) (σ : St) (z : Int32 × St) (hf : fX11_judged σ = some z) : Ct (YM E) yX11_judged cX11_judged 1 (some .int) rmX11_judged [.ref (E.2.2.2.2 0)] σ (some (.int z.1)) z.2 := by
  refine Ct.of hE (by decide) (Nat.le_of_ble_eq_true rfl) (fun X O => ?_)
  have O : Ok (YM E) X cX11_judged 1 RX11 (some .int) rmX11_judged (some (.int z.1)) z.2 := O
  show At (YM E) X 1 0 [(0, .ref (E.2.2.2.2 0))] [] σ
  unfold fX11_judged at hf
  refine a_aload_n (pc' := 1) O dX11_judged_0 rfl 0 rfl rfl ?_
  obtain ⟨z1, h2, hf⟩ := bd_some hf
  refine a_callVN (pc' := 4) (n := 0) (As := []) (st := []) (q0 := 0) O (ctX11_plansAll hE σ z1 h2) wm_576 wm_577 wm_578 wm_5 wm_579 (by decide +kernel) (by decide) (gM_0 E _) hc_11 rfl rfl rfl (Nat.le_of_ble_eq_true rfl) dX11_judged_1 rfl ?_
  refine a_aload_n (pc' := 5) O dX11_judged_4 rfl 0 rfl rfl ?_
  refine gfM_0_16 (pc' := 8) O dX11_judged_5 rfl ?_
  exact a_iret O hf dX11_judged_8
def rmX11_stateOf : Room := { frames := 5, cells := 0, slots := 0, locals := 113 }
def fX11_stateOf (a0 : Int32) (a1 : Int32) (σ : St) : Option (Int32 × St) :=
  (fX11_plans a0 σ).bind (fun z1 => if a1 = 0 then some ((z1.1 14), z1) else (some ((z1.1 15), z1)))
set_option maxRecDepth 100000 in
theorem ctX11_stateOf {E : ET} (hE : Dj (YM E)) (a0 : Int32) (a1 : Int32) (σ : St) (z : Int32 × St) (hf : fX11_stateOf a0 a1 σ = some z) : Ct (YM E) yX11_stateOf cX11_stateOf 3 (some .int) rmX11_stateOf [.ref (E.2.2.2.2 0), .int a0, .int a1] σ (some (.int z.1)) z.2 := by
  refine Ct.of hE (by decide) (Nat.le_of_ble_eq_true rfl) (fun X O => ?_)
  have O : Ok (YM E) X cX11_stateOf 3 RX11 (some .int) rmX11_stateOf (some (.int z.1)) z.2 := O
  show At (YM E) X 3 0 [(0, .ref (E.2.2.2.2 0)), (1, .int a0), (2, .int a1)] [] σ
  unfold fX11_stateOf at hf
  refine a_aload_n (pc' := 1) O dX11_stateOf_0 rfl 0 rfl rfl ?_
  refine a_iload_n (pc' := 2) O dX11_stateOf_1 rfl 1 rfl rfl ?_
  obtain ⟨z1, h2, hf⟩ := bd_some hf
  refine a_callVN (pc' := 5) (n := 1) (As := [.int a0]) (st := []) (q0 := 0) O (ctX11_plans hE a0 σ z1 h2) wm_580 wm_581 wm_582 wm_5 wm_583 (by decide +kernel) (by decide) (gM_0 E _) hc_11 rfl rfl rfl (Nat.le_of_ble_eq_true rfl) dX11_stateOf_2 rfl ?_
  refine a_iload_n (pc' := 6) O dX11_stateOf_5 rfl 2 rfl rfl ?_
  refine a_if_ne (pc' := 9) (tgt := 16) O dX11_stateOf_6 (by decide) rfl hf (fun hf => ?_) (fun hf => ?_)
  · refine a_aload_n (pc' := 17) O dX11_stateOf_16 rfl 0 rfl rfl ?_
    refine gfM_0_15 (pc' := 20) O dX11_stateOf_17 rfl ?_
    exact a_iret O hf dX11_stateOf_20
  · refine a_aload_n (pc' := 10) O dX11_stateOf_9 rfl 0 rfl rfl ?_
    refine gfM_0_14 (pc' := 13) O dX11_stateOf_10 rfl ?_
    refine a_goto (tgt := 20) O dX11_stateOf_13 (by decide) ?_
    exact a_iret O hf dX11_stateOf_20
def rmX11_state : Room := { frames := 6, cells := 0, slots := 0, locals := 135 }
def fX11_state (a0 : Int32) (a1 : Int32) (σ : St) : Option (Int32 × St) :=
  (fX11_readsPlan σ).bind (fun z1 => (fX11_in (a0.toInt64) 0 ((z1.2.1 11).toInt64)).bind (fun z3 => if z3 = 0 then some ((-2), z1.2) else ((fX11_isTwo a1).bind (fun z5 => if z5 = 0 then some ((-2), z1.2) else ((fX11_stateOf a0 a1 z1.2).bind (fun z7 => some (z7.1, z7.2)))))))
set_option maxRecDepth 100000 in
theorem ctX11_state {E : ET} (hE : Dj (YM E)) (a0 : Int32) (a1 : Int32) (σ : St) (z : Int32 × St) (hf : fX11_state a0 a1 σ = some z) : Ct (YM E) yX11_state cX11_state 3 (some .int) rmX11_state [.ref (E.2.2.2.2 0), .int a0, .int a1] σ (some (.int z.1)) z.2 := by
  refine Ct.of hE (by decide) (Nat.le_of_ble_eq_true rfl) (fun X O => ?_)
  have O : Ok (YM E) X cX11_state 3 RX11 (some .int) rmX11_state (some (.int z.1)) z.2 := O
  show At (YM E) X 3 0 [(0, .ref (E.2.2.2.2 0)), (1, .int a0), (2, .int a1)] [] σ
  unfold fX11_state at hf
  refine a_aload_n (pc' := 1) O dX11_state_0 rfl 0 rfl rfl ?_
  obtain ⟨z1, h2, hf⟩ := bd_some hf
  refine a_callVI (pc' := 4) (n := 0) (As := []) (st := []) (q0 := 0) O (ctX11_readsPlan hE σ z1 h2) wm_259 wm_260 wm_261 wm_5 wm_262 (by decide +kernel) (by decide) (gM_0 E _) hc_11 rfl rfl rfl (Nat.le_of_ble_eq_true rfl) dX11_state_1 rfl ?_
  refine a_pop (pc' := 5) O dX11_state_4 rfl rfl ?_
  refine a_iload_n (pc' := 6) O dX11_state_5 rfl 1 rfl rfl ?_
  refine a_i2l (pc' := 7) O dX11_state_6 rfl rfl ?_
  refine a_lconst (pc' := 8) (v := 0) O dX11_state_7 (by decide) rfl ?_
  refine a_aload_n (pc' := 9) O dX11_state_8 rfl 0 rfl rfl ?_
  refine gfM_0_11 (pc' := 12) O dX11_state_9 rfl ?_
  refine a_i2l (pc' := 13) O dX11_state_12 rfl rfl ?_
  obtain ⟨z3, h4, hf⟩ := bd_some hf
  refine a_callSI (pc' := 16) (n := 3) (As := [.long (a0.toInt64), .long 0, .long ((z1.2.1 11).toInt64)]) (st := []) O (ctX11_in hE (a0.toInt64) 0 ((z1.2.1 11).toInt64) z1.2 z3 h4) wm_201 wm_202 wm_5 wm_203 (by decide +kernel) (by decide) rfl rfl (Nat.le_of_ble_eq_true rfl) dX11_state_13 rfl ?_
  refine a_if_eq (pc' := 19) (tgt := 35) O dX11_state_16 (by decide) rfl hf (fun hf => ?_) (fun hf => ?_)
  · refine a_bipush (pc' := 37) (v := (-2)) O dX11_state_35 (by decide) rfl ?_
    exact a_iret O hf dX11_state_37
  · refine a_iload_n (pc' := 20) O dX11_state_19 rfl 2 rfl rfl ?_
    obtain ⟨z5, h6, hf⟩ := bd_some hf
    refine a_callSI (pc' := 23) (n := 1) (As := [.int a1]) (st := []) O (ctX11_isTwo hE a1 z1.2 z5 h6) wm_198 wm_199 wm_5 wm_200 (by decide +kernel) (by decide) rfl rfl (Nat.le_of_ble_eq_true rfl) dX11_state_20 rfl ?_
    refine a_if_eq (pc' := 26) (tgt := 35) O dX11_state_23 (by decide) rfl hf (fun hf => ?_) (fun hf => ?_)
    · refine a_bipush (pc' := 37) (v := (-2)) O dX11_state_35 (by decide) rfl ?_
      exact a_iret O hf dX11_state_37
    · refine a_aload_n (pc' := 27) O dX11_state_26 rfl 0 rfl rfl ?_
      refine a_iload_n (pc' := 28) O dX11_state_27 rfl 1 rfl rfl ?_
      refine a_iload_n (pc' := 29) O dX11_state_28 rfl 2 rfl rfl ?_
      obtain ⟨z7, h8, hf⟩ := bd_some hf
      refine a_callVI (pc' := 32) (n := 2) (As := [.int a0, .int a1]) (st := []) (q0 := 0) O (ctX11_stateOf hE a0 a1 z1.2 z7 h8) wm_618 wm_619 wm_620 wm_5 wm_621 (by decide +kernel) (by decide) (gM_0 E _) hc_11 rfl rfl rfl (Nat.le_of_ble_eq_true rfl) dX11_state_29 rfl ?_
      refine a_goto (tgt := 37) O dX11_state_32 (by decide) ?_
      exact a_iret O hf dX11_state_37
def rmX11_leftOf : Room := { frames := 5, cells := 0, slots := 0, locals := 113 }
def fX11_leftOf (a0 : Int32) (a1 : Int32) (σ : St) : Option (Int32 × St) :=
  (fX11_plans a0 σ).bind (fun z1 => gIn a1 4 (some ((z1.2.2 10 a1.toNatClampNeg), z1)))
set_option maxRecDepth 100000 in
theorem ctX11_leftOf {E : ET} (hE : Dj (YM E)) (a0 : Int32) (a1 : Int32) (σ : St) (z : Int32 × St) (hf : fX11_leftOf a0 a1 σ = some z) : Ct (YM E) yX11_leftOf cX11_leftOf 3 (some .int) rmX11_leftOf [.ref (E.2.2.2.2 0), .int a0, .int a1] σ (some (.int z.1)) z.2 := by
  refine Ct.of hE (by decide) (Nat.le_of_ble_eq_true rfl) (fun X O => ?_)
  have O : Ok (YM E) X cX11_leftOf 3 RX11 (some .int) rmX11_leftOf (some (.int z.1)) z.2 := O
  show At (YM E) X 3 0 [(0, .ref (E.2.2.2.2 0)), (1, .int a0), (2, .int a1)] [] σ
  unfold fX11_leftOf at hf
  refine a_aload_n (pc' := 1) O dX11_leftOf_0 rfl 0 rfl rfl ?_
  refine a_iload_n (pc' := 2) O dX11_leftOf_1 rfl 1 rfl rfl ?_
  obtain ⟨z1, h2, hf⟩ := bd_some hf
  refine a_callVN (pc' := 5) (n := 1) (As := [.int a0]) (st := []) (q0 := 0) O (ctX11_plans hE a0 σ z1 h2) wm_580 wm_581 wm_582 wm_5 wm_583 (by decide +kernel) (by decide) (gM_0 E _) hc_11 rfl rfl rfl (Nat.le_of_ble_eq_true rfl) dX11_leftOf_2 rfl ?_
  refine a_aload_n (pc' := 6) O dX11_leftOf_5 rfl 0 rfl rfl ?_
  refine gfM_0_17 (pc' := 9) O dX11_leftOf_6 rfl ?_
  refine a_iload_n (pc' := 10) O dX11_leftOf_9 rfl 2 rfl rfl ?_
  refine laM_10 (pc' := 11) O hf dX11_leftOf_10 rfl (fun hf => ?_)
  exact a_iret O hf dX11_leftOf_11
def rmX11_left : Room := { frames := 6, cells := 0, slots := 0, locals := 135 }
def fX11_left (a0 : Int32) (a1 : Int32) (σ : St) : Option (Int32 × St) :=
  (fX11_readsPlan σ).bind (fun z1 => (fX11_in (a0.toInt64) 0 ((z1.2.1 11).toInt64)).bind (fun z3 => if z3 = 0 then some ((-2), z1.2) else ((fX11_isGoer a1 z1.2).bind (fun z5 => if z5 = 0 then some ((-2), z1.2) else ((fX11_leftOf a0 a1 z1.2).bind (fun z7 => some (z7.1, z7.2)))))))
set_option maxRecDepth 100000 in
theorem ctX11_left {E : ET} (hE : Dj (YM E)) (a0 : Int32) (a1 : Int32) (σ : St) (z : Int32 × St) (hf : fX11_left a0 a1 σ = some z) : Ct (YM E) yX11_left cX11_left 3 (some .int) rmX11_left [.ref (E.2.2.2.2 0), .int a0, .int a1] σ (some (.int z.1)) z.2 := by
  refine Ct.of hE (by decide) (Nat.le_of_ble_eq_true rfl) (fun X O => ?_)
  have O : Ok (YM E) X cX11_left 3 RX11 (some .int) rmX11_left (some (.int z.1)) z.2 := O
  show At (YM E) X 3 0 [(0, .ref (E.2.2.2.2 0)), (1, .int a0), (2, .int a1)] [] σ
  unfold fX11_left at hf
  refine a_aload_n (pc' := 1) O dX11_left_0 rfl 0 rfl rfl ?_
  obtain ⟨z1, h2, hf⟩ := bd_some hf
  refine a_callVI (pc' := 4) (n := 0) (As := []) (st := []) (q0 := 0) O (ctX11_readsPlan hE σ z1 h2) wm_259 wm_260 wm_261 wm_5 wm_262 (by decide +kernel) (by decide) (gM_0 E _) hc_11 rfl rfl rfl (Nat.le_of_ble_eq_true rfl) dX11_left_1 rfl ?_
  refine a_pop (pc' := 5) O dX11_left_4 rfl rfl ?_
  refine a_iload_n (pc' := 6) O dX11_left_5 rfl 1 rfl rfl ?_
  refine a_i2l (pc' := 7) O dX11_left_6 rfl rfl ?_
  refine a_lconst (pc' := 8) (v := 0) O dX11_left_7 (by decide) rfl ?_
  refine a_aload_n (pc' := 9) O dX11_left_8 rfl 0 rfl rfl ?_
  refine gfM_0_11 (pc' := 12) O dX11_left_9 rfl ?_
  refine a_i2l (pc' := 13) O dX11_left_12 rfl rfl ?_
  obtain ⟨z3, h4, hf⟩ := bd_some hf
  refine a_callSI (pc' := 16) (n := 3) (As := [.long (a0.toInt64), .long 0, .long ((z1.2.1 11).toInt64)]) (st := []) O (ctX11_in hE (a0.toInt64) 0 ((z1.2.1 11).toInt64) z1.2 z3 h4) wm_201 wm_202 wm_5 wm_203 (by decide +kernel) (by decide) rfl rfl (Nat.le_of_ble_eq_true rfl) dX11_left_13 rfl ?_
  refine a_if_eq (pc' := 19) (tgt := 36) O dX11_left_16 (by decide) rfl hf (fun hf => ?_) (fun hf => ?_)
  · refine a_bipush (pc' := 38) (v := (-2)) O dX11_left_36 (by decide) rfl ?_
    exact a_iret O hf dX11_left_38
  · refine a_aload_n (pc' := 20) O dX11_left_19 rfl 0 rfl rfl ?_
    refine a_iload_n (pc' := 21) O dX11_left_20 rfl 2 rfl rfl ?_
    obtain ⟨z5, h6, hf⟩ := bd_some hf
    refine a_callVI (pc' := 24) (n := 1) (As := [.int a1]) (st := []) (q0 := 0) O (ctX11_isGoer hE a1 z1.2 z5 h6) wm_418 wm_419 wm_420 wm_5 wm_421 (by decide +kernel) (by decide) (gM_0 E _) hc_11 rfl rfl rfl (Nat.le_of_ble_eq_true rfl) dX11_left_21 rfl ?_
    refine a_if_eq (pc' := 27) (tgt := 36) O dX11_left_24 (by decide) rfl hf (fun hf => ?_) (fun hf => ?_)
    · refine a_bipush (pc' := 38) (v := (-2)) O dX11_left_36 (by decide) rfl ?_
      exact a_iret O hf dX11_left_38
    · refine a_aload_n (pc' := 28) O dX11_left_27 rfl 0 rfl rfl ?_
      refine a_iload_n (pc' := 29) O dX11_left_28 rfl 1 rfl rfl ?_
      refine a_iload_n (pc' := 30) O dX11_left_29 rfl 2 rfl rfl ?_
      obtain ⟨z7, h8, hf⟩ := bd_some hf
      refine a_callVI (pc' := 33) (n := 2) (As := [.int a0, .int a1]) (st := []) (q0 := 0) O (ctX11_leftOf hE a0 a1 z1.2 z7 h8) wm_634 wm_635 wm_636 wm_5 wm_637 (by decide +kernel) (by decide) (gM_0 E _) hc_11 rfl rfl rfl (Nat.le_of_ble_eq_true rfl) dX11_left_30 rfl ?_
      refine a_goto (tgt := 38) O dX11_left_33 (by decide) ?_
      exact a_iret O hf dX11_left_38
def rmX11_homeNow : Room := { frames := 6, cells := 0, slots := 0, locals := 133 }
def fX11_homeNow (σ : St) : Option (Int32 × St) :=
  (fX11_plansAll σ).bind (fun z1 => if (z1.1 16) = (-1) then if (z1.1 14) = 0 then some (1, z1) else (some (0, z1)) else (some (0, z1)))
set_option maxRecDepth 100000 in
theorem ctX11_homeNow {E : ET} (hE : Dj (YM E)) (σ : St) (z : Int32 × St) (hf : fX11_homeNow σ = some z) : Ct (YM E) yX11_homeNow cX11_homeNow 1 (some .int) rmX11_homeNow [.ref (E.2.2.2.2 0)] σ (some (.int z.1)) z.2 := by
  refine Ct.of hE (by decide) (Nat.le_of_ble_eq_true rfl) (fun X O => ?_)
  have O : Ok (YM E) X cX11_homeNow 1 RX11 (some .int) rmX11_homeNow (some (.int z.1)) z.2 := O
  show At (YM E) X 1 0 [(0, .ref (E.2.2.2.2 0))] [] σ
  unfold fX11_homeNow at hf
  refine a_aload_n (pc' := 1) O dX11_homeNow_0 rfl 0 rfl rfl ?_
  obtain ⟨z1, h2, hf⟩ := bd_some hf
  refine a_callVN (pc' := 4) (n := 0) (As := []) (st := []) (q0 := 0) O (ctX11_plansAll hE σ z1 h2) wm_576 wm_577 wm_578 wm_5 wm_579 (by decide +kernel) (by decide) (gM_0 E _) hc_11 rfl rfl rfl (Nat.le_of_ble_eq_true rfl) dX11_homeNow_1 rfl ?_
  refine a_aload_n (pc' := 5) O dX11_homeNow_4 rfl 0 rfl rfl ?_
  refine gfM_0_16 (pc' := 8) O dX11_homeNow_5 rfl ?_
  refine a_iconst (pc' := 9) (v := (-1)) O dX11_homeNow_8 (by decide) rfl ?_
  refine a_icmp_ne (pc' := 12) (tgt := 23) O dX11_homeNow_9 (by decide) rfl hf (fun hf => ?_) (fun hf => ?_)
  · refine a_iconst (pc' := 24) (v := 0) O dX11_homeNow_23 (by decide) rfl ?_
    exact a_iret O hf dX11_homeNow_24
  · refine a_aload_n (pc' := 13) O dX11_homeNow_12 rfl 0 rfl rfl ?_
    refine gfM_0_14 (pc' := 16) O dX11_homeNow_13 rfl ?_
    refine a_if_ne (pc' := 19) (tgt := 23) O dX11_homeNow_16 (by decide) rfl hf (fun hf => ?_) (fun hf => ?_)
    · refine a_iconst (pc' := 24) (v := 0) O dX11_homeNow_23 (by decide) rfl ?_
      exact a_iret O hf dX11_homeNow_24
    · refine a_iconst (pc' := 20) (v := 1) O dX11_homeNow_19 (by decide) rfl ?_
      refine a_goto (tgt := 24) O dX11_homeNow_20 (by decide) ?_
      exact a_iret O hf dX11_homeNow_24
def rmX11_home : Room := { frames := 7, cells := 0, slots := 0, locals := 153 }
def fX11_home (σ : St) : Option (Int32 × St) :=
  (fX11_homeNow σ).bind (fun z1 => some (z1.1, z1.2))
set_option maxRecDepth 100000 in
theorem ctX11_home {E : ET} (hE : Dj (YM E)) (σ : St) (z : Int32 × St) (hf : fX11_home σ = some z) : Ct (YM E) yX11_home cX11_home 1 (some .int) rmX11_home [.ref (E.2.2.2.2 0)] σ (some (.int z.1)) z.2 := by
  refine Ct.of hE (by decide) (Nat.le_of_ble_eq_true rfl) (fun X O => ?_)
  have O : Ok (YM E) X cX11_home 1 RX11 (some .int) rmX11_home (some (.int z.1)) z.2 := O
  show At (YM E) X 1 0 [(0, .ref (E.2.2.2.2 0))] [] σ
  unfold fX11_home at hf
  refine a_aload_n (pc' := 1) O dX11_home_0 rfl 0 rfl rfl ?_
  obtain ⟨z1, h2, hf⟩ := bd_some hf
  refine a_callVI (pc' := 4) (n := 0) (As := []) (st := []) (q0 := 0) O (ctX11_homeNow hE σ z1 h2) wm_646 wm_647 wm_648 wm_5 wm_649 (by decide +kernel) (by decide) (gM_0 E _) hc_11 rfl rfl rfl (Nat.le_of_ble_eq_true rfl) dX11_home_1 rfl ?_
  exact a_iret O hf dX11_home_4
def rmX11_findDark : Room := { frames := 1, cells := 0, slots := 0, locals := 21 }
def BX11_findDark_181 (k16 : St → Int32 → Int32 → Int32 → Option St) (σ : St) (x1 : Int32) (x2 : Int32) (x3 : Int32) (x5 : Int32) : Option St :=
  gIn 0 2 (bS (sA σ 12 (0 : Int32).toNatClampNeg x5) (fun σ5 => gIn 1 2 (bS (sA σ5 12 (1 : Int32).toNatClampNeg x3) (fun σ6 => bI (x3 + 1) (fun v7 => k16 σ6 x1 x2 v7)))))
set_option maxRecDepth 100000 in
theorem okBX11_findDark_181 {E : ET} {X : XT} {z : St} (O : Ok (YM E) X cX11_findDark 9 RX11 none rmX11_findDark none z) (k16 : St → Int32 → Int32 → Int32 → Option St) (hk16 : ∀ (σ : St) (x1 : Int32) (x2 : Int32) (x3 : Int32), k16 σ x1 x2 x3 = some z → At (YM E) X 9 16 [(0, .ref (E.2.2.2.2 0)), (1, .int x1), (2, .int x2), (3, .int x3)] [] σ) (σ : St) (x1 : Int32) (x2 : Int32) (x3 : Int32) (x5 : Int32) (hf : BX11_findDark_181 k16 σ x1 x2 x3 x5 = some z) : At (YM E) X 9 181 [(0, .ref (E.2.2.2.2 0)), (1, .int x1), (2, .int x2), (3, .int x3), (5, .int x5)] [] σ := by
  have hE := O.2.2.2.2.2.2.2.2.2.1
  unfold BX11_findDark_181 at hf
  refine a_aload_n (pc' := 182) O dX11_findDark_181 rfl 0 rfl rfl ?_
  refine gfM_0_19 (pc' := 185) O dX11_findDark_182 rfl ?_
  refine a_iconst (pc' := 186) (v := 0) O dX11_findDark_185 (by decide) rfl ?_
  refine a_iload (pc' := 188) O dX11_findDark_186 4 rfl rfl ?_
  refine saM_12 (pc' := 189) O hf dX11_findDark_188 rfl (fun σ5 hf => ?_)
  refine a_aload_n (pc' := 190) O dX11_findDark_189 rfl 0 rfl rfl ?_
  refine gfM_0_19 (pc' := 193) O dX11_findDark_190 rfl ?_
  refine a_iconst (pc' := 194) (v := 1) O dX11_findDark_193 (by decide) rfl ?_
  refine a_iload_n (pc' := 195) O dX11_findDark_194 rfl 3 rfl rfl ?_
  refine saM_12 (pc' := 196) O hf dX11_findDark_195 rfl (fun σ6 hf => ?_)
  refine a_iincB (pc' := 199) (lv' := fun v7 => [(3, .int v7), (0, .ref (E.2.2.2.2 0)), (1, .int x1), (2, .int x2), (5, .int x5)]) (c0 := 1) O dX11_findDark_196 3 rfl (by decide) (by decide) (fun _ => rfl) rfl hf (fun v7 hf => ?_)
  refine a_goto (tgt := 16) O dX11_findDark_199 (by decide) ?_
  exact a_sub [1, 2, 3, 0] rfl (hk16 σ6 x1 x2 v7 hf)
def BX11_findDark_144 (k16 : St → Int32 → Int32 → Int32 → Option St) (σ : St) (x1 : Int32) (x2 : Int32) (x3 : Int32) (x4 : Int32) (x5 : Int32) (x6 : Int32) : Option St :=
  if x6 = 0 then bI (x3 + 1) (fun v3 => k16 σ x1 x2 v3) else (gIn x2 4 (if (σ.2.2 9 x2.toNatClampNeg) < x4 then bI (x3 + 1) (fun v4 => k16 σ x1 x2 v4) else (gIn 0 2 (if (σ.2.2 12 (0 : Int32).toNatClampNeg) = (-1) then BX11_findDark_181 k16 σ x1 x2 x3 x5 else (gIn 0 2 (if (σ.2.2 12 (0 : Int32).toNatClampNeg) ≤ x5 then bI (x3 + 1) (fun v8 => k16 σ x1 x2 v8) else (BX11_findDark_181 k16 σ x1 x2 x3 x5)))))))
set_option maxRecDepth 100000 in
theorem okBX11_findDark_144 {E : ET} {X : XT} {z : St} (O : Ok (YM E) X cX11_findDark 9 RX11 none rmX11_findDark none z) (k16 : St → Int32 → Int32 → Int32 → Option St) (hk16 : ∀ (σ : St) (x1 : Int32) (x2 : Int32) (x3 : Int32), k16 σ x1 x2 x3 = some z → At (YM E) X 9 16 [(0, .ref (E.2.2.2.2 0)), (1, .int x1), (2, .int x2), (3, .int x3)] [] σ) (σ : St) (x1 : Int32) (x2 : Int32) (x3 : Int32) (x4 : Int32) (x5 : Int32) (x6 : Int32) (hf : BX11_findDark_144 k16 σ x1 x2 x3 x4 x5 x6 = some z) : At (YM E) X 9 144 [(0, .ref (E.2.2.2.2 0)), (1, .int x1), (2, .int x2), (3, .int x3), (4, .int x4), (5, .int x5), (6, .int x6)] [] σ := by
  have hE := O.2.2.2.2.2.2.2.2.2.1
  unfold BX11_findDark_144 at hf
  refine a_iload (pc' := 146) O dX11_findDark_144 6 rfl rfl ?_
  refine a_if_eq (pc' := 149) (tgt := 196) O dX11_findDark_146 (by decide) rfl hf (fun hf => ?_) (fun hf => ?_)
  · refine a_iincB (pc' := 199) (lv' := fun v3 => [(3, .int v3), (0, .ref (E.2.2.2.2 0)), (1, .int x1), (2, .int x2), (4, .int x4), (5, .int x5), (6, .int x6)]) (c0 := 1) O dX11_findDark_196 3 rfl (by decide) (by decide) (fun _ => rfl) rfl hf (fun v3 hf => ?_)
    refine a_goto (tgt := 16) O dX11_findDark_199 (by decide) ?_
    exact a_sub [1, 2, 3, 0] rfl (hk16 σ x1 x2 v3 hf)
  · refine a_iload (pc' := 151) O dX11_findDark_149 4 rfl rfl ?_
    refine a_aload_n (pc' := 152) O dX11_findDark_151 rfl 0 rfl rfl ?_
    refine gfM_0_13 (pc' := 155) O dX11_findDark_152 rfl ?_
    refine a_iload_n (pc' := 156) O dX11_findDark_155 rfl 2 rfl rfl ?_
    refine laM_9 (pc' := 157) O hf dX11_findDark_156 rfl (fun hf => ?_)
    refine a_icmp_gt (pc' := 160) (tgt := 196) O dX11_findDark_157 (by decide) rfl hf (fun hf => ?_) (fun hf => ?_)
    · refine a_iincB (pc' := 199) (lv' := fun v4 => [(3, .int v4), (0, .ref (E.2.2.2.2 0)), (1, .int x1), (2, .int x2), (4, .int x4), (5, .int x5), (6, .int x6)]) (c0 := 1) O dX11_findDark_196 3 rfl (by decide) (by decide) (fun _ => rfl) rfl hf (fun v4 hf => ?_)
      refine a_goto (tgt := 16) O dX11_findDark_199 (by decide) ?_
      exact a_sub [1, 2, 3, 0] rfl (hk16 σ x1 x2 v4 hf)
    · refine a_aload_n (pc' := 161) O dX11_findDark_160 rfl 0 rfl rfl ?_
      refine gfM_0_19 (pc' := 164) O dX11_findDark_161 rfl ?_
      refine a_iconst (pc' := 165) (v := 0) O dX11_findDark_164 (by decide) rfl ?_
      refine laM_12 (pc' := 166) O hf dX11_findDark_165 rfl (fun hf => ?_)
      refine a_iconst (pc' := 167) (v := (-1)) O dX11_findDark_166 (by decide) rfl ?_
      refine a_icmp_eq (pc' := 170) (tgt := 181) O dX11_findDark_167 (by decide) rfl hf (fun hf => ?_) (fun hf => ?_)
      · exact a_sub [0, 1, 2, 3, 5] rfl (okBX11_findDark_181 O k16 hk16 σ x1 x2 x3 x5 hf)
      · refine a_iload (pc' := 172) O dX11_findDark_170 5 rfl rfl ?_
        refine a_aload_n (pc' := 173) O dX11_findDark_172 rfl 0 rfl rfl ?_
        refine gfM_0_19 (pc' := 176) O dX11_findDark_173 rfl ?_
        refine a_iconst (pc' := 177) (v := 0) O dX11_findDark_176 (by decide) rfl ?_
        refine laM_12 (pc' := 178) O hf dX11_findDark_177 rfl (fun hf => ?_)
        refine a_icmp_ge (pc' := 181) (tgt := 196) O dX11_findDark_178 (by decide) rfl hf (fun hf => ?_) (fun hf => ?_)
        · refine a_iincB (pc' := 199) (lv' := fun v8 => [(3, .int v8), (0, .ref (E.2.2.2.2 0)), (1, .int x1), (2, .int x2), (4, .int x4), (5, .int x5), (6, .int x6)]) (c0 := 1) O dX11_findDark_196 3 rfl (by decide) (by decide) (fun _ => rfl) rfl hf (fun v8 hf => ?_)
          refine a_goto (tgt := 16) O dX11_findDark_199 (by decide) ?_
          exact a_sub [1, 2, 3, 0] rfl (hk16 σ x1 x2 v8 hf)
        · exact a_sub [0, 1, 2, 3, 5] rfl (okBX11_findDark_181 O k16 hk16 σ x1 x2 x3 x5 hf)
def BX11_findDark_112 (k16 : St → Int32 → Int32 → Int32 → Option St) (k35 : St → Int32 → Int32 → Int32 → Int32 → Int32 → Int32 → Int32 → Option St) (σ : St) (x1 : Int32) (x2 : Int32) (x3 : Int32) (x5 : Int32) (x6 : Int32) (x7 : Int32) (x8 : Int32) (y0 : Int32) (y1 : Int32) : Option St :=
  bI (y1 + y0) (fun v12 => (fX11_isIn x3 x7).bind (fun z13 => if z13 = 0 then bI (x5 + x8) (fun v15 => bI (x7 + 1) (fun v16 => k35 σ x1 x2 x3 v12 v15 x6 v16)) else (bI (x5 + (2 * x8)) (fun v17 => bI (x7 + 1) (fun v18 => k35 σ x1 x2 x3 v12 v17 x6 v18)))))
set_option maxRecDepth 100000 in
theorem okBX11_findDark_112 {E : ET} {X : XT} {z : St} (O : Ok (YM E) X cX11_findDark 9 RX11 none rmX11_findDark none z) (k16 : St → Int32 → Int32 → Int32 → Option St) (hk16 : ∀ (σ : St) (x1 : Int32) (x2 : Int32) (x3 : Int32), k16 σ x1 x2 x3 = some z → At (YM E) X 9 16 [(0, .ref (E.2.2.2.2 0)), (1, .int x1), (2, .int x2), (3, .int x3)] [] σ) (k35 : St → Int32 → Int32 → Int32 → Int32 → Int32 → Int32 → Int32 → Option St) (hk35 : ∀ (σ : St) (x1 : Int32) (x2 : Int32) (x3 : Int32) (x4 : Int32) (x5 : Int32) (x6 : Int32) (x7 : Int32), k35 σ x1 x2 x3 x4 x5 x6 x7 = some z → At (YM E) X 9 35 [(0, .ref (E.2.2.2.2 0)), (1, .int x1), (2, .int x2), (3, .int x3), (4, .int x4), (5, .int x5), (6, .int x6), (7, .int x7)] [] σ) (σ : St) (x1 : Int32) (x2 : Int32) (x3 : Int32) (x5 : Int32) (x6 : Int32) (x7 : Int32) (x8 : Int32) (y0 : Int32) (y1 : Int32) (hf : BX11_findDark_112 k16 k35 σ x1 x2 x3 x5 x6 x7 x8 y0 y1 = some z) : At (YM E) X 9 112 [(0, .ref (E.2.2.2.2 0)), (1, .int x1), (2, .int x2), (3, .int x3), (5, .int x5), (6, .int x6), (7, .int x7), (8, .int x8)] [.int y0, .int y1] σ := by
  have hE := O.2.2.2.2.2.2.2.2.2.1
  unfold BX11_findDark_112 at hf
  refine a_iadd (pc' := 113) O dX11_findDark_112 rfl ?_
  refine a_topi hf (fun v12 hf => ?_)
  refine a_istore (pc' := 115) (lv' := [(4, .int v12), (0, .ref (E.2.2.2.2 0)), (1, .int x1), (2, .int x2), (3, .int x3), (5, .int x5), (6, .int x6), (7, .int x7), (8, .int x8)]) O dX11_findDark_113 (by decide) rfl rfl ?_
  refine a_iload (pc' := 117) O dX11_findDark_115 5 rfl rfl ?_
  refine a_iload_n (pc' := 118) O dX11_findDark_117 rfl 4 rfl rfl ?_
  refine a_iload (pc' := 120) O dX11_findDark_118 7 rfl rfl ?_
  obtain ⟨z13, h14, hf⟩ := bd_some hf
  refine a_callSI (pc' := 123) (n := 2) (As := [.int x3, .int x7]) (st := [.int x5]) O (ctX11_isIn hE x3 x7 σ z13 h14) wm_682 wm_683 wm_5 wm_684 (by decide +kernel) (by decide) rfl rfl (Nat.le_of_ble_eq_true rfl) dX11_findDark_120 rfl ?_
  refine a_if_eq (pc' := 126) (tgt := 133) O dX11_findDark_123 (by decide) rfl hf (fun hf => ?_) (fun hf => ?_)
  · refine a_iload (pc' := 135) O dX11_findDark_133 8 rfl rfl ?_
    refine a_iadd (pc' := 136) O dX11_findDark_135 rfl ?_
    refine a_topi hf (fun v15 hf => ?_)
    refine a_istore (pc' := 138) (lv' := [(5, .int v15), (4, .int v12), (0, .ref (E.2.2.2.2 0)), (1, .int x1), (2, .int x2), (3, .int x3), (6, .int x6), (7, .int x7), (8, .int x8)]) O dX11_findDark_136 (by decide) rfl rfl ?_
    refine a_iincB (pc' := 141) (lv' := fun v16 => [(7, .int v16), (5, .int v15), (4, .int v12), (0, .ref (E.2.2.2.2 0)), (1, .int x1), (2, .int x2), (3, .int x3), (6, .int x6), (8, .int x8)]) (c0 := 1) O dX11_findDark_138 7 rfl (by decide) (by decide) (fun _ => rfl) rfl hf (fun v16 hf => ?_)
    refine a_goto (tgt := 35) O dX11_findDark_141 (by decide) ?_
    exact a_sub [3, 4, 5, 6, 2, 1, 7, 0] rfl (hk35 σ x1 x2 x3 v12 v15 x6 v16 hf)
  · refine a_iconst (pc' := 127) (v := 2) O dX11_findDark_126 (by decide) rfl ?_
    refine a_iload (pc' := 129) O dX11_findDark_127 8 rfl rfl ?_
    refine a_imul (pc' := 130) O dX11_findDark_129 rfl ?_
    refine a_goto (tgt := 135) O dX11_findDark_130 (by decide) ?_
    refine a_iadd (pc' := 136) O dX11_findDark_135 rfl ?_
    refine a_topi hf (fun v17 hf => ?_)
    refine a_istore (pc' := 138) (lv' := [(5, .int v17), (4, .int v12), (0, .ref (E.2.2.2.2 0)), (1, .int x1), (2, .int x2), (3, .int x3), (6, .int x6), (7, .int x7), (8, .int x8)]) O dX11_findDark_136 (by decide) rfl rfl ?_
    refine a_iincB (pc' := 141) (lv' := fun v18 => [(7, .int v18), (5, .int v17), (4, .int v12), (0, .ref (E.2.2.2.2 0)), (1, .int x1), (2, .int x2), (3, .int x3), (6, .int x6), (8, .int x8)]) (c0 := 1) O dX11_findDark_138 7 rfl (by decide) (by decide) (fun _ => rfl) rfl hf (fun v18 hf => ?_)
    refine a_goto (tgt := 35) O dX11_findDark_141 (by decide) ?_
    exact a_sub [3, 4, 5, 6, 2, 1, 7, 0] rfl (hk35 σ x1 x2 x3 v12 v17 x6 v18 hf)
def BX11_findDark_93 (k16 : St → Int32 → Int32 → Int32 → Option St) (k35 : St → Int32 → Int32 → Int32 → Int32 → Int32 → Int32 → Int32 → Option St) (σ : St) (x1 : Int32) (x2 : Int32) (x3 : Int32) (x4 : Int32) (x5 : Int32) (x7 : Int32) (x8 : Int32) (y0 : Int32) : Option St :=
  (fX11_isIn x3 x7).bind (fun z10 => if z10 = 0 then BX11_findDark_112 k16 k35 σ x1 x2 x3 x5 y0 x7 x8 x8 x4 else (BX11_findDark_112 k16 k35 σ x1 x2 x3 x5 y0 x7 x8 0 x4))
set_option maxRecDepth 100000 in
theorem okBX11_findDark_93 {E : ET} {X : XT} {z : St} (O : Ok (YM E) X cX11_findDark 9 RX11 none rmX11_findDark none z) (k16 : St → Int32 → Int32 → Int32 → Option St) (hk16 : ∀ (σ : St) (x1 : Int32) (x2 : Int32) (x3 : Int32), k16 σ x1 x2 x3 = some z → At (YM E) X 9 16 [(0, .ref (E.2.2.2.2 0)), (1, .int x1), (2, .int x2), (3, .int x3)] [] σ) (k35 : St → Int32 → Int32 → Int32 → Int32 → Int32 → Int32 → Int32 → Option St) (hk35 : ∀ (σ : St) (x1 : Int32) (x2 : Int32) (x3 : Int32) (x4 : Int32) (x5 : Int32) (x6 : Int32) (x7 : Int32), k35 σ x1 x2 x3 x4 x5 x6 x7 = some z → At (YM E) X 9 35 [(0, .ref (E.2.2.2.2 0)), (1, .int x1), (2, .int x2), (3, .int x3), (4, .int x4), (5, .int x5), (6, .int x6), (7, .int x7)] [] σ) (σ : St) (x1 : Int32) (x2 : Int32) (x3 : Int32) (x4 : Int32) (x5 : Int32) (x7 : Int32) (x8 : Int32) (y0 : Int32) (hf : BX11_findDark_93 k16 k35 σ x1 x2 x3 x4 x5 x7 x8 y0 = some z) : At (YM E) X 9 93 [(0, .ref (E.2.2.2.2 0)), (1, .int x1), (2, .int x2), (3, .int x3), (4, .int x4), (5, .int x5), (7, .int x7), (8, .int x8)] [.int y0] σ := by
  have hE := O.2.2.2.2.2.2.2.2.2.1
  unfold BX11_findDark_93 at hf
  refine a_istore (pc' := 95) (lv' := [(6, .int y0), (0, .ref (E.2.2.2.2 0)), (1, .int x1), (2, .int x2), (3, .int x3), (4, .int x4), (5, .int x5), (7, .int x7), (8, .int x8)]) O dX11_findDark_93 (by decide) rfl rfl ?_
  refine a_iload (pc' := 97) O dX11_findDark_95 5 rfl rfl ?_
  refine a_iload_n (pc' := 98) O dX11_findDark_97 rfl 4 rfl rfl ?_
  refine a_iload (pc' := 100) O dX11_findDark_98 7 rfl rfl ?_
  obtain ⟨z10, h11, hf⟩ := bd_some hf
  refine a_callSI (pc' := 103) (n := 2) (As := [.int x3, .int x7]) (st := [.int x4]) O (ctX11_isIn hE x3 x7 σ z10 h11) wm_682 wm_683 wm_5 wm_684 (by decide +kernel) (by decide) rfl rfl (Nat.le_of_ble_eq_true rfl) dX11_findDark_100 rfl ?_
  refine a_if_eq (pc' := 106) (tgt := 110) O dX11_findDark_103 (by decide) rfl hf (fun hf => ?_) (fun hf => ?_)
  · refine a_iload (pc' := 112) O dX11_findDark_110 8 rfl rfl ?_
    exact a_sub [1, 2, 3, 4, 6, 0, 7, 8] rfl (okBX11_findDark_112 O k16 hk16 k35 hk35 σ x1 x2 x3 x5 y0 x7 x8 x8 x4 hf)
  · refine a_iconst (pc' := 107) (v := 0) O dX11_findDark_106 (by decide) rfl ?_
    refine a_goto (tgt := 112) O dX11_findDark_107 (by decide) ?_
    exact a_sub [1, 2, 3, 4, 6, 0, 7, 8] rfl (okBX11_findDark_112 O k16 hk16 k35 hk35 σ x1 x2 x3 x5 y0 x7 x8 0 x4 hf)
def BX11_findDark_92 (k16 : St → Int32 → Int32 → Int32 → Option St) (k35 : St → Int32 → Int32 → Int32 → Int32 → Int32 → Int32 → Int32 → Option St) (σ : St) (x1 : Int32) (x2 : Int32) (x3 : Int32) (x4 : Int32) (x5 : Int32) (x7 : Int32) (x8 : Int32) : Option St :=
  BX11_findDark_93 k16 k35 σ x1 x2 x3 x4 x5 x7 x8 0
set_option maxRecDepth 100000 in
theorem okBX11_findDark_92 {E : ET} {X : XT} {z : St} (O : Ok (YM E) X cX11_findDark 9 RX11 none rmX11_findDark none z) (k16 : St → Int32 → Int32 → Int32 → Option St) (hk16 : ∀ (σ : St) (x1 : Int32) (x2 : Int32) (x3 : Int32), k16 σ x1 x2 x3 = some z → At (YM E) X 9 16 [(0, .ref (E.2.2.2.2 0)), (1, .int x1), (2, .int x2), (3, .int x3)] [] σ) (k35 : St → Int32 → Int32 → Int32 → Int32 → Int32 → Int32 → Int32 → Option St) (hk35 : ∀ (σ : St) (x1 : Int32) (x2 : Int32) (x3 : Int32) (x4 : Int32) (x5 : Int32) (x6 : Int32) (x7 : Int32), k35 σ x1 x2 x3 x4 x5 x6 x7 = some z → At (YM E) X 9 35 [(0, .ref (E.2.2.2.2 0)), (1, .int x1), (2, .int x2), (3, .int x3), (4, .int x4), (5, .int x5), (6, .int x6), (7, .int x7)] [] σ) (σ : St) (x1 : Int32) (x2 : Int32) (x3 : Int32) (x4 : Int32) (x5 : Int32) (x7 : Int32) (x8 : Int32) (hf : BX11_findDark_92 k16 k35 σ x1 x2 x3 x4 x5 x7 x8 = some z) : At (YM E) X 9 92 [(0, .ref (E.2.2.2.2 0)), (1, .int x1), (2, .int x2), (3, .int x3), (4, .int x4), (5, .int x5), (7, .int x7), (8, .int x8)] [] σ := by
  have hE := O.2.2.2.2.2.2.2.2.2.1
  unfold BX11_findDark_92 at hf
  refine a_iconst (pc' := 93) (v := 0) O dX11_findDark_92 (by decide) rfl ?_
  exact a_sub [0, 1, 2, 3, 4, 5, 6, 7] rfl (okBX11_findDark_93 O k16 hk16 k35 hk35 σ x1 x2 x3 x4 x5 x7 x8 0 hf)
def BX11_findDark_88 (k16 : St → Int32 → Int32 → Int32 → Option St) (k35 : St → Int32 → Int32 → Int32 → Int32 → Int32 → Int32 → Int32 → Option St) (σ : St) (x1 : Int32) (x2 : Int32) (x3 : Int32) (x4 : Int32) (x5 : Int32) (x7 : Int32) (x8 : Int32) : Option St :=
  BX11_findDark_93 k16 k35 σ x1 x2 x3 x4 x5 x7 x8 1
set_option maxRecDepth 100000 in
theorem okBX11_findDark_88 {E : ET} {X : XT} {z : St} (O : Ok (YM E) X cX11_findDark 9 RX11 none rmX11_findDark none z) (k16 : St → Int32 → Int32 → Int32 → Option St) (hk16 : ∀ (σ : St) (x1 : Int32) (x2 : Int32) (x3 : Int32), k16 σ x1 x2 x3 = some z → At (YM E) X 9 16 [(0, .ref (E.2.2.2.2 0)), (1, .int x1), (2, .int x2), (3, .int x3)] [] σ) (k35 : St → Int32 → Int32 → Int32 → Int32 → Int32 → Int32 → Int32 → Option St) (hk35 : ∀ (σ : St) (x1 : Int32) (x2 : Int32) (x3 : Int32) (x4 : Int32) (x5 : Int32) (x6 : Int32) (x7 : Int32), k35 σ x1 x2 x3 x4 x5 x6 x7 = some z → At (YM E) X 9 35 [(0, .ref (E.2.2.2.2 0)), (1, .int x1), (2, .int x2), (3, .int x3), (4, .int x4), (5, .int x5), (6, .int x6), (7, .int x7)] [] σ) (σ : St) (x1 : Int32) (x2 : Int32) (x3 : Int32) (x4 : Int32) (x5 : Int32) (x7 : Int32) (x8 : Int32) (hf : BX11_findDark_88 k16 k35 σ x1 x2 x3 x4 x5 x7 x8 = some z) : At (YM E) X 9 88 [(0, .ref (E.2.2.2.2 0)), (1, .int x1), (2, .int x2), (3, .int x3), (4, .int x4), (5, .int x5), (7, .int x7), (8, .int x8)] [] σ := by
  have hE := O.2.2.2.2.2.2.2.2.2.1
  unfold BX11_findDark_88 at hf
  refine a_iconst (pc' := 89) (v := 1) O dX11_findDark_88 (by decide) rfl ?_
  refine a_goto (tgt := 93) O dX11_findDark_89 (by decide) ?_
  exact a_sub [0, 1, 2, 3, 4, 5, 6, 7] rfl (okBX11_findDark_93 O k16 hk16 k35 hk35 σ x1 x2 x3 x4 x5 x7 x8 1 hf)
def BX11_findDark_35 (k35 : St → Int32 → Int32 → Int32 → Int32 → Int32 → Int32 → Int32 → Option St) (k16 : St → Int32 → Int32 → Int32 → Option St) (σ : St) (x1 : Int32) (x2 : Int32) (x3 : Int32) (x4 : Int32) (x5 : Int32) (x6 : Int32) (x7 : Int32) : Option St :=
  if x1 ≤ x7 then BX11_findDark_144 k16 σ x1 x2 x3 x4 x5 x6 else (gIn (3 * x7) 48 (gIn ((3 * x7) + 1) 48 (bI ((σ.2.2 7 (3 * x7).toNatClampNeg) + (σ.2.2 7 ((3 * x7) + 1).toNatClampNeg)) (fun v9 => if x6 = 0 then BX11_findDark_92 k16 k35 σ x1 x2 x3 x4 x5 x7 v9 else ((fX11_isIn x3 x7).bind (fun z19 => if z19 = 0 then BX11_findDark_88 k16 k35 σ x1 x2 x3 x4 x5 x7 v9 else (gIn x7 16 (if (σ.2.2 8 x7.toNatClampNeg) = 0 then BX11_findDark_92 k16 k35 σ x1 x2 x3 x4 x5 x7 v9 else (BX11_findDark_88 k16 k35 σ x1 x2 x3 x4 x5 x7 v9)))))))))
set_option maxRecDepth 100000 in
theorem okBX11_findDark_35 {E : ET} {X : XT} {z : St} (O : Ok (YM E) X cX11_findDark 9 RX11 none rmX11_findDark none z) (k35 : St → Int32 → Int32 → Int32 → Int32 → Int32 → Int32 → Int32 → Option St) (hk35 : ∀ (σ : St) (x1 : Int32) (x2 : Int32) (x3 : Int32) (x4 : Int32) (x5 : Int32) (x6 : Int32) (x7 : Int32), k35 σ x1 x2 x3 x4 x5 x6 x7 = some z → At (YM E) X 9 35 [(0, .ref (E.2.2.2.2 0)), (1, .int x1), (2, .int x2), (3, .int x3), (4, .int x4), (5, .int x5), (6, .int x6), (7, .int x7)] [] σ) (k16 : St → Int32 → Int32 → Int32 → Option St) (hk16 : ∀ (σ : St) (x1 : Int32) (x2 : Int32) (x3 : Int32), k16 σ x1 x2 x3 = some z → At (YM E) X 9 16 [(0, .ref (E.2.2.2.2 0)), (1, .int x1), (2, .int x2), (3, .int x3)] [] σ) (σ : St) (x1 : Int32) (x2 : Int32) (x3 : Int32) (x4 : Int32) (x5 : Int32) (x6 : Int32) (x7 : Int32) (hf : BX11_findDark_35 k35 k16 σ x1 x2 x3 x4 x5 x6 x7 = some z) : At (YM E) X 9 35 [(0, .ref (E.2.2.2.2 0)), (1, .int x1), (2, .int x2), (3, .int x3), (4, .int x4), (5, .int x5), (6, .int x6), (7, .int x7)] [] σ := by
  have hE := O.2.2.2.2.2.2.2.2.2.1
  unfold BX11_findDark_35 at hf
  refine a_iload (pc' := 37) O dX11_findDark_35 7 rfl rfl ?_
  refine a_iload_n (pc' := 38) O dX11_findDark_37 rfl 1 rfl rfl ?_
  refine a_icmp_ge (pc' := 41) (tgt := 144) O dX11_findDark_38 (by decide) rfl hf (fun hf => ?_) (fun hf => ?_)
  · exact a_sub [0, 1, 2, 3, 4, 5, 6] rfl (okBX11_findDark_144 O k16 hk16 σ x1 x2 x3 x4 x5 x6 hf)
  · refine a_aload_n (pc' := 42) O dX11_findDark_41 rfl 0 rfl rfl ?_
    refine gfM_0_9 (pc' := 45) O dX11_findDark_42 rfl ?_
    refine a_iconst (pc' := 46) (v := 3) O dX11_findDark_45 (by decide) rfl ?_
    refine a_iload (pc' := 48) O dX11_findDark_46 7 rfl rfl ?_
    refine a_imul (pc' := 49) O dX11_findDark_48 rfl ?_
    refine laM_7 (pc' := 50) O hf dX11_findDark_49 rfl (fun hf => ?_)
    refine a_aload_n (pc' := 51) O dX11_findDark_50 rfl 0 rfl rfl ?_
    refine gfM_0_9 (pc' := 54) O dX11_findDark_51 rfl ?_
    refine a_iconst (pc' := 55) (v := 3) O dX11_findDark_54 (by decide) rfl ?_
    refine a_iload (pc' := 57) O dX11_findDark_55 7 rfl rfl ?_
    refine a_imul (pc' := 58) O dX11_findDark_57 rfl ?_
    refine a_iconst (pc' := 59) (v := 1) O dX11_findDark_58 (by decide) rfl ?_
    refine a_iadd (pc' := 60) O dX11_findDark_59 rfl ?_
    refine laM_7 (pc' := 61) O hf dX11_findDark_60 rfl (fun hf => ?_)
    refine a_iadd (pc' := 62) O dX11_findDark_61 rfl ?_
    refine a_topi hf (fun v9 hf => ?_)
    refine a_istore (pc' := 64) (lv' := [(8, .int v9), (0, .ref (E.2.2.2.2 0)), (1, .int x1), (2, .int x2), (3, .int x3), (4, .int x4), (5, .int x5), (6, .int x6), (7, .int x7)]) O dX11_findDark_62 (by decide) rfl rfl ?_
    refine a_iload (pc' := 66) O dX11_findDark_64 7 rfl rfl ?_
    refine a_if_eq (pc' := 69) (tgt := 92) O dX11_findDark_66 (by decide) rfl hf (fun hf => ?_) (fun hf => ?_)
    · exact a_sub [1, 2, 3, 4, 5, 6, 8, 0] rfl (okBX11_findDark_92 O k16 hk16 k35 hk35 σ x1 x2 x3 x4 x5 x7 v9 hf)
    · refine a_iload_n (pc' := 70) O dX11_findDark_69 rfl 4 rfl rfl ?_
      refine a_iload (pc' := 72) O dX11_findDark_70 8 rfl rfl ?_
      obtain ⟨z19, h20, hf⟩ := bd_some hf
      refine a_callSI (pc' := 75) (n := 2) (As := [.int x3, .int x7]) (st := []) O (ctX11_isIn hE x3 x7 σ z19 h20) wm_682 wm_683 wm_5 wm_684 (by decide +kernel) (by decide) rfl rfl (Nat.le_of_ble_eq_true rfl) dX11_findDark_72 rfl ?_
      refine a_if_eq (pc' := 78) (tgt := 88) O dX11_findDark_75 (by decide) rfl hf (fun hf => ?_) (fun hf => ?_)
      · exact a_sub [1, 2, 3, 4, 5, 6, 8, 0] rfl (okBX11_findDark_88 O k16 hk16 k35 hk35 σ x1 x2 x3 x4 x5 x7 v9 hf)
      · refine a_aload_n (pc' := 79) O dX11_findDark_78 rfl 1 rfl rfl ?_
        refine gfM_0_10 (pc' := 82) O dX11_findDark_79 rfl ?_
        refine a_iload (pc' := 84) O dX11_findDark_82 8 rfl rfl ?_
        refine laM_8 (pc' := 85) O hf dX11_findDark_84 rfl (fun hf => ?_)
        refine a_if_eq (pc' := 88) (tgt := 92) O dX11_findDark_85 (by decide) rfl hf (fun hf => ?_) (fun hf => ?_)
        · exact a_sub [1, 2, 3, 4, 5, 6, 8, 0] rfl (okBX11_findDark_92 O k16 hk16 k35 hk35 σ x1 x2 x3 x4 x5 x7 v9 hf)
        · exact a_sub [1, 2, 3, 4, 5, 6, 8, 0] rfl (okBX11_findDark_88 O k16 hk16 k35 hk35 σ x1 x2 x3 x4 x5 x7 v9 hf)
def LX11_findDark_35 (k16 : St → Int32 → Int32 → Int32 → Option St) : Nat → St → Int32 → Int32 → Int32 → Int32 → Int32 → Int32 → Int32 → Option St
  | 0, _, _, _, _, _, _, _, _ => none
  | n + 1, σ, x1, x2, x3, x4, x5, x6, x7 => BX11_findDark_35 (LX11_findDark_35 k16 n) k16 σ x1 x2 x3 x4 x5 x6 x7
theorem okLX11_findDark_35 {E : ET} {X : XT} {z : St} (O : Ok (YM E) X cX11_findDark 9 RX11 none rmX11_findDark none z) (k16 : St → Int32 → Int32 → Int32 → Option St) (hk16 : ∀ (σ : St) (x1 : Int32) (x2 : Int32) (x3 : Int32), k16 σ x1 x2 x3 = some z → At (YM E) X 9 16 [(0, .ref (E.2.2.2.2 0)), (1, .int x1), (2, .int x2), (3, .int x3)] [] σ) : ∀ (n : Nat) (σ : St) (x1 : Int32) (x2 : Int32) (x3 : Int32) (x4 : Int32) (x5 : Int32) (x6 : Int32) (x7 : Int32), LX11_findDark_35 k16 n σ x1 x2 x3 x4 x5 x6 x7 = some z → At (YM E) X 9 35 [(0, .ref (E.2.2.2.2 0)), (1, .int x1), (2, .int x2), (3, .int x3), (4, .int x4), (5, .int x5), (6, .int x6), (7, .int x7)] [] σ := by
  intro n
  induction n with
  | zero =>
    intro σ x1 x2 x3 x4 x5 x6 x7 hf
    rw [LX11_findDark_35] at hf
    cases hf
  | succ n ih =>
    intro σ x1 x2 x3 x4 x5 x6 x7 hf
    rw [LX11_findDark_35] at hf
    exact okBX11_findDark_35 O (LX11_findDark_35 k16 n) ih k16 hk16 σ x1 x2 x3 x4 x5 x6 x7 hf
def BX11_findDark_16 (k16 : St → Int32 → Int32 → Int32 → Option St) (σ : St) (x1 : Int32) (x2 : Int32) (x3 : Int32) : Option St :=
  if (1 <<< (x1 &&& 31)) ≤ x3 then some σ else (LX11_findDark_35 k16 fu σ x1 x2 x3 0 0 1 0)
set_option maxRecDepth 100000 in
theorem okBX11_findDark_16 {E : ET} {X : XT} {z : St} (O : Ok (YM E) X cX11_findDark 9 RX11 none rmX11_findDark none z) (k16 : St → Int32 → Int32 → Int32 → Option St) (hk16 : ∀ (σ : St) (x1 : Int32) (x2 : Int32) (x3 : Int32), k16 σ x1 x2 x3 = some z → At (YM E) X 9 16 [(0, .ref (E.2.2.2.2 0)), (1, .int x1), (2, .int x2), (3, .int x3)] [] σ) (σ : St) (x1 : Int32) (x2 : Int32) (x3 : Int32) (hf : BX11_findDark_16 k16 σ x1 x2 x3 = some z) : At (YM E) X 9 16 [(0, .ref (E.2.2.2.2 0)), (1, .int x1), (2, .int x2), (3, .int x3)] [] σ := by
  have hE := O.2.2.2.2.2.2.2.2.2.1
  unfold BX11_findDark_16 at hf
  refine a_iload_n (pc' := 17) O dX11_findDark_16 rfl 3 rfl rfl ?_
  refine a_iconst (pc' := 18) (v := 1) O dX11_findDark_17 (by decide) rfl ?_
  refine a_iload_n (pc' := 19) O dX11_findDark_18 rfl 1 rfl rfl ?_
  refine a_ishl (pc' := 20) O dX11_findDark_19 rfl ?_
  refine a_icmp_ge (pc' := 23) (tgt := 202) O dX11_findDark_20 (by decide) rfl hf (fun hf => ?_) (fun hf => ?_)
  · exact a_vret O hf dX11_findDark_202
  · refine a_iconst (pc' := 24) (v := 0) O dX11_findDark_23 (by decide) rfl ?_
    refine a_istore (pc' := 26) (lv' := [(4, .int 0), (0, .ref (E.2.2.2.2 0)), (1, .int x1), (2, .int x2), (3, .int x3)]) O dX11_findDark_24 (by decide) rfl rfl ?_
    refine a_iconst (pc' := 27) (v := 0) O dX11_findDark_26 (by decide) rfl ?_
    refine a_istore (pc' := 29) (lv' := [(5, .int 0), (4, .int 0), (0, .ref (E.2.2.2.2 0)), (1, .int x1), (2, .int x2), (3, .int x3)]) O dX11_findDark_27 (by decide) rfl rfl ?_
    refine a_iconst (pc' := 30) (v := 1) O dX11_findDark_29 (by decide) rfl ?_
    refine a_istore (pc' := 32) (lv' := [(6, .int 1), (5, .int 0), (4, .int 0), (0, .ref (E.2.2.2.2 0)), (1, .int x1), (2, .int x2), (3, .int x3)]) O dX11_findDark_30 (by decide) rfl rfl ?_
    refine a_iconst (pc' := 33) (v := 0) O dX11_findDark_32 (by decide) rfl ?_
    refine a_istore (pc' := 35) (lv' := [(7, .int 0), (6, .int 1), (5, .int 0), (4, .int 0), (0, .ref (E.2.2.2.2 0)), (1, .int x1), (2, .int x2), (3, .int x3)]) O dX11_findDark_33 (by decide) rfl rfl ?_
    exact a_sub [4, 5, 6, 7, 3, 2, 1, 0] rfl (okLX11_findDark_35 O k16 hk16 fu σ x1 x2 x3 0 0 1 0 hf)
def LX11_findDark_16 : Nat → St → Int32 → Int32 → Int32 → Option St
  | 0, _, _, _, _ => none
  | n + 1, σ, x1, x2, x3 => BX11_findDark_16 (LX11_findDark_16 n) σ x1 x2 x3
theorem okLX11_findDark_16 {E : ET} {X : XT} {z : St} (O : Ok (YM E) X cX11_findDark 9 RX11 none rmX11_findDark none z) : ∀ (n : Nat) (σ : St) (x1 : Int32) (x2 : Int32) (x3 : Int32), LX11_findDark_16 n σ x1 x2 x3 = some z → At (YM E) X 9 16 [(0, .ref (E.2.2.2.2 0)), (1, .int x1), (2, .int x2), (3, .int x3)] [] σ := by
  intro n
  induction n with
  | zero =>
    intro σ x1 x2 x3 hf
    rw [LX11_findDark_16] at hf
    cases hf
  | succ n ih =>
    intro σ x1 x2 x3 hf
    rw [LX11_findDark_16] at hf
    exact okBX11_findDark_16 O (LX11_findDark_16 n) ih σ x1 x2 x3 hf
def fX11_findDark (a0 : Int32) (a1 : Int32) (σ : St) : Option St :=
  gIn 0 2 (bS (sA σ 12 (0 : Int32).toNatClampNeg (-1)) (fun σ1 => gIn 1 2 (bS (sA σ1 12 (1 : Int32).toNatClampNeg (-1)) (fun σ2 => LX11_findDark_16 fu σ2 a0 a1 0))))
set_option maxRecDepth 100000 in
theorem ctX11_findDark {E : ET} (hE : Dj (YM E)) (a0 : Int32) (a1 : Int32) (σ : St) (z : St) (hf : fX11_findDark a0 a1 σ = some z) : Ct (YM E) yX11_findDark cX11_findDark 9 none rmX11_findDark [.ref (E.2.2.2.2 0), .int a0, .int a1] σ none z := by
  refine Ct.of hE (by decide) (Nat.le_of_ble_eq_true rfl) (fun X O => ?_)
  have O : Ok (YM E) X cX11_findDark 9 RX11 none rmX11_findDark none z := O
  show At (YM E) X 9 0 [(0, .ref (E.2.2.2.2 0)), (1, .int a0), (2, .int a1)] [] σ
  unfold fX11_findDark at hf
  refine a_aload_n (pc' := 1) O dX11_findDark_0 rfl 0 rfl rfl ?_
  refine gfM_0_19 (pc' := 4) O dX11_findDark_1 rfl ?_
  refine a_iconst (pc' := 5) (v := 0) O dX11_findDark_4 (by decide) rfl ?_
  refine a_iconst (pc' := 6) (v := (-1)) O dX11_findDark_5 (by decide) rfl ?_
  refine saM_12 (pc' := 7) O hf dX11_findDark_6 rfl (fun σ1 hf => ?_)
  refine a_aload_n (pc' := 8) O dX11_findDark_7 rfl 0 rfl rfl ?_
  refine gfM_0_19 (pc' := 11) O dX11_findDark_8 rfl ?_
  refine a_iconst (pc' := 12) (v := 1) O dX11_findDark_11 (by decide) rfl ?_
  refine a_iconst (pc' := 13) (v := (-1)) O dX11_findDark_12 (by decide) rfl ?_
  refine saM_12 (pc' := 14) O hf dX11_findDark_13 rfl (fun σ2 hf => ?_)
  refine a_iconst (pc' := 15) (v := 0) O dX11_findDark_14 (by decide) rfl ?_
  refine a_istore_n (pc' := 16) (lv' := [(3, .int 0), (0, .ref (E.2.2.2.2 0)), (1, .int a0), (2, .int a1)]) O dX11_findDark_15 rfl (by decide) rfl rfl ?_
  exact a_sub [1, 2, 3, 0] rfl (okLX11_findDark_16 O fu σ2 a0 a1 0 hf)
def rmX11_unlit : Room := { frames := 4, cells := 0, slots := 0, locals := 89 }
def fX11_unlit (a0 : Int32) (a1 : Int32) (a2 : Int32) (σ : St) : Option (Int32 × St) :=
  (fX11_reads σ).bind (fun z1 => (fX11_lesser (z1.1 8) 10).bind (fun z3 => (fX11_in (a0.toInt64) 0 (z3.toInt64)).bind (fun z5 => if z5 = 0 then some ((-2), z1) else ((fX11_isGoer a1 z1).bind (fun z7 => if z7 = 0 then some ((-2), z1) else ((fX11_isTwo a2).bind (fun z9 => if z9 = 0 then some ((-2), z1) else ((fX11_findDark a0 a1 z1).bind (fun z11 => gIn a2 2 (some ((z11.2.2 12 a2.toNatClampNeg), z11)))))))))))
set_option maxRecDepth 100000 in
theorem ctX11_unlit {E : ET} (hE : Dj (YM E)) (a0 : Int32) (a1 : Int32) (a2 : Int32) (σ : St) (z : Int32 × St) (hf : fX11_unlit a0 a1 a2 σ = some z) : Ct (YM E) yX11_unlit cX11_unlit 4 (some .int) rmX11_unlit [.ref (E.2.2.2.2 0), .int a0, .int a1, .int a2] σ (some (.int z.1)) z.2 := by
  refine Ct.of hE (by decide) (Nat.le_of_ble_eq_true rfl) (fun X O => ?_)
  have O : Ok (YM E) X cX11_unlit 4 RX11 (some .int) rmX11_unlit (some (.int z.1)) z.2 := O
  show At (YM E) X 4 0 [(0, .ref (E.2.2.2.2 0)), (1, .int a0), (2, .int a1), (3, .int a2)] [] σ
  unfold fX11_unlit at hf
  refine a_aload_n (pc' := 1) O dX11_unlit_0 rfl 0 rfl rfl ?_
  obtain ⟨z1, h2, hf⟩ := bd_some hf
  refine a_callVN (pc' := 4) (n := 0) (As := []) (st := []) (q0 := 0) O (ctX11_reads hE σ z1 h2) wm_286 wm_287 wm_288 wm_5 wm_289 (by decide +kernel) (by decide) (gM_0 E _) hc_11 rfl rfl rfl (Nat.le_of_ble_eq_true rfl) dX11_unlit_1 rfl ?_
  refine a_iload_n (pc' := 5) O dX11_unlit_4 rfl 1 rfl rfl ?_
  refine a_i2l (pc' := 6) O dX11_unlit_5 rfl rfl ?_
  refine a_lconst (pc' := 7) (v := 0) O dX11_unlit_6 (by decide) rfl ?_
  refine a_aload_n (pc' := 8) O dX11_unlit_7 rfl 0 rfl rfl ?_
  refine gfM_0_8 (pc' := 11) O dX11_unlit_8 rfl ?_
  refine a_bipush (pc' := 13) (v := 10) O dX11_unlit_11 (by decide) rfl ?_
  obtain ⟨z3, h4, hf⟩ := bd_some hf
  refine a_callSI (pc' := 16) (n := 2) (As := [.int (z1.1 8), .int 10]) (st := [.long 0, .long (a0.toInt64)]) O (ctX11_lesser hE (z1.1 8) 10 z1 z3 h4) wm_467 wm_468 wm_5 wm_469 (by decide +kernel) (by decide) rfl rfl (Nat.le_of_ble_eq_true rfl) dX11_unlit_13 rfl ?_
  refine a_i2l (pc' := 17) O dX11_unlit_16 rfl rfl ?_
  obtain ⟨z5, h6, hf⟩ := bd_some hf
  refine a_callSI (pc' := 20) (n := 3) (As := [.long (a0.toInt64), .long 0, .long (z3.toInt64)]) (st := []) O (ctX11_in hE (a0.toInt64) 0 (z3.toInt64) z1 z5 h6) wm_201 wm_202 wm_5 wm_203 (by decide +kernel) (by decide) rfl rfl (Nat.le_of_ble_eq_true rfl) dX11_unlit_17 rfl ?_
  refine a_if_eq (pc' := 23) (tgt := 38) O dX11_unlit_20 (by decide) rfl hf (fun hf => ?_) (fun hf => ?_)
  · refine a_bipush (pc' := 40) (v := (-2)) O dX11_unlit_38 (by decide) rfl ?_
    exact a_iret O hf dX11_unlit_40
  · refine a_aload_n (pc' := 24) O dX11_unlit_23 rfl 0 rfl rfl ?_
    refine a_iload_n (pc' := 25) O dX11_unlit_24 rfl 2 rfl rfl ?_
    obtain ⟨z7, h8, hf⟩ := bd_some hf
    refine a_callVI (pc' := 28) (n := 1) (As := [.int a1]) (st := []) (q0 := 0) O (ctX11_isGoer hE a1 z1 z7 h8) wm_418 wm_419 wm_420 wm_5 wm_421 (by decide +kernel) (by decide) (gM_0 E _) hc_11 rfl rfl rfl (Nat.le_of_ble_eq_true rfl) dX11_unlit_25 rfl ?_
    refine a_if_eq (pc' := 31) (tgt := 38) O dX11_unlit_28 (by decide) rfl hf (fun hf => ?_) (fun hf => ?_)
    · refine a_bipush (pc' := 40) (v := (-2)) O dX11_unlit_38 (by decide) rfl ?_
      exact a_iret O hf dX11_unlit_40
    · refine a_iload_n (pc' := 32) O dX11_unlit_31 rfl 3 rfl rfl ?_
      obtain ⟨z9, h10, hf⟩ := bd_some hf
      refine a_callSI (pc' := 35) (n := 1) (As := [.int a2]) (st := []) O (ctX11_isTwo hE a2 z1 z9 h10) wm_198 wm_199 wm_5 wm_200 (by decide +kernel) (by decide) rfl rfl (Nat.le_of_ble_eq_true rfl) dX11_unlit_32 rfl ?_
      refine a_if_ne (pc' := 38) (tgt := 41) O dX11_unlit_35 (by decide) rfl hf (fun hf => ?_) (fun hf => ?_)
      · refine a_aload_n (pc' := 42) O dX11_unlit_41 rfl 0 rfl rfl ?_
        refine a_iload_n (pc' := 43) O dX11_unlit_42 rfl 1 rfl rfl ?_
        refine a_iload_n (pc' := 44) O dX11_unlit_43 rfl 2 rfl rfl ?_
        obtain ⟨z11, h12, hf⟩ := bd_some hf
        refine a_callVN (pc' := 47) (n := 2) (As := [.int a0, .int a1]) (st := []) (q0 := 0) O (ctX11_findDark hE a0 a1 z1 z11 h12) wm_678 wm_679 wm_680 wm_5 wm_681 (by decide +kernel) (by decide) (gM_0 E _) hc_11 rfl rfl rfl (Nat.le_of_ble_eq_true rfl) dX11_unlit_44 rfl ?_
        refine a_aload_n (pc' := 48) O dX11_unlit_47 rfl 0 rfl rfl ?_
        refine gfM_0_19 (pc' := 51) O dX11_unlit_48 rfl ?_
        refine a_iload_n (pc' := 52) O dX11_unlit_51 rfl 3 rfl rfl ?_
        refine laM_12 (pc' := 53) O hf dX11_unlit_52 rfl (fun hf => ?_)
        exact a_iret O hf dX11_unlit_53
      · refine a_bipush (pc' := 40) (v := (-2)) O dX11_unlit_38 (by decide) rfl ?_
        exact a_iret O hf dX11_unlit_40
def rmX11_help : Room := { frames := 2, cells := 0, slots := 0, locals := 45 }
def fX11_help (a0 : Int32) (a1 : Int32) (a2 : Int32) : Option Int64 :=
  (fX11_in (a0.toInt64) 1 6).bind (fun z1 => if z1 = 0 then (fX11_no (-2)).bind (fun z3 => some z3) else ((fX11_in (a1.toInt64) 1 999).bind (fun z5 => if z5 = 0 then (fX11_no (-2)).bind (fun z7 => some z7) else ((fX11_isTwo a2).bind (fun z9 => if z9 = 0 then (fX11_no (-2)).bind (fun z11 => some z11) else ((fX11_part ((a1.toInt64) * (a0.toInt64)) ((a0 + 1).toInt64) a2).bind (fun z13 => some z13)))))))
set_option maxRecDepth 100000 in
theorem ctX11_help {E : ET} (hE : Dj (YM E)) (a0 : Int32) (a1 : Int32) (a2 : Int32) (σ : St) (z : Int64) (hf : fX11_help a0 a1 a2 = some z) : Ct (YM E) yX11_help cX11_help 4 (some .long) rmX11_help [.ref (E.2.2.2.2 0), .int a0, .int a1, .int a2] σ (some (.long z)) σ := by
  refine Ct.of hE (by decide) (Nat.le_of_ble_eq_true rfl) (fun X O => ?_)
  have O : Ok (YM E) X cX11_help 4 RX11 (some .long) rmX11_help (some (.long z)) σ := O
  show At (YM E) X 4 0 [(0, .ref (E.2.2.2.2 0)), (1, .int a0), (2, .int a1), (3, .int a2)] [] σ
  unfold fX11_help at hf
  refine a_iload_n (pc' := 1) O dX11_help_0 rfl 1 rfl rfl ?_
  refine a_i2l (pc' := 2) O dX11_help_1 rfl rfl ?_
  refine a_lconst (pc' := 3) (v := 1) O dX11_help_2 (by decide) rfl ?_
  refine a_ldc2 (pc' := 6) (v := 6) O wm_698 dX11_help_3 rfl ?_
  obtain ⟨z1, h2, hf⟩ := bd_some hf
  refine a_callSI (pc' := 9) (n := 3) (As := [.long (a0.toInt64), .long 1, .long 6]) (st := []) O (ctX11_in hE (a0.toInt64) 1 6 σ z1 h2) wm_201 wm_202 wm_5 wm_203 (by decide +kernel) (by decide) rfl rfl (Nat.le_of_ble_eq_true rfl) dX11_help_6 rfl ?_
  refine a_if_eq (pc' := 12) (tgt := 47) O dX11_help_9 (by decide) rfl hf (fun hf => ?_) (fun hf => ?_)
  · refine a_bipush (pc' := 49) (v := (-2)) O dX11_help_47 (by decide) rfl ?_
    obtain ⟨z3, h4, hf⟩ := bd_some hf
    refine a_callSL (pc' := 52) (n := 1) (As := [.int (-2)]) (st := []) O (ctX11_no hE (-2) σ z3 h4) wm_433 wm_434 wm_5 wm_435 (by decide +kernel) (by decide) rfl rfl (Nat.le_of_ble_eq_true rfl) dX11_help_49 rfl ?_
    exact a_lretP O hf dX11_help_52
  · refine a_iload_n (pc' := 13) O dX11_help_12 rfl 2 rfl rfl ?_
    refine a_i2l (pc' := 14) O dX11_help_13 rfl rfl ?_
    refine a_lconst (pc' := 15) (v := 1) O dX11_help_14 (by decide) rfl ?_
    refine a_ldc2 (pc' := 18) (v := 999) O wm_327 dX11_help_15 rfl ?_
    obtain ⟨z5, h6, hf⟩ := bd_some hf
    refine a_callSI (pc' := 21) (n := 3) (As := [.long (a1.toInt64), .long 1, .long 999]) (st := []) O (ctX11_in hE (a1.toInt64) 1 999 σ z5 h6) wm_201 wm_202 wm_5 wm_203 (by decide +kernel) (by decide) rfl rfl (Nat.le_of_ble_eq_true rfl) dX11_help_18 rfl ?_
    refine a_if_eq (pc' := 24) (tgt := 47) O dX11_help_21 (by decide) rfl hf (fun hf => ?_) (fun hf => ?_)
    · refine a_bipush (pc' := 49) (v := (-2)) O dX11_help_47 (by decide) rfl ?_
      obtain ⟨z7, h8, hf⟩ := bd_some hf
      refine a_callSL (pc' := 52) (n := 1) (As := [.int (-2)]) (st := []) O (ctX11_no hE (-2) σ z7 h8) wm_433 wm_434 wm_5 wm_435 (by decide +kernel) (by decide) rfl rfl (Nat.le_of_ble_eq_true rfl) dX11_help_49 rfl ?_
      exact a_lretP O hf dX11_help_52
    · refine a_iload_n (pc' := 25) O dX11_help_24 rfl 3 rfl rfl ?_
      obtain ⟨z9, h10, hf⟩ := bd_some hf
      refine a_callSI (pc' := 28) (n := 1) (As := [.int a2]) (st := []) O (ctX11_isTwo hE a2 σ z9 h10) wm_198 wm_199 wm_5 wm_200 (by decide +kernel) (by decide) rfl rfl (Nat.le_of_ble_eq_true rfl) dX11_help_25 rfl ?_
      refine a_if_eq (pc' := 31) (tgt := 47) O dX11_help_28 (by decide) rfl hf (fun hf => ?_) (fun hf => ?_)
      · refine a_bipush (pc' := 49) (v := (-2)) O dX11_help_47 (by decide) rfl ?_
        obtain ⟨z11, h12, hf⟩ := bd_some hf
        refine a_callSL (pc' := 52) (n := 1) (As := [.int (-2)]) (st := []) O (ctX11_no hE (-2) σ z11 h12) wm_433 wm_434 wm_5 wm_435 (by decide +kernel) (by decide) rfl rfl (Nat.le_of_ble_eq_true rfl) dX11_help_49 rfl ?_
        exact a_lretP O hf dX11_help_52
      · refine a_iload_n (pc' := 32) O dX11_help_31 rfl 2 rfl rfl ?_
        refine a_i2l (pc' := 33) O dX11_help_32 rfl rfl ?_
        refine a_iload_n (pc' := 34) O dX11_help_33 rfl 1 rfl rfl ?_
        refine a_i2l (pc' := 35) O dX11_help_34 rfl rfl ?_
        refine a_lmul (pc' := 36) O dX11_help_35 rfl ?_
        refine a_iload_n (pc' := 37) O dX11_help_36 rfl 1 rfl rfl ?_
        refine a_iconst (pc' := 38) (v := 1) O dX11_help_37 (by decide) rfl ?_
        refine a_iadd (pc' := 39) O dX11_help_38 rfl ?_
        refine a_i2l (pc' := 40) O dX11_help_39 rfl rfl ?_
        refine a_iload_n (pc' := 41) O dX11_help_40 rfl 3 rfl rfl ?_
        obtain ⟨z13, h14, hf⟩ := bd_some hf
        refine a_callSL (pc' := 44) (n := 3) (As := [.long ((a1.toInt64) * (a0.toInt64)), .long ((a0 + 1).toInt64), .int a2]) (st := []) O (ctX11_part hE ((a1.toInt64) * (a0.toInt64)) ((a0 + 1).toInt64) a2 σ z13 h14) wm_430 wm_431 wm_5 wm_432 (by decide +kernel) (by decide) rfl rfl (Nat.le_of_ble_eq_true rfl) dX11_help_41 rfl ?_
        refine a_goto (tgt := 52) O dX11_help_44 (by decide) ?_
        exact a_lretP O hf dX11_help_52
