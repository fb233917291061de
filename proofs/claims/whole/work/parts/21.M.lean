def rmX11_isStep : Room := { frames := 0, cells := 0, slots := 0, locals := 0 }
def fX11_isStep (a0 : Int32) : Option Int32 :=
  if a0 = 43 then some 1 else (if a0 = 45 then some 1 else (if a0 = 117 then some 1 else (if a0 = 120 then some 1 else (some 0))))
set_option maxRecDepth 100000 in
theorem ctX11_isStep {E : ET} (hE : Dj (YM E)) (a0 : Int32) (σ : St) (z : Int32) (hf : fX11_isStep a0 = some z) : Ct (YM E) yX11_isStep cX11_isStep 1 (some .boolean) rmX11_isStep [.int a0] σ (some (.int z)) σ := by
  refine Ct.of hE (by decide) (Nat.le_of_ble_eq_true rfl) (fun X O => ?_)
  have O : Ok (YM E) X cX11_isStep 1 RX11 (some .boolean) rmX11_isStep (some (.int z)) σ := O
  show At (YM E) X 1 0 [(0, .int a0)] [] σ
  unfold fX11_isStep at hf
  refine a_iload_n (pc' := 1) O dX11_isStep_0 rfl 0 rfl rfl ?_
  refine a_bipush (pc' := 3) (v := 43) O dX11_isStep_1 (by decide) rfl ?_
  refine a_icmp_eq (pc' := 6) (tgt := 24) O dX11_isStep_3 (by decide) rfl hf (fun hf => ?_) (fun hf => ?_)
  · refine a_iconst (pc' := 25) (v := 1) O dX11_isStep_24 (by decide) rfl ?_
    refine a_goto (tgt := 29) O dX11_isStep_25 (by decide) ?_
    exact a_zretP (Or.inr rfl) O hf dX11_isStep_29
  · refine a_iload_n (pc' := 7) O dX11_isStep_6 rfl 0 rfl rfl ?_
    refine a_bipush (pc' := 9) (v := 45) O dX11_isStep_7 (by decide) rfl ?_
    refine a_icmp_eq (pc' := 12) (tgt := 24) O dX11_isStep_9 (by decide) rfl hf (fun hf => ?_) (fun hf => ?_)
    · refine a_iconst (pc' := 25) (v := 1) O dX11_isStep_24 (by decide) rfl ?_
      refine a_goto (tgt := 29) O dX11_isStep_25 (by decide) ?_
      exact a_zretP (Or.inr rfl) O hf dX11_isStep_29
    · refine a_iload_n (pc' := 13) O dX11_isStep_12 rfl 0 rfl rfl ?_
      refine a_bipush (pc' := 15) (v := 117) O dX11_isStep_13 (by decide) rfl ?_
      refine a_icmp_eq (pc' := 18) (tgt := 24) O dX11_isStep_15 (by decide) rfl hf (fun hf => ?_) (fun hf => ?_)
      · refine a_iconst (pc' := 25) (v := 1) O dX11_isStep_24 (by decide) rfl ?_
        refine a_goto (tgt := 29) O dX11_isStep_25 (by decide) ?_
        exact a_zretP (Or.inr rfl) O hf dX11_isStep_29
      · refine a_iload_n (pc' := 19) O dX11_isStep_18 rfl 0 rfl rfl ?_
        refine a_bipush (pc' := 21) (v := 120) O dX11_isStep_19 (by decide) rfl ?_
        refine a_icmp_ne (pc' := 24) (tgt := 28) O dX11_isStep_21 (by decide) rfl hf (fun hf => ?_) (fun hf => ?_)
        · refine a_iconst (pc' := 29) (v := 0) O dX11_isStep_28 (by decide) rfl ?_
          exact a_zretP (Or.inl rfl) O hf dX11_isStep_29
        · refine a_iconst (pc' := 25) (v := 1) O dX11_isStep_24 (by decide) rfl ?_
          refine a_goto (tgt := 29) O dX11_isStep_25 (by decide) ?_
          exact a_zretP (Or.inr rfl) O hf dX11_isStep_29
def rmX11_readsPlan : Room := { frames := 1, cells := 0, slots := 0, locals := 25 }
def BX11_readsPlan_95 (σ : St) : Option (Int32 × St) :=
  gIn 1 2 (bS (sI σ 11 (σ.2.2 6 (1 : Int32).toNatClampNeg)) (fun σ3 => some ((-1), σ3)))
set_option maxRecDepth 100000 in
theorem okBX11_readsPlan_95 {E : ET} {X : XT} {z : Int32 × St} (O : Ok (YM E) X cX11_readsPlan 1 RX11 (some .int) rmX11_readsPlan (some (.int z.1)) z.2) (σ : St) (hf : BX11_readsPlan_95 σ = some z) : At (YM E) X 1 95 [(0, .ref (E.2.2.2.2 0))] [] σ := by
  have hE := O.2.2.2.2.2.2.2.2.2.1
  unfold BX11_readsPlan_95 at hf
  refine a_aload_n (pc' := 96) O dX11_readsPlan_95 rfl 0 rfl rfl ?_
  refine a_aload_n (pc' := 97) O dX11_readsPlan_96 rfl 0 rfl rfl ?_
  refine gfM_0_6 (pc' := 100) O dX11_readsPlan_97 rfl ?_
  refine a_iconst (pc' := 101) (v := 1) O dX11_readsPlan_100 (by decide) rfl ?_
  refine laM_6 (pc' := 102) O hf dX11_readsPlan_101 rfl (fun hf => ?_)
  refine pfM_0_11 (pc' := 105) O hf dX11_readsPlan_102 rfl (fun σ3 hf => ?_)
  refine a_iconst (pc' := 106) (v := (-1)) O dX11_readsPlan_105 (by decide) rfl ?_
  exact a_iret O hf dX11_readsPlan_106
def BX11_readsPlan_10 (k10 : St → Option (Int32 × St)) (σ : St) : Option (Int32 × St) :=
  gIn 1 2 (if (σ.2.2 6 (1 : Int32).toNatClampNeg) ≤ (σ.1 7) then BX11_readsPlan_95 σ else ((fX11_here 1 σ).bind (fun z4 => (fX11_isStep z4).bind (fun z6 => if z6 = 0 then some ((σ.1 7), σ) else ((fX11_here 1 σ).bind (fun z8 => if z8 = 120 then bS (sI σ 7 ((σ.1 7) + 1)) (fun σ11 => (fX11_here 1 σ11).bind (fun z12 => (fX11_in (z12.toInt64) 48 51).bind (fun z14 => if z14 = 0 then some ((σ11.1 7), σ11) else (bS (sI σ11 7 ((σ11.1 7) + 1)) (fun σ16 => k10 σ16))))) else (bS (sI σ 7 ((σ.1 7) + 1)) (fun σ10 => k10 σ10))))))))
set_option maxRecDepth 100000 in
theorem okBX11_readsPlan_10 {E : ET} {X : XT} {z : Int32 × St} (O : Ok (YM E) X cX11_readsPlan 1 RX11 (some .int) rmX11_readsPlan (some (.int z.1)) z.2) (k10 : St → Option (Int32 × St)) (hk10 : ∀ (σ : St), k10 σ = some z → At (YM E) X 1 10 [(0, .ref (E.2.2.2.2 0))] [] σ) (σ : St) (hf : BX11_readsPlan_10 k10 σ = some z) : At (YM E) X 1 10 [(0, .ref (E.2.2.2.2 0))] [] σ := by
  have hE := O.2.2.2.2.2.2.2.2.2.1
  unfold BX11_readsPlan_10 at hf
  refine a_aload_n (pc' := 11) O dX11_readsPlan_10 rfl 0 rfl rfl ?_
  refine gfM_0_7 (pc' := 14) O dX11_readsPlan_11 rfl ?_
  refine a_aload_n (pc' := 15) O dX11_readsPlan_14 rfl 0 rfl rfl ?_
  refine gfM_0_6 (pc' := 18) O dX11_readsPlan_15 rfl ?_
  refine a_iconst (pc' := 19) (v := 1) O dX11_readsPlan_18 (by decide) rfl ?_
  refine laM_6 (pc' := 20) O hf dX11_readsPlan_19 rfl (fun hf => ?_)
  refine a_icmp_ge (pc' := 23) (tgt := 95) O dX11_readsPlan_20 (by decide) rfl hf (fun hf => ?_) (fun hf => ?_)
  · exact a_sub [0] rfl (okBX11_readsPlan_95 O σ hf)
  · refine a_aload_n (pc' := 24) O dX11_readsPlan_23 rfl 0 rfl rfl ?_
    refine a_iconst (pc' := 25) (v := 1) O dX11_readsPlan_24 (by decide) rfl ?_
    obtain ⟨z4, h5, hf⟩ := bd_some hf
    refine a_callVI (pc' := 28) (n := 1) (As := [.int 1]) (st := []) (q0 := 0) O (ctX11_here hE 1 σ z4 h5) wm_255 wm_256 wm_257 wm_5 wm_258 (by decide +kernel) (by decide) (gM_0 E _) hc_11 rfl rfl rfl (Nat.le_of_ble_eq_true rfl) dX11_readsPlan_25 rfl ?_
    obtain ⟨z6, h7, hf⟩ := bd_some hf
    refine a_callSI (pc' := 31) (n := 1) (As := [.int z4]) (st := []) O (ctX11_isStep hE z4 σ z6 h7) wm_266 wm_267 wm_5 wm_268 (by decide +kernel) (by decide) rfl rfl (Nat.le_of_ble_eq_true rfl) dX11_readsPlan_28 rfl ?_
    refine a_if_ne (pc' := 34) (tgt := 39) O dX11_readsPlan_31 (by decide) rfl hf (fun hf => ?_) (fun hf => ?_)
    · refine a_aload_n (pc' := 40) O dX11_readsPlan_39 rfl 0 rfl rfl ?_
      refine a_iconst (pc' := 41) (v := 1) O dX11_readsPlan_40 (by decide) rfl ?_
      obtain ⟨z8, h9, hf⟩ := bd_some hf
      refine a_callVI (pc' := 44) (n := 1) (As := [.int 1]) (st := []) (q0 := 0) O (ctX11_here hE 1 σ z8 h9) wm_255 wm_256 wm_257 wm_5 wm_258 (by decide +kernel) (by decide) (gM_0 E _) hc_11 rfl rfl rfl (Nat.le_of_ble_eq_true rfl) dX11_readsPlan_41 rfl ?_
      refine a_bipush (pc' := 46) (v := 120) O dX11_readsPlan_44 (by decide) rfl ?_
      refine a_icmp_ne (pc' := 49) (tgt := 82) O dX11_readsPlan_46 (by decide) rfl hf (fun hf => ?_) (fun hf => ?_)
      · refine a_aload_n (pc' := 83) O dX11_readsPlan_82 rfl 0 rfl rfl ?_
        refine a_dup (pc' := 84) O dX11_readsPlan_83 rfl rfl ?_
        refine gfM_0_7 (pc' := 87) O dX11_readsPlan_84 rfl ?_
        refine a_iconst (pc' := 88) (v := 1) O dX11_readsPlan_87 (by decide) rfl ?_
        refine a_iadd (pc' := 89) O dX11_readsPlan_88 rfl ?_
        refine pfM_0_7 (pc' := 92) O hf dX11_readsPlan_89 rfl (fun σ10 hf => ?_)
        refine a_goto (tgt := 10) O dX11_readsPlan_92 (by decide) ?_
        exact a_sub [0] rfl (hk10 σ10 hf)
      · refine a_aload_n (pc' := 50) O dX11_readsPlan_49 rfl 0 rfl rfl ?_
        refine a_dup (pc' := 51) O dX11_readsPlan_50 rfl rfl ?_
        refine gfM_0_7 (pc' := 54) O dX11_readsPlan_51 rfl ?_
        refine a_iconst (pc' := 55) (v := 1) O dX11_readsPlan_54 (by decide) rfl ?_
        refine a_iadd (pc' := 56) O dX11_readsPlan_55 rfl ?_
        refine pfM_0_7 (pc' := 59) O hf dX11_readsPlan_56 rfl (fun σ11 hf => ?_)
        refine a_aload_n (pc' := 60) O dX11_readsPlan_59 rfl 0 rfl rfl ?_
        refine a_iconst (pc' := 61) (v := 1) O dX11_readsPlan_60 (by decide) rfl ?_
        obtain ⟨z12, h13, hf⟩ := bd_some hf
        refine a_callVI (pc' := 64) (n := 1) (As := [.int 1]) (st := []) (q0 := 0) O (ctX11_here hE 1 σ11 z12 h13) wm_255 wm_256 wm_257 wm_5 wm_258 (by decide +kernel) (by decide) (gM_0 E _) hc_11 rfl rfl rfl (Nat.le_of_ble_eq_true rfl) dX11_readsPlan_61 rfl ?_
        refine a_i2l (pc' := 65) O dX11_readsPlan_64 rfl rfl ?_
        refine a_ldc2 (pc' := 68) (v := 48) O wm_264 dX11_readsPlan_65 rfl ?_
        refine a_ldc2 (pc' := 71) (v := 51) O wm_265 dX11_readsPlan_68 rfl ?_
        obtain ⟨z14, h15, hf⟩ := bd_some hf
        refine a_callSI (pc' := 74) (n := 3) (As := [.long (z12.toInt64), .long 48, .long 51]) (st := []) O (ctX11_in hE (z12.toInt64) 48 51 σ11 z14 h15) wm_201 wm_202 wm_5 wm_203 (by decide +kernel) (by decide) rfl rfl (Nat.le_of_ble_eq_true rfl) dX11_readsPlan_71 rfl ?_
        refine a_if_ne (pc' := 77) (tgt := 82) O dX11_readsPlan_74 (by decide) rfl hf (fun hf => ?_) (fun hf => ?_)
        · refine a_aload_n (pc' := 83) O dX11_readsPlan_82 rfl 0 rfl rfl ?_
          refine a_dup (pc' := 84) O dX11_readsPlan_83 rfl rfl ?_
          refine gfM_0_7 (pc' := 87) O dX11_readsPlan_84 rfl ?_
          refine a_iconst (pc' := 88) (v := 1) O dX11_readsPlan_87 (by decide) rfl ?_
          refine a_iadd (pc' := 89) O dX11_readsPlan_88 rfl ?_
          refine pfM_0_7 (pc' := 92) O hf dX11_readsPlan_89 rfl (fun σ16 hf => ?_)
          refine a_goto (tgt := 10) O dX11_readsPlan_92 (by decide) ?_
          exact a_sub [0] rfl (hk10 σ16 hf)
        · refine a_aload_n (pc' := 78) O dX11_readsPlan_77 rfl 0 rfl rfl ?_
          refine gfM_0_7 (pc' := 81) O dX11_readsPlan_78 rfl ?_
          exact a_iret O hf dX11_readsPlan_81
    · refine a_aload_n (pc' := 35) O dX11_readsPlan_34 rfl 0 rfl rfl ?_
      refine gfM_0_7 (pc' := 38) O dX11_readsPlan_35 rfl ?_
      exact a_iret O hf dX11_readsPlan_38
def LX11_readsPlan_10 : Nat → St → Option (Int32 × St)
  | 0, _ => none
  | n + 1, σ => BX11_readsPlan_10 (LX11_readsPlan_10 n) σ
theorem okLX11_readsPlan_10 {E : ET} {X : XT} {z : Int32 × St} (O : Ok (YM E) X cX11_readsPlan 1 RX11 (some .int) rmX11_readsPlan (some (.int z.1)) z.2) : ∀ (n : Nat) (σ : St), LX11_readsPlan_10 n σ = some z → At (YM E) X 1 10 [(0, .ref (E.2.2.2.2 0))] [] σ := by
  intro n
  induction n with
  | zero =>
    intro σ hf
    rw [LX11_readsPlan_10] at hf
    cases hf
  | succ n ih =>
    intro σ hf
    rw [LX11_readsPlan_10] at hf
    exact okBX11_readsPlan_10 O (LX11_readsPlan_10 n) ih σ hf
def fX11_readsPlan (σ : St) : Option (Int32 × St) :=
  bS (sI σ 11 0) (fun σ1 => bS (sI σ1 7 0) (fun σ2 => LX11_readsPlan_10 fu σ2))
set_option maxRecDepth 100000 in
theorem ctX11_readsPlan {E : ET} (hE : Dj (YM E)) (σ : St) (z : Int32 × St) (hf : fX11_readsPlan σ = some z) : Ct (YM E) yX11_readsPlan cX11_readsPlan 1 (some .int) rmX11_readsPlan [.ref (E.2.2.2.2 0)] σ (some (.int z.1)) z.2 := by
  refine Ct.of hE (by decide) (Nat.le_of_ble_eq_true rfl) (fun X O => ?_)
  have O : Ok (YM E) X cX11_readsPlan 1 RX11 (some .int) rmX11_readsPlan (some (.int z.1)) z.2 := O
  show At (YM E) X 1 0 [(0, .ref (E.2.2.2.2 0))] [] σ
  unfold fX11_readsPlan at hf
  refine a_aload_n (pc' := 1) O dX11_readsPlan_0 rfl 0 rfl rfl ?_
  refine a_iconst (pc' := 2) (v := 0) O dX11_readsPlan_1 (by decide) rfl ?_
  refine pfM_0_11 (pc' := 5) O hf dX11_readsPlan_2 rfl (fun σ1 hf => ?_)
  refine a_aload_n (pc' := 6) O dX11_readsPlan_5 rfl 0 rfl rfl ?_
  refine a_iconst (pc' := 7) (v := 0) O dX11_readsPlan_6 (by decide) rfl ?_
  refine pfM_0_7 (pc' := 10) O hf dX11_readsPlan_7 rfl (fun σ2 hf => ?_)
  exact a_sub [0] rfl (okLX11_readsPlan_10 O fu σ2 hf)
def rmX11_reads : Room := { frames := 3, cells := 0, slots := 0, locals := 69 }
def fX11_reads (σ : St) : Option St :=
  (fX11_readsCave σ).bind (fun z1 => (fX11_readsPlan z1.2).bind (fun z3 => some z3.2))
set_option maxRecDepth 100000 in
theorem ctX11_reads {E : ET} (hE : Dj (YM E)) (σ : St) (z : St) (hf : fX11_reads σ = some z) : Ct (YM E) yX11_reads cX11_reads 1 none rmX11_reads [.ref (E.2.2.2.2 0)] σ none z := by
  refine Ct.of hE (by decide) (Nat.le_of_ble_eq_true rfl) (fun X O => ?_)
  have O : Ok (YM E) X cX11_reads 1 RX11 none rmX11_reads none z := O
  show At (YM E) X 1 0 [(0, .ref (E.2.2.2.2 0))] [] σ
  unfold fX11_reads at hf
  refine a_aload_n (pc' := 1) O dX11_reads_0 rfl 0 rfl rfl ?_
  obtain ⟨z1, h2, hf⟩ := bd_some hf
  refine a_callVI (pc' := 4) (n := 0) (As := []) (st := []) (q0 := 0) O (ctX11_readsCave hE σ z1 h2) wm_244 wm_245 wm_246 wm_5 wm_247 (by decide +kernel) (by decide) (gM_0 E _) hc_11 rfl rfl rfl (Nat.le_of_ble_eq_true rfl) dX11_reads_1 rfl ?_
  refine a_pop (pc' := 5) O dX11_reads_4 rfl rfl ?_
  refine a_aload_n (pc' := 6) O dX11_reads_5 rfl 0 rfl rfl ?_
  obtain ⟨z3, h4, hf⟩ := bd_some hf
  refine a_callVI (pc' := 9) (n := 0) (As := []) (st := []) (q0 := 0) O (ctX11_readsPlan hE z1.2 z3 h4) wm_259 wm_260 wm_261 wm_5 wm_262 (by decide +kernel) (by decide) (gM_0 E _) hc_11 rfl rfl rfl (Nat.le_of_ble_eq_true rfl) dX11_reads_6 rfl ?_
  refine a_pop (pc' := 10) O dX11_reads_9 rfl rfl ?_
  exact a_vret O hf dX11_reads_10
def rmX11_fault : Room := { frames := 3, cells := 0, slots := 0, locals := 69 }
def fX11_fault (a0 : Int32) (σ : St) : Option (Int32 × St) :=
  (fX11_isTwo a0).bind (fun z1 => if z1 = 0 then some ((-2), σ) else (if a0 = 0 then (fX11_readsCave σ).bind (fun z5 => some (z5.1, z5.2)) else ((fX11_readsPlan σ).bind (fun z3 => some (z3.1, z3.2)))))
set_option maxRecDepth 100000 in
theorem ctX11_fault {E : ET} (hE : Dj (YM E)) (a0 : Int32) (σ : St) (z : Int32 × St) (hf : fX11_fault a0 σ = some z) : Ct (YM E) yX11_fault cX11_fault 2 (some .int) rmX11_fault [.ref (E.2.2.2.2 0), .int a0] σ (some (.int z.1)) z.2 := by
  refine Ct.of hE (by decide) (Nat.le_of_ble_eq_true rfl) (fun X O => ?_)
  have O : Ok (YM E) X cX11_fault 2 RX11 (some .int) rmX11_fault (some (.int z.1)) z.2 := O
  show At (YM E) X 2 0 [(0, .ref (E.2.2.2.2 0)), (1, .int a0)] [] σ
  unfold fX11_fault at hf
  refine a_iload_n (pc' := 1) O dX11_fault_0 rfl 1 rfl rfl ?_
  obtain ⟨z1, h2, hf⟩ := bd_some hf
  refine a_callSI (pc' := 4) (n := 1) (As := [.int a0]) (st := []) O (ctX11_isTwo hE a0 σ z1 h2) wm_198 wm_199 wm_5 wm_200 (by decide +kernel) (by decide) rfl rfl (Nat.le_of_ble_eq_true rfl) dX11_fault_1 rfl ?_
  refine a_if_ne (pc' := 7) (tgt := 12) O dX11_fault_4 (by decide) rfl hf (fun hf => ?_) (fun hf => ?_)
  · refine a_iload_n (pc' := 13) O dX11_fault_12 rfl 1 rfl rfl ?_
    refine a_if_ne (pc' := 16) (tgt := 23) O dX11_fault_13 (by decide) rfl hf (fun hf => ?_) (fun hf => ?_)
    · refine a_aload_n (pc' := 24) O dX11_fault_23 rfl 0 rfl rfl ?_
      obtain ⟨z3, h4, hf⟩ := bd_some hf
      refine a_callVI (pc' := 27) (n := 0) (As := []) (st := []) (q0 := 0) O (ctX11_readsPlan hE σ z3 h4) wm_259 wm_260 wm_261 wm_5 wm_262 (by decide +kernel) (by decide) (gM_0 E _) hc_11 rfl rfl rfl (Nat.le_of_ble_eq_true rfl) dX11_fault_24 rfl ?_
      exact a_iret O hf dX11_fault_27
    · refine a_aload_n (pc' := 17) O dX11_fault_16 rfl 0 rfl rfl ?_
      obtain ⟨z5, h6, hf⟩ := bd_some hf
      refine a_callVI (pc' := 20) (n := 0) (As := []) (st := []) (q0 := 0) O (ctX11_readsCave hE σ z5 h6) wm_244 wm_245 wm_246 wm_5 wm_247 (by decide +kernel) (by decide) (gM_0 E _) hc_11 rfl rfl rfl (Nat.le_of_ble_eq_true rfl) dX11_fault_17 rfl ?_
      refine a_goto (tgt := 27) O dX11_fault_20 (by decide) ?_
      exact a_iret O hf dX11_fault_27
  · refine a_bipush (pc' := 9) (v := (-2)) O dX11_fault_7 (by decide) rfl ?_
    refine a_goto (tgt := 27) O dX11_fault_9 (by decide) ?_
    exact a_iret O hf dX11_fault_27
def rmX11_partOf : Room := { frames := 0, cells := 0, slots := 0, locals := 0 }
def fX11_partOf (a0 : Int32) (a1 : Int32) (σ : St) : Option Int32 :=
  if a1 = 3 then gIn a0 16 (if (σ.2.2 8 a0.toNatClampNeg) = 0 then some 0 else (some 1)) else (gIn ((3 * a0) + a1) 48 (some (σ.2.2 7 ((3 * a0) + a1).toNatClampNeg)))
set_option maxRecDepth 100000 in
theorem ctX11_partOf {E : ET} (hE : Dj (YM E)) (a0 : Int32) (a1 : Int32) (σ : St) (z : Int32) (hf : fX11_partOf a0 a1 σ = some z) : Ct (YM E) yX11_partOf cX11_partOf 3 (some .int) rmX11_partOf [.ref (E.2.2.2.2 0), .int a0, .int a1] σ (some (.int z)) σ := by
  refine Ct.of hE (by decide) (Nat.le_of_ble_eq_true rfl) (fun X O => ?_)
  have O : Ok (YM E) X cX11_partOf 3 RX11 (some .int) rmX11_partOf (some (.int z)) σ := O
  show At (YM E) X 3 0 [(0, .ref (E.2.2.2.2 0)), (1, .int a0), (2, .int a1)] [] σ
  unfold fX11_partOf at hf
  refine a_iload_n (pc' := 1) O dX11_partOf_0 rfl 2 rfl rfl ?_
  refine a_iconst (pc' := 2) (v := 3) O dX11_partOf_1 (by decide) rfl ?_
  refine a_icmp_ne (pc' := 5) (tgt := 22) O dX11_partOf_2 (by decide) rfl hf (fun hf => ?_) (fun hf => ?_)
  · refine a_aload_n (pc' := 23) O dX11_partOf_22 rfl 0 rfl rfl ?_
    refine gfM_0_9 (pc' := 26) O dX11_partOf_23 rfl ?_
    refine a_iconst (pc' := 27) (v := 3) O dX11_partOf_26 (by decide) rfl ?_
    refine a_iload_n (pc' := 28) O dX11_partOf_27 rfl 1 rfl rfl ?_
    refine a_imul (pc' := 29) O dX11_partOf_28 rfl ?_
    refine a_iload_n (pc' := 30) O dX11_partOf_29 rfl 2 rfl rfl ?_
    refine a_iadd (pc' := 31) O dX11_partOf_30 rfl ?_
    refine laM_7 (pc' := 32) O hf dX11_partOf_31 rfl (fun hf => ?_)
    exact a_iretP O hf dX11_partOf_32
  · refine a_aload_n (pc' := 6) O dX11_partOf_5 rfl 0 rfl rfl ?_
    refine gfM_0_10 (pc' := 9) O dX11_partOf_6 rfl ?_
    refine a_iload_n (pc' := 10) O dX11_partOf_9 rfl 1 rfl rfl ?_
    refine laM_8 (pc' := 11) O hf dX11_partOf_10 rfl (fun hf => ?_)
    refine a_if_eq (pc' := 14) (tgt := 18) O dX11_partOf_11 (by decide) rfl hf (fun hf => ?_) (fun hf => ?_)
    · refine a_iconst (pc' := 19) (v := 0) O dX11_partOf_18 (by decide) rfl ?_
      refine a_goto (tgt := 32) O dX11_partOf_19 (by decide) ?_
      exact a_iretP O hf dX11_partOf_32
    · refine a_iconst (pc' := 15) (v := 1) O dX11_partOf_14 (by decide) rfl ?_
      refine a_goto (tgt := 32) O dX11_partOf_15 (by decide) ?_
      exact a_iretP O hf dX11_partOf_32
def rmX11_part_ : Room := { frames := 4, cells := 0, slots := 0, locals := 89 }
def fX11_part_ (a0 : Int32) (a1 : Int32) (σ : St) : Option (Int32 × St) :=
  (fX11_reads σ).bind (fun z1 => (fX11_in (a0.toInt64) 0 (((z1.1 8) - 1).toInt64)).bind (fun z3 => if z3 = 0 then some ((-2), z1) else ((fX11_in (a1.toInt64) 0 3).bind (fun z5 => if z5 = 0 then some ((-2), z1) else ((fX11_partOf a0 a1 z1).bind (fun z7 => some (z7, z1)))))))
set_option maxRecDepth 100000 in
theorem ctX11_part_ {E : ET} (hE : Dj (YM E)) (a0 : Int32) (a1 : Int32) (σ : St) (z : Int32 × St) (hf : fX11_part_ a0 a1 σ = some z) : Ct (YM E) yX11_part_ cX11_part_ 3 (some .int) rmX11_part_ [.ref (E.2.2.2.2 0), .int a0, .int a1] σ (some (.int z.1)) z.2 := by
  refine Ct.of hE (by decide) (Nat.le_of_ble_eq_true rfl) (fun X O => ?_)
  have O : Ok (YM E) X cX11_part_ 3 RX11 (some .int) rmX11_part_ (some (.int z.1)) z.2 := O
  show At (YM E) X 3 0 [(0, .ref (E.2.2.2.2 0)), (1, .int a0), (2, .int a1)] [] σ
  unfold fX11_part_ at hf
  refine a_aload_n (pc' := 1) O dX11_part__0 rfl 0 rfl rfl ?_
  obtain ⟨z1, h2, hf⟩ := bd_some hf
  refine a_callVN (pc' := 4) (n := 0) (As := []) (st := []) (q0 := 0) O (ctX11_reads hE σ z1 h2) wm_286 wm_287 wm_288 wm_5 wm_289 (by decide +kernel) (by decide) (gM_0 E _) hc_11 rfl rfl rfl (Nat.le_of_ble_eq_true rfl) dX11_part__1 rfl ?_
  refine a_iload_n (pc' := 5) O dX11_part__4 rfl 1 rfl rfl ?_
  refine a_i2l (pc' := 6) O dX11_part__5 rfl rfl ?_
  refine a_lconst (pc' := 7) (v := 0) O dX11_part__6 (by decide) rfl ?_
  refine a_aload_n (pc' := 8) O dX11_part__7 rfl 0 rfl rfl ?_
  refine gfM_0_8 (pc' := 11) O dX11_part__8 rfl ?_
  refine a_iconst (pc' := 12) (v := 1) O dX11_part__11 (by decide) rfl ?_
  refine a_isub (pc' := 13) O dX11_part__12 rfl ?_
  refine a_i2l (pc' := 14) O dX11_part__13 rfl rfl ?_
  obtain ⟨z3, h4, hf⟩ := bd_some hf
  refine a_callSI (pc' := 17) (n := 3) (As := [.long (a0.toInt64), .long 0, .long (((z1.1 8) - 1).toInt64)]) (st := []) O (ctX11_in hE (a0.toInt64) 0 (((z1.1 8) - 1).toInt64) z1 z3 h4) wm_201 wm_202 wm_5 wm_203 (by decide +kernel) (by decide) rfl rfl (Nat.le_of_ble_eq_true rfl) dX11_part__14 rfl ?_
  refine a_if_eq (pc' := 20) (tgt := 41) O dX11_part__17 (by decide) rfl hf (fun hf => ?_) (fun hf => ?_)
  · refine a_bipush (pc' := 43) (v := (-2)) O dX11_part__41 (by decide) rfl ?_
    exact a_iret O hf dX11_part__43
  · refine a_iload_n (pc' := 21) O dX11_part__20 rfl 2 rfl rfl ?_
    refine a_i2l (pc' := 22) O dX11_part__21 rfl rfl ?_
    refine a_lconst (pc' := 23) (v := 0) O dX11_part__22 (by decide) rfl ?_
    refine a_ldc2 (pc' := 26) (v := 3) O wm_285 dX11_part__23 rfl ?_
    obtain ⟨z5, h6, hf⟩ := bd_some hf
    refine a_callSI (pc' := 29) (n := 3) (As := [.long (a1.toInt64), .long 0, .long 3]) (st := []) O (ctX11_in hE (a1.toInt64) 0 3 z1 z5 h6) wm_201 wm_202 wm_5 wm_203 (by decide +kernel) (by decide) rfl rfl (Nat.le_of_ble_eq_true rfl) dX11_part__26 rfl ?_
    refine a_if_eq (pc' := 32) (tgt := 41) O dX11_part__29 (by decide) rfl hf (fun hf => ?_) (fun hf => ?_)
    · refine a_bipush (pc' := 43) (v := (-2)) O dX11_part__41 (by decide) rfl ?_
      exact a_iret O hf dX11_part__43
    · refine a_aload_n (pc' := 33) O dX11_part__32 rfl 0 rfl rfl ?_
      refine a_iload_n (pc' := 34) O dX11_part__33 rfl 1 rfl rfl ?_
      refine a_iload_n (pc' := 35) O dX11_part__34 rfl 2 rfl rfl ?_
      obtain ⟨z7, h8, hf⟩ := bd_some hf
      refine a_callVI (pc' := 38) (n := 2) (As := [.int a0, .int a1]) (st := []) (q0 := 0) O (ctX11_partOf hE a0 a1 z1 z7 h8) wm_290 wm_291 wm_292 wm_5 wm_293 (by decide +kernel) (by decide) (gM_0 E _) hc_11 rfl rfl rfl (Nat.le_of_ble_eq_true rfl) dX11_part__35 rfl ?_
      refine a_goto (tgt := 43) O dX11_part__38 (by decide) ?_
      exact a_iret O hf dX11_part__43
def rmX11_goers : Room := { frames := 1, cells := 0, slots := 0, locals := 25 }
def fX11_goers (a0 : Int32) (σ : St) : Option (Int32 × St) :=
  (fX11_in (a0.toInt64) 1 4).bind (fun z1 => if z1 = 0 then some ((-2), σ) else (bI (σ.1 12) (fun v3 => bS (sI σ 12 a0) (fun σ4 => some (v3, σ4)))))
set_option maxRecDepth 100000 in
theorem ctX11_goers {E : ET} (hE : Dj (YM E)) (a0 : Int32) (σ : St) (z : Int32 × St) (hf : fX11_goers a0 σ = some z) : Ct (YM E) yX11_goers cX11_goers 3 (some .int) rmX11_goers [.ref (E.2.2.2.2 0), .int a0] σ (some (.int z.1)) z.2 := by
  refine Ct.of hE (by decide) (Nat.le_of_ble_eq_true rfl) (fun X O => ?_)
  have O : Ok (YM E) X cX11_goers 3 RX11 (some .int) rmX11_goers (some (.int z.1)) z.2 := O
  show At (YM E) X 3 0 [(0, .ref (E.2.2.2.2 0)), (1, .int a0)] [] σ
  unfold fX11_goers at hf
  refine a_iload_n (pc' := 1) O dX11_goers_0 rfl 1 rfl rfl ?_
  refine a_i2l (pc' := 2) O dX11_goers_1 rfl rfl ?_
  refine a_lconst (pc' := 3) (v := 1) O dX11_goers_2 (by decide) rfl ?_
  refine a_ldc2 (pc' := 6) (v := 4) O wm_310 dX11_goers_3 rfl ?_
  obtain ⟨z1, h2, hf⟩ := bd_some hf
  refine a_callSI (pc' := 9) (n := 3) (As := [.long (a0.toInt64), .long 1, .long 4]) (st := []) O (ctX11_in hE (a0.toInt64) 1 4 σ z1 h2) wm_201 wm_202 wm_5 wm_203 (by decide +kernel) (by decide) rfl rfl (Nat.le_of_ble_eq_true rfl) dX11_goers_6 rfl ?_
  refine a_if_ne (pc' := 12) (tgt := 15) O dX11_goers_9 (by decide) rfl hf (fun hf => ?_) (fun hf => ?_)
  · refine a_aload_n (pc' := 16) O dX11_goers_15 rfl 0 rfl rfl ?_
    refine gfM_0_12 (pc' := 19) O dX11_goers_16 rfl ?_
    refine a_topi hf (fun v3 hf => ?_)
    refine a_istore_n (pc' := 20) (lv' := [(2, .int v3), (0, .ref (E.2.2.2.2 0)), (1, .int a0)]) O dX11_goers_19 rfl (by decide) rfl rfl ?_
    refine a_aload_n (pc' := 21) O dX11_goers_20 rfl 1 rfl rfl ?_
    refine a_iload_n (pc' := 22) O dX11_goers_21 rfl 2 rfl rfl ?_
    refine pfM_0_12 (pc' := 25) O hf dX11_goers_22 rfl (fun σ4 hf => ?_)
    refine a_iload_n (pc' := 26) O dX11_goers_25 rfl 0 rfl rfl ?_
    exact a_iret O hf dX11_goers_26
  · refine a_bipush (pc' := 14) (v := (-2)) O dX11_goers_12 (by decide) rfl ?_
    exact a_iret O hf dX11_goers_14
def rmX11_lamp : Room := { frames := 1, cells := 0, slots := 0, locals := 25 }
def fX11_lamp (a0 : Int32) (a1 : Int32) (σ : St) : Option (Int32 × St) :=
  (fX11_in (a0.toInt64) 0 3).bind (fun z1 => if z1 = 0 then some ((-2), σ) else ((fX11_in (a1.toInt64) 0 999).bind (fun z3 => if z3 = 0 then some ((-2), σ) else (gIn a0 4 (bI (σ.2.2 9 a0.toNatClampNeg) (fun v5 => gIn a0 4 (bS (sA σ 9 a0.toNatClampNeg a1) (fun σ6 => some (v5, σ6)))))))))
set_option maxRecDepth 100000 in
theorem ctX11_lamp {E : ET} (hE : Dj (YM E)) (a0 : Int32) (a1 : Int32) (σ : St) (z : Int32 × St) (hf : fX11_lamp a0 a1 σ = some z) : Ct (YM E) yX11_lamp cX11_lamp 4 (some .int) rmX11_lamp [.ref (E.2.2.2.2 0), .int a0, .int a1] σ (some (.int z.1)) z.2 := by
  refine Ct.of hE (by decide) (Nat.le_of_ble_eq_true rfl) (fun X O => ?_)
  have O : Ok (YM E) X cX11_lamp 4 RX11 (some .int) rmX11_lamp (some (.int z.1)) z.2 := O
  show At (YM E) X 4 0 [(0, .ref (E.2.2.2.2 0)), (1, .int a0), (2, .int a1)] [] σ
  unfold fX11_lamp at hf
  refine a_iload_n (pc' := 1) O dX11_lamp_0 rfl 1 rfl rfl ?_
  refine a_i2l (pc' := 2) O dX11_lamp_1 rfl rfl ?_
  refine a_lconst (pc' := 3) (v := 0) O dX11_lamp_2 (by decide) rfl ?_
  refine a_ldc2 (pc' := 6) (v := 3) O wm_285 dX11_lamp_3 rfl ?_
  obtain ⟨z1, h2, hf⟩ := bd_some hf
  refine a_callSI (pc' := 9) (n := 3) (As := [.long (a0.toInt64), .long 0, .long 3]) (st := []) O (ctX11_in hE (a0.toInt64) 0 3 σ z1 h2) wm_201 wm_202 wm_5 wm_203 (by decide +kernel) (by decide) rfl rfl (Nat.le_of_ble_eq_true rfl) dX11_lamp_6 rfl ?_
  refine a_if_eq (pc' := 12) (tgt := 24) O dX11_lamp_9 (by decide) rfl hf (fun hf => ?_) (fun hf => ?_)
  · refine a_bipush (pc' := 26) (v := (-2)) O dX11_lamp_24 (by decide) rfl ?_
    exact a_iret O hf dX11_lamp_26
  · refine a_iload_n (pc' := 13) O dX11_lamp_12 rfl 2 rfl rfl ?_
    refine a_i2l (pc' := 14) O dX11_lamp_13 rfl rfl ?_
    refine a_lconst (pc' := 15) (v := 0) O dX11_lamp_14 (by decide) rfl ?_
    refine a_ldc2 (pc' := 18) (v := 999) O wm_327 dX11_lamp_15 rfl ?_
    obtain ⟨z3, h4, hf⟩ := bd_some hf
    refine a_callSI (pc' := 21) (n := 3) (As := [.long (a1.toInt64), .long 0, .long 999]) (st := []) O (ctX11_in hE (a1.toInt64) 0 999 σ z3 h4) wm_201 wm_202 wm_5 wm_203 (by decide +kernel) (by decide) rfl rfl (Nat.le_of_ble_eq_true rfl) dX11_lamp_18 rfl ?_
    refine a_if_ne (pc' := 24) (tgt := 27) O dX11_lamp_21 (by decide) rfl hf (fun hf => ?_) (fun hf => ?_)
    · refine a_aload_n (pc' := 28) O dX11_lamp_27 rfl 0 rfl rfl ?_
      refine gfM_0_13 (pc' := 31) O dX11_lamp_28 rfl ?_
      refine a_iload_n (pc' := 32) O dX11_lamp_31 rfl 1 rfl rfl ?_
      refine laM_9 (pc' := 33) O hf dX11_lamp_32 rfl (fun hf => ?_)
      refine a_topi hf (fun v5 hf => ?_)
      refine a_istore_n (pc' := 34) (lv' := [(3, .int v5), (0, .ref (E.2.2.2.2 0)), (1, .int a0), (2, .int a1)]) O dX11_lamp_33 rfl (by decide) rfl rfl ?_
      refine a_aload_n (pc' := 35) O dX11_lamp_34 rfl 1 rfl rfl ?_
      refine gfM_0_13 (pc' := 38) O dX11_lamp_35 rfl ?_
      refine a_iload_n (pc' := 39) O dX11_lamp_38 rfl 2 rfl rfl ?_
      refine a_iload_n (pc' := 40) O dX11_lamp_39 rfl 3 rfl rfl ?_
      refine saM_9 (pc' := 41) O hf dX11_lamp_40 rfl (fun σ6 hf => ?_)
      refine a_iload_n (pc' := 42) O dX11_lamp_41 rfl 0 rfl rfl ?_
      exact a_iret O hf dX11_lamp_42
    · refine a_bipush (pc' := 26) (v := (-2)) O dX11_lamp_24 (by decide) rfl ?_
      exact a_iret O hf dX11_lamp_26
def rmX11_read : Room := { frames := 2, cells := 0, slots := 0, locals := 48 }
def BX11_read_27 (k27 : St → Int32 → Int32 → Option (Int32 × St)) (σ : St) (x1 : Int32) (x2 : Int32) : Option (Int32 × St) :=
  gIn x1 4 (if (σ.2.2 2 x1.toNatClampNeg) ≤ x2 then some (x2, σ) else (gIn ((60 * x1) + x2) 240 ((fX11_lamp x2 (σ.2.2 3 ((60 * x1) + x2).toNatClampNeg) σ).bind (fun z3 => if z3.1 < 0 then some (x2, z3.2) else (bI (x2 + 1) (fun v5 => k27 z3.2 x1 v5))))))
set_option maxRecDepth 100000 in
theorem okBX11_read_27 {E : ET} {X : XT} {z : Int32 × St} (O : Ok (YM E) X cX11_read 3 RX11 (some .int) rmX11_read (some (.int z.1)) z.2) (k27 : St → Int32 → Int32 → Option (Int32 × St)) (hk27 : ∀ (σ : St) (x1 : Int32) (x2 : Int32), k27 σ x1 x2 = some z → At (YM E) X 3 27 [(0, .ref (E.2.2.2.2 0)), (1, .int x1), (2, .int x2)] [] σ) (σ : St) (x1 : Int32) (x2 : Int32) (hf : BX11_read_27 k27 σ x1 x2 = some z) : At (YM E) X 3 27 [(0, .ref (E.2.2.2.2 0)), (1, .int x1), (2, .int x2)] [] σ := by
  have hE := O.2.2.2.2.2.2.2.2.2.1
  unfold BX11_read_27 at hf
  refine a_iload_n (pc' := 28) O dX11_read_27 rfl 2 rfl rfl ?_
  refine a_aload_n (pc' := 29) O dX11_read_28 rfl 0 rfl rfl ?_
  refine gfM_0_1 (pc' := 32) O dX11_read_29 rfl ?_
  refine a_iload_n (pc' := 33) O dX11_read_32 rfl 1 rfl rfl ?_
  refine laM_2 (pc' := 34) O hf dX11_read_33 rfl (fun hf => ?_)
  refine a_icmp_ge (pc' := 37) (tgt := 62) O dX11_read_34 (by decide) rfl hf (fun hf => ?_) (fun hf => ?_)
  · refine a_iload_n (pc' := 63) O dX11_read_62 rfl 2 rfl rfl ?_
    exact a_iret O hf dX11_read_63
  · refine a_aload_n (pc' := 38) O dX11_read_37 rfl 0 rfl rfl ?_
    refine a_iload_n (pc' := 39) O dX11_read_38 rfl 2 rfl rfl ?_
    refine a_aload_n (pc' := 40) O dX11_read_39 rfl 0 rfl rfl ?_
    refine gfM_0_2 (pc' := 43) O dX11_read_40 rfl ?_
    refine a_bipush (pc' := 45) (v := 60) O dX11_read_43 (by decide) rfl ?_
    refine a_iload_n (pc' := 46) O dX11_read_45 rfl 1 rfl rfl ?_
    refine a_imul (pc' := 47) O dX11_read_46 rfl ?_
    refine a_iload_n (pc' := 48) O dX11_read_47 rfl 2 rfl rfl ?_
    refine a_iadd (pc' := 49) O dX11_read_48 rfl ?_
    refine laM_3 (pc' := 50) O hf dX11_read_49 rfl (fun hf => ?_)
    obtain ⟨z3, h4, hf⟩ := bd_some hf
    refine a_callVI (pc' := 53) (n := 2) (As := [.int x2, .int (σ.2.2 3 ((60 * x1) + x2).toNatClampNeg)]) (st := []) (q0 := 0) O (ctX11_lamp hE x2 (σ.2.2 3 ((60 * x1) + x2).toNatClampNeg) σ z3 h4) wm_373 wm_324 wm_325 wm_5 wm_326 (by decide +kernel) (by decide) (gM_0 E _) hc_11 rfl rfl rfl (Nat.le_of_ble_eq_true rfl) dX11_read_50 rfl ?_
    refine a_if_lt (pc' := 56) (tgt := 62) O dX11_read_53 (by decide) rfl hf (fun hf => ?_) (fun hf => ?_)
    · refine a_iload_n (pc' := 63) O dX11_read_62 rfl 2 rfl rfl ?_
      exact a_iret O hf dX11_read_63
    · refine a_iincB (pc' := 59) (lv' := fun v5 => [(2, .int v5), (0, .ref (E.2.2.2.2 0)), (1, .int x1)]) (c0 := 1) O dX11_read_56 2 rfl (by decide) (by decide) (fun _ => rfl) rfl hf (fun v5 hf => ?_)
      refine a_goto (tgt := 27) O dX11_read_59 (by decide) ?_
      exact a_sub [1, 2, 0] rfl (hk27 z3.2 x1 v5 hf)
def LX11_read_27 : Nat → St → Int32 → Int32 → Option (Int32 × St)
  | 0, _, _, _ => none
  | n + 1, σ, x1, x2 => BX11_read_27 (LX11_read_27 n) σ x1 x2
theorem okLX11_read_27 {E : ET} {X : XT} {z : Int32 × St} (O : Ok (YM E) X cX11_read 3 RX11 (some .int) rmX11_read (some (.int z.1)) z.2) : ∀ (n : Nat) (σ : St) (x1 : Int32) (x2 : Int32), LX11_read_27 n σ x1 x2 = some z → At (YM E) X 3 27 [(0, .ref (E.2.2.2.2 0)), (1, .int x1), (2, .int x2)] [] σ := by
  intro n
  induction n with
  | zero =>
    intro σ x1 x2 hf
    rw [LX11_read_27] at hf
    cases hf
  | succ n ih =>
    intro σ x1 x2 hf
    rw [LX11_read_27] at hf
    exact okBX11_read_27 O (LX11_read_27 n) ih σ x1 x2 hf
def fX11_read (a0 : Int32) (σ : St) : Option (Int32 × St) :=
  (fX11_isSheet a0).bind (fun z1 => if z1 = 0 then some ((-2), σ) else (gIn a0 4 (if 0 ≤ (σ.2.2 1 a0.toNatClampNeg) then LX11_read_27 fu σ a0 0 else ((fX11_met 1 σ).bind (fun z6 => some (z6.1, z6.2))))))
set_option maxRecDepth 100000 in
theorem ctX11_read {E : ET} (hE : Dj (YM E)) (a0 : Int32) (σ : St) (z : Int32 × St) (hf : fX11_read a0 σ = some z) : Ct (YM E) yX11_read cX11_read 3 (some .int) rmX11_read [.ref (E.2.2.2.2 0), .int a0] σ (some (.int z.1)) z.2 := by
  refine Ct.of hE (by decide) (Nat.le_of_ble_eq_true rfl) (fun X O => ?_)
  have O : Ok (YM E) X cX11_read 3 RX11 (some .int) rmX11_read (some (.int z.1)) z.2 := O
  show At (YM E) X 3 0 [(0, .ref (E.2.2.2.2 0)), (1, .int a0)] [] σ
  unfold fX11_read at hf
  refine a_iload_n (pc' := 1) O dX11_read_0 rfl 1 rfl rfl ?_
  obtain ⟨z1, h2, hf⟩ := bd_some hf
  refine a_callSI (pc' := 4) (n := 1) (As := [.int a0]) (st := []) O (ctX11_isSheet hE a0 σ z1 h2) wm_365 wm_366 wm_5 wm_367 (by decide +kernel) (by decide) rfl rfl (Nat.le_of_ble_eq_true rfl) dX11_read_1 rfl ?_
  refine a_if_ne (pc' := 7) (tgt := 10) O dX11_read_4 (by decide) rfl hf (fun hf => ?_) (fun hf => ?_)
  · refine a_aload_n (pc' := 11) O dX11_read_10 rfl 0 rfl rfl ?_
    refine gfM_0_0 (pc' := 14) O dX11_read_11 rfl ?_
    refine a_iload_n (pc' := 15) O dX11_read_14 rfl 1 rfl rfl ?_
    refine laM_1 (pc' := 16) O hf dX11_read_15 rfl (fun hf => ?_)
    refine a_if_ge (pc' := 19) (tgt := 25) O dX11_read_16 (by decide) rfl hf (fun hf => ?_) (fun hf => ?_)
    · refine a_iconst (pc' := 26) (v := 0) O dX11_read_25 (by decide) rfl ?_
      refine a_istore_n (pc' := 27) (lv' := [(2, .int 0), (0, .ref (E.2.2.2.2 0)), (1, .int a0)]) O dX11_read_26 rfl (by decide) rfl rfl ?_
      exact a_sub [1, 2, 0] rfl (okLX11_read_27 O fu σ a0 0 hf)
    · refine a_aload_n (pc' := 20) O dX11_read_19 rfl 0 rfl rfl ?_
      refine a_iconst (pc' := 21) (v := 1) O dX11_read_20 (by decide) rfl ?_
      obtain ⟨z6, h7, hf⟩ := bd_some hf
      refine a_callVI (pc' := 24) (n := 1) (As := [.int 1]) (st := []) (q0 := 0) O (ctX11_met hE 1 σ z6 h7) wm_368 wm_369 wm_370 wm_5 wm_371 (by decide +kernel) (by decide) (gM_0 E _) hc_11 rfl rfl rfl (Nat.le_of_ble_eq_true rfl) dX11_read_21 rfl ?_
      exact a_iret O hf dX11_read_24
  · refine a_bipush (pc' := 9) (v := (-2)) O dX11_read_7 (by decide) rfl ?_
    exact a_iret O hf dX11_read_9
def rmX11_isGoer : Room := { frames := 1, cells := 0, slots := 0, locals := 25 }
def fX11_isGoer (a0 : Int32) (σ : St) : Option Int32 :=
  (fX11_in (a0.toInt64) 0 (((σ.1 12) - 1).toInt64)).bind (fun z1 => gB z1 (some z1))
set_option maxRecDepth 100000 in
theorem ctX11_isGoer {E : ET} (hE : Dj (YM E)) (a0 : Int32) (σ : St) (z : Int32) (hf : fX11_isGoer a0 σ = some z) : Ct (YM E) yX11_isGoer cX11_isGoer 2 (some .boolean) rmX11_isGoer [.ref (E.2.2.2.2 0), .int a0] σ (some (.int z)) σ := by
  refine Ct.of hE (by decide) (Nat.le_of_ble_eq_true rfl) (fun X O => ?_)
  have O : Ok (YM E) X cX11_isGoer 2 RX11 (some .boolean) rmX11_isGoer (some (.int z)) σ := O
  show At (YM E) X 2 0 [(0, .ref (E.2.2.2.2 0)), (1, .int a0)] [] σ
  unfold fX11_isGoer at hf
  refine a_iload_n (pc' := 1) O dX11_isGoer_0 rfl 1 rfl rfl ?_
  refine a_i2l (pc' := 2) O dX11_isGoer_1 rfl rfl ?_
  refine a_lconst (pc' := 3) (v := 0) O dX11_isGoer_2 (by decide) rfl ?_
  refine a_aload_n (pc' := 4) O dX11_isGoer_3 rfl 0 rfl rfl ?_
  refine gfM_0_12 (pc' := 7) O dX11_isGoer_4 rfl ?_
  refine a_iconst (pc' := 8) (v := 1) O dX11_isGoer_7 (by decide) rfl ?_
  refine a_isub (pc' := 9) O dX11_isGoer_8 rfl ?_
  refine a_i2l (pc' := 10) O dX11_isGoer_9 rfl rfl ?_
  obtain ⟨z1, h2, hf⟩ := bd_some hf
  refine a_callSI (pc' := 13) (n := 3) (As := [.long (a0.toInt64), .long 0, .long (((σ.1 12) - 1).toInt64)]) (st := []) O (ctX11_in hE (a0.toInt64) 0 (((σ.1 12) - 1).toInt64) σ z1 h2) wm_201 wm_202 wm_5 wm_203 (by decide +kernel) (by decide) rfl rfl (Nat.le_of_ble_eq_true rfl) dX11_isGoer_10 rfl ?_
  obtain ⟨h3, hf⟩ := gB_some hf
  exact a_zretP h3 O hf dX11_isGoer_13
def rmX11_outBy : Room := { frames := 0, cells := 0, slots := 0, locals := 0 }
def fX11_outBy (a0 : Int32) (a1 : Int32) (σ : St) : Option Int32 :=
  if a1 = 1 then gIn ((3 * a0) + 1) 48 (some (σ.2.2 7 ((3 * a0) + 1).toNatClampNeg)) else (gIn ((3 * a0) + 2) 48 (some ((a1 - 1) * (σ.2.2 7 ((3 * a0) + 2).toNatClampNeg))))
set_option maxRecDepth 100000 in
theorem ctX11_outBy {E : ET} (hE : Dj (YM E)) (a0 : Int32) (a1 : Int32) (σ : St) (z : Int32) (hf : fX11_outBy a0 a1 σ = some z) : Ct (YM E) yX11_outBy cX11_outBy 3 (some .int) rmX11_outBy [.ref (E.2.2.2.2 0), .int a0, .int a1] σ (some (.int z)) σ := by
  refine Ct.of hE (by decide) (Nat.le_of_ble_eq_true rfl) (fun X O => ?_)
  have O : Ok (YM E) X cX11_outBy 3 RX11 (some .int) rmX11_outBy (some (.int z)) σ := O
  show At (YM E) X 3 0 [(0, .ref (E.2.2.2.2 0)), (1, .int a0), (2, .int a1)] [] σ
  unfold fX11_outBy at hf
  refine a_iload_n (pc' := 1) O dX11_outBy_0 rfl 2 rfl rfl ?_
  refine a_iconst (pc' := 2) (v := 1) O dX11_outBy_1 (by decide) rfl ?_
  refine a_icmp_ne (pc' := 5) (tgt := 18) O dX11_outBy_2 (by decide) rfl hf (fun hf => ?_) (fun hf => ?_)
  · refine a_iload_n (pc' := 19) O dX11_outBy_18 rfl 2 rfl rfl ?_
    refine a_iconst (pc' := 20) (v := 1) O dX11_outBy_19 (by decide) rfl ?_
    refine a_isub (pc' := 21) O dX11_outBy_20 rfl ?_
    refine a_aload_n (pc' := 22) O dX11_outBy_21 rfl 0 rfl rfl ?_
    refine gfM_0_9 (pc' := 25) O dX11_outBy_22 rfl ?_
    refine a_iconst (pc' := 26) (v := 3) O dX11_outBy_25 (by decide) rfl ?_
    refine a_iload_n (pc' := 27) O dX11_outBy_26 rfl 1 rfl rfl ?_
    refine a_imul (pc' := 28) O dX11_outBy_27 rfl ?_
    refine a_iconst (pc' := 29) (v := 2) O dX11_outBy_28 (by decide) rfl ?_
    refine a_iadd (pc' := 30) O dX11_outBy_29 rfl ?_
    refine laM_7 (pc' := 31) O hf dX11_outBy_30 rfl (fun hf => ?_)
    refine a_imul (pc' := 32) O dX11_outBy_31 rfl ?_
    exact a_iretP O hf dX11_outBy_32
  · refine a_aload_n (pc' := 6) O dX11_outBy_5 rfl 0 rfl rfl ?_
    refine gfM_0_9 (pc' := 9) O dX11_outBy_6 rfl ?_
    refine a_iconst (pc' := 10) (v := 3) O dX11_outBy_9 (by decide) rfl ?_
    refine a_iload_n (pc' := 11) O dX11_outBy_10 rfl 1 rfl rfl ?_
    refine a_imul (pc' := 12) O dX11_outBy_11 rfl ?_
    refine a_iconst (pc' := 13) (v := 1) O dX11_outBy_12 (by decide) rfl ?_
    refine a_iadd (pc' := 14) O dX11_outBy_13 rfl ?_
    refine laM_7 (pc' := 15) O hf dX11_outBy_14 rfl (fun hf => ?_)
    refine a_goto (tgt := 32) O dX11_outBy_15 (by decide) ?_
    exact a_iretP O hf dX11_outBy_32
def rmX11_toLight : Room := { frames := 0, cells := 0, slots := 0, locals := 0 }
def fX11_toLight (a0 : Int32) (σ : St) : Option Int32 :=
  gNz a0 (some ((((σ.1 12) + a0) - 1) / a0))
set_option maxRecDepth 100000 in
theorem ctX11_toLight {E : ET} (hE : Dj (YM E)) (a0 : Int32) (σ : St) (z : Int32) (hf : fX11_toLight a0 σ = some z) : Ct (YM E) yX11_toLight cX11_toLight 2 (some .int) rmX11_toLight [.ref (E.2.2.2.2 0), .int a0] σ (some (.int z)) σ := by
  refine Ct.of hE (by decide) (Nat.le_of_ble_eq_true rfl) (fun X O => ?_)
  have O : Ok (YM E) X cX11_toLight 2 RX11 (some .int) rmX11_toLight (some (.int z)) σ := O
  show At (YM E) X 2 0 [(0, .ref (E.2.2.2.2 0)), (1, .int a0)] [] σ
  unfold fX11_toLight at hf
  refine a_aload_n (pc' := 1) O dX11_toLight_0 rfl 0 rfl rfl ?_
  refine gfM_0_12 (pc' := 4) O dX11_toLight_1 rfl ?_
  refine a_iload_n (pc' := 5) O dX11_toLight_4 rfl 1 rfl rfl ?_
  refine a_iadd (pc' := 6) O dX11_toLight_5 rfl ?_
  refine a_iconst (pc' := 7) (v := 1) O dX11_toLight_6 (by decide) rfl ?_
  refine a_isub (pc' := 8) O dX11_toLight_7 rfl ?_
  refine a_iload_n (pc' := 9) O dX11_toLight_8 rfl 1 rfl rfl ?_
  obtain ⟨h1, hf⟩ := gNz_some hf
  refine a_idiv (pc' := 10) O dX11_toLight_9 h1 rfl ?_
  exact a_iretP O hf dX11_toLight_10
def rmX11_leastLamp : Room := { frames := 1, cells := 0, slots := 0, locals := 21 }
def BX11_leastLamp_9 (k9 : Int32 → Int32 → Option Int32) (σ : St) (x1 : Int32) (x2 : Int32) : Option Int32 :=
  if (σ.1 12) ≤ x2 then some x1 else (gIn x2 4 ((fX11_lesser x1 (σ.2.2 9 x2.toNatClampNeg)).bind (fun z2 => bI (x2 + 1) (fun v4 => k9 z2 v4))))
set_option maxRecDepth 100000 in
theorem okBX11_leastLamp_9 {E : ET} {X : XT} {z : Int32} {σ : St} (O : Ok (YM E) X cX11_leastLamp 3 RX11 (some .int) rmX11_leastLamp (some (.int z)) σ) (k9 : Int32 → Int32 → Option Int32) (hk9 : ∀ (x1 : Int32) (x2 : Int32), k9 x1 x2 = some z → At (YM E) X 3 9 [(0, .ref (E.2.2.2.2 0)), (1, .int x1), (2, .int x2)] [] σ) (x1 : Int32) (x2 : Int32) (hf : BX11_leastLamp_9 k9 σ x1 x2 = some z) : At (YM E) X 3 9 [(0, .ref (E.2.2.2.2 0)), (1, .int x1), (2, .int x2)] [] σ := by
  have hE := O.2.2.2.2.2.2.2.2.2.1
  unfold BX11_leastLamp_9 at hf
  refine a_iload_n (pc' := 10) O dX11_leastLamp_9 rfl 2 rfl rfl ?_
  refine a_aload_n (pc' := 11) O dX11_leastLamp_10 rfl 0 rfl rfl ?_
  refine gfM_0_12 (pc' := 14) O dX11_leastLamp_11 rfl ?_
  refine a_icmp_ge (pc' := 17) (tgt := 34) O dX11_leastLamp_14 (by decide) rfl hf (fun hf => ?_) (fun hf => ?_)
  · refine a_iload_n (pc' := 35) O dX11_leastLamp_34 rfl 1 rfl rfl ?_
    exact a_iretP O hf dX11_leastLamp_35
  · refine a_iload_n (pc' := 18) O dX11_leastLamp_17 rfl 1 rfl rfl ?_
    refine a_aload_n (pc' := 19) O dX11_leastLamp_18 rfl 0 rfl rfl ?_
    refine gfM_0_13 (pc' := 22) O dX11_leastLamp_19 rfl ?_
    refine a_iload_n (pc' := 23) O dX11_leastLamp_22 rfl 2 rfl rfl ?_
    refine laM_9 (pc' := 24) O hf dX11_leastLamp_23 rfl (fun hf => ?_)
    obtain ⟨z2, h3, hf⟩ := bd_some hf
    refine a_callSI (pc' := 27) (n := 2) (As := [.int x1, .int (σ.2.2 9 x2.toNatClampNeg)]) (st := []) O (ctX11_lesser hE x1 (σ.2.2 9 x2.toNatClampNeg) σ z2 h3) wm_467 wm_468 wm_5 wm_469 (by decide +kernel) (by decide) rfl rfl (Nat.le_of_ble_eq_true rfl) dX11_leastLamp_24 rfl ?_
    refine a_istore_n (pc' := 28) (lv' := [(1, .int z2), (0, .ref (E.2.2.2.2 0)), (2, .int x2)]) O dX11_leastLamp_27 rfl (by decide) rfl rfl ?_
    refine a_iincB (pc' := 31) (lv' := fun v4 => [(2, .int v4), (1, .int z2), (0, .ref (E.2.2.2.2 0))]) (c0 := 1) O dX11_leastLamp_28 2 rfl (by decide) (by decide) (fun _ => rfl) rfl hf (fun v4 hf => ?_)
    refine a_goto (tgt := 9) O dX11_leastLamp_31 (by decide) ?_
    exact a_sub [2, 1, 0] rfl (hk9 z2 v4 hf)
def LX11_leastLamp_9 (σ : St) : Nat → Int32 → Int32 → Option Int32
  | 0, _, _ => none
  | n + 1, x1, x2 => BX11_leastLamp_9 (LX11_leastLamp_9 σ n) σ x1 x2
theorem okLX11_leastLamp_9 {E : ET} {X : XT} {z : Int32} {σ : St} (O : Ok (YM E) X cX11_leastLamp 3 RX11 (some .int) rmX11_leastLamp (some (.int z)) σ) : ∀ (n : Nat) (x1 : Int32) (x2 : Int32), LX11_leastLamp_9 σ n x1 x2 = some z → At (YM E) X 3 9 [(0, .ref (E.2.2.2.2 0)), (1, .int x1), (2, .int x2)] [] σ := by
  intro n
  induction n with
  | zero =>
    intro x1 x2 hf
    rw [LX11_leastLamp_9] at hf
    cases hf
  | succ n ih =>
    intro x1 x2 hf
    rw [LX11_leastLamp_9] at hf
    exact okBX11_leastLamp_9 O (LX11_leastLamp_9 σ n) ih x1 x2 hf
def fX11_leastLamp (σ : St) : Option Int32 :=
  gIn 0 4 (bI (σ.2.2 9 (0 : Int32).toNatClampNeg) (fun v1 => LX11_leastLamp_9 σ fu v1 1))
set_option maxRecDepth 100000 in
theorem ctX11_leastLamp {E : ET} (hE : Dj (YM E)) (σ : St) (z : Int32) (hf : fX11_leastLamp σ = some z) : Ct (YM E) yX11_leastLamp cX11_leastLamp 3 (some .int) rmX11_leastLamp [.ref (E.2.2.2.2 0)] σ (some (.int z)) σ := by
  refine Ct.of hE (by decide) (Nat.le_of_ble_eq_true rfl) (fun X O => ?_)
  have O : Ok (YM E) X cX11_leastLamp 3 RX11 (some .int) rmX11_leastLamp (some (.int z)) σ := O
  show At (YM E) X 3 0 [(0, .ref (E.2.2.2.2 0))] [] σ
  unfold fX11_leastLamp at hf
  refine a_aload_n (pc' := 1) O dX11_leastLamp_0 rfl 0 rfl rfl ?_
  refine gfM_0_13 (pc' := 4) O dX11_leastLamp_1 rfl ?_
  refine a_iconst (pc' := 5) (v := 0) O dX11_leastLamp_4 (by decide) rfl ?_
  refine laM_9 (pc' := 6) O hf dX11_leastLamp_5 rfl (fun hf => ?_)
  refine a_topi hf (fun v1 hf => ?_)
  refine a_istore_n (pc' := 7) (lv' := [(1, .int v1), (0, .ref (E.2.2.2.2 0))]) O dX11_leastLamp_6 rfl (by decide) rfl rfl ?_
  refine a_iconst (pc' := 8) (v := 1) O dX11_leastLamp_7 (by decide) rfl ?_
  refine a_istore_n (pc' := 9) (lv' := [(2, .int 1), (1, .int v1), (0, .ref (E.2.2.2.2 0))]) O dX11_leastLamp_8 rfl (by decide) rfl rfl ?_
  exact a_sub [2, 1, 0] rfl (okLX11_leastLamp_9 O fu v1 1 hf)
def rmX11_placeOf : Room := { frames := 1, cells := 0, slots := 0, locals := 30 }
def BX11_placeOf_73 (σ : St) (x3 : Int32) : Option Int64 :=
  if x3 = 0 then some ((σ.1 8).toInt64) else (some 1)
set_option maxRecDepth 100000 in
theorem okBX11_placeOf_73 {E : ET} {X : XT} {z : Int64} {σ : St} (O : Ok (YM E) X cX11_placeOf 7 RX11 (some .long) rmX11_placeOf (some (.long z)) σ) (x3 : Int32) (hf : BX11_placeOf_73 σ x3 = some z) : At (YM E) X 7 73 [(0, .ref (E.2.2.2.2 0)), (3, .int x3)] [] σ := by
  have hE := O.2.2.2.2.2.2.2.2.2.1
  unfold BX11_placeOf_73 at hf
  refine a_iload_n (pc' := 74) O dX11_placeOf_73 rfl 1 rfl rfl ?_
  refine a_if_ne (pc' := 77) (tgt := 85) O dX11_placeOf_74 (by decide) rfl hf (fun hf => ?_) (fun hf => ?_)
  · refine a_lconst (pc' := 86) (v := 1) O dX11_placeOf_85 (by decide) rfl ?_
    exact a_lretP O hf dX11_placeOf_86
  · refine a_aload_n (pc' := 78) O dX11_placeOf_77 rfl 0 rfl rfl ?_
    refine gfM_0_8 (pc' := 81) O dX11_placeOf_78 rfl ?_
    refine a_i2l (pc' := 82) O dX11_placeOf_81 rfl rfl ?_
    refine a_goto (tgt := 86) O dX11_placeOf_82 (by decide) ?_
    exact a_lretP O hf dX11_placeOf_86
def BX11_placeOf_41 (σ : St) (x3 : Int32) (x4 : Int32) (x5 : Int32) (x6 : Int32) : Option Int64 :=
  (fX11_part (((x5.toInt64) * (x6.toInt64)) + (x4.toInt64)) (x6.toInt64) x3).bind (fun z6 => some z6)
set_option maxRecDepth 100000 in
theorem okBX11_placeOf_41 {E : ET} {X : XT} {z : Int64} {σ : St} (O : Ok (YM E) X cX11_placeOf 7 RX11 (some .long) rmX11_placeOf (some (.long z)) σ) (x3 : Int32) (x4 : Int32) (x5 : Int32) (x6 : Int32) (hf : BX11_placeOf_41 σ x3 x4 x5 x6 = some z) : At (YM E) X 7 41 [(3, .int x3), (4, .int x4), (5, .int x5), (6, .int x6)] [] σ := by
  have hE := O.2.2.2.2.2.2.2.2.2.1
  unfold BX11_placeOf_41 at hf
  refine a_iload (pc' := 43) O dX11_placeOf_41 2 rfl rfl ?_
  refine a_i2l (pc' := 44) O dX11_placeOf_43 rfl rfl ?_
  refine a_iload (pc' := 46) O dX11_placeOf_44 3 rfl rfl ?_
  refine a_i2l (pc' := 47) O dX11_placeOf_46 rfl rfl ?_
  refine a_lmul (pc' := 48) O dX11_placeOf_47 rfl ?_
  refine a_iload (pc' := 50) O dX11_placeOf_48 1 rfl rfl ?_
  refine a_i2l (pc' := 51) O dX11_placeOf_50 rfl rfl ?_
  refine a_ladd (pc' := 52) O dX11_placeOf_51 rfl ?_
  refine a_iload (pc' := 54) O dX11_placeOf_52 3 rfl rfl ?_
  refine a_i2l (pc' := 55) O dX11_placeOf_54 rfl rfl ?_
  refine a_iload_n (pc' := 56) O dX11_placeOf_55 rfl 0 rfl rfl ?_
  obtain ⟨z6, h7, hf⟩ := bd_some hf
  refine a_callSL (pc' := 59) (n := 3) (As := [.long (((x5.toInt64) * (x6.toInt64)) + (x4.toInt64)), .long (x6.toInt64), .int x3]) (st := []) O (ctX11_part hE (((x5.toInt64) * (x6.toInt64)) + (x4.toInt64)) (x6.toInt64) x3 σ z6 h7) wm_430 wm_431 wm_5 wm_432 (by decide +kernel) (by decide) rfl rfl (Nat.le_of_ble_eq_true rfl) dX11_placeOf_56 rfl ?_
  exact a_lretP O hf dX11_placeOf_59
def BX11_placeOf_6 (k6 : Int32 → Int32 → Int32 → Int32 → Option Int64) (σ : St) (x2 : Int32) (x3 : Int32) (x4 : Int32) (x5 : Int32) : Option Int64 :=
  if (σ.1 8) ≤ x5 then BX11_placeOf_73 σ x3 else (gIn (3 * x5) 48 ((fX11_outBy x5 x2 σ).bind (fun z1 => bI ((σ.2.2 7 (3 * x5).toNatClampNeg) + z1) (fun v3 => if v3 ≤ x4 then bI (x4 - v3) (fun v4 => bI (x5 + 1) (fun v5 => k6 x2 x3 v4 v5)) else (BX11_placeOf_41 σ x3 x4 x5 v3)))))
set_option maxRecDepth 100000 in
theorem okBX11_placeOf_6 {E : ET} {X : XT} {z : Int64} {σ : St} (O : Ok (YM E) X cX11_placeOf 7 RX11 (some .long) rmX11_placeOf (some (.long z)) σ) (k6 : Int32 → Int32 → Int32 → Int32 → Option Int64) (hk6 : ∀ (x2 : Int32) (x3 : Int32) (x4 : Int32) (x5 : Int32), k6 x2 x3 x4 x5 = some z → At (YM E) X 7 6 [(0, .ref (E.2.2.2.2 0)), (2, .int x2), (3, .int x3), (4, .int x4), (5, .int x5)] [] σ) (x2 : Int32) (x3 : Int32) (x4 : Int32) (x5 : Int32) (hf : BX11_placeOf_6 k6 σ x2 x3 x4 x5 = some z) : At (YM E) X 7 6 [(0, .ref (E.2.2.2.2 0)), (2, .int x2), (3, .int x3), (4, .int x4), (5, .int x5)] [] σ := by
  have hE := O.2.2.2.2.2.2.2.2.2.1
  unfold BX11_placeOf_6 at hf
  refine a_iload (pc' := 8) O dX11_placeOf_6 4 rfl rfl ?_
  refine a_aload_n (pc' := 9) O dX11_placeOf_8 rfl 0 rfl rfl ?_
  refine gfM_0_8 (pc' := 12) O dX11_placeOf_9 rfl ?_
  refine a_icmp_ge (pc' := 15) (tgt := 73) O dX11_placeOf_12 (by decide) rfl hf (fun hf => ?_) (fun hf => ?_)
  · exact a_sub [0, 2] rfl (okBX11_placeOf_73 O x3 hf)
  · refine a_aload_n (pc' := 16) O dX11_placeOf_15 rfl 0 rfl rfl ?_
    refine gfM_0_9 (pc' := 19) O dX11_placeOf_16 rfl ?_
    refine a_iconst (pc' := 20) (v := 3) O dX11_placeOf_19 (by decide) rfl ?_
    refine a_iload (pc' := 22) O dX11_placeOf_20 4 rfl rfl ?_
    refine a_imul (pc' := 23) O dX11_placeOf_22 rfl ?_
    refine laM_7 (pc' := 24) O hf dX11_placeOf_23 rfl (fun hf => ?_)
    refine a_aload_n (pc' := 25) O dX11_placeOf_24 rfl 0 rfl rfl ?_
    refine a_iload (pc' := 27) O dX11_placeOf_25 4 rfl rfl ?_
    refine a_iload_n (pc' := 28) O dX11_placeOf_27 rfl 1 rfl rfl ?_
    obtain ⟨z1, h2, hf⟩ := bd_some hf
    refine a_callVI (pc' := 31) (n := 2) (As := [.int x5, .int x2]) (st := [.int (σ.2.2 7 (3 * x5).toNatClampNeg)]) (q0 := 0) O (ctX11_outBy hE x5 x2 σ z1 h2) wm_426 wm_427 wm_428 wm_5 wm_429 (by decide +kernel) (by decide) (gM_0 E _) hc_11 rfl rfl rfl (Nat.le_of_ble_eq_true rfl) dX11_placeOf_28 rfl ?_
    refine a_iadd (pc' := 32) O dX11_placeOf_31 rfl ?_
    refine a_topi hf (fun v3 hf => ?_)
    refine a_istore (pc' := 34) (lv' := [(6, .int v3), (0, .ref (E.2.2.2.2 0)), (2, .int x2), (3, .int x3), (4, .int x4), (5, .int x5)]) O dX11_placeOf_32 (by decide) rfl rfl ?_
    refine a_iload (pc' := 36) O dX11_placeOf_34 4 rfl rfl ?_
    refine a_iload (pc' := 38) O dX11_placeOf_36 0 rfl rfl ?_
    refine a_icmp_ge (pc' := 41) (tgt := 60) O dX11_placeOf_38 (by decide) rfl hf (fun hf => ?_) (fun hf => ?_)
    · refine a_iload (pc' := 62) O dX11_placeOf_60 4 rfl rfl ?_
      refine a_iload (pc' := 64) O dX11_placeOf_62 0 rfl rfl ?_
      refine a_isub (pc' := 65) O dX11_placeOf_64 rfl ?_
      refine a_topi hf (fun v4 hf => ?_)
      refine a_istore (pc' := 67) (lv' := [(4, .int v4), (6, .int v3), (0, .ref (E.2.2.2.2 0)), (2, .int x2), (3, .int x3), (5, .int x5)]) O dX11_placeOf_65 (by decide) rfl rfl ?_
      refine a_iincB (pc' := 70) (lv' := fun v5 => [(5, .int v5), (4, .int v4), (6, .int v3), (0, .ref (E.2.2.2.2 0)), (2, .int x2), (3, .int x3)]) (c0 := 1) O dX11_placeOf_67 5 rfl (by decide) (by decide) (fun _ => rfl) rfl hf (fun v5 hf => ?_)
      refine a_goto (tgt := 6) O dX11_placeOf_70 (by decide) ?_
      exact a_sub [3, 4, 5, 1, 0] rfl (hk6 x2 x3 v4 v5 hf)
    · exact a_sub [3, 4, 5, 0] rfl (okBX11_placeOf_41 O x3 x4 x5 v3 hf)
def LX11_placeOf_6 (σ : St) : Nat → Int32 → Int32 → Int32 → Int32 → Option Int64
  | 0, _, _, _, _ => none
  | n + 1, x2, x3, x4, x5 => BX11_placeOf_6 (LX11_placeOf_6 σ n) σ x2 x3 x4 x5
theorem okLX11_placeOf_6 {E : ET} {X : XT} {z : Int64} {σ : St} (O : Ok (YM E) X cX11_placeOf 7 RX11 (some .long) rmX11_placeOf (some (.long z)) σ) : ∀ (n : Nat) (x2 : Int32) (x3 : Int32) (x4 : Int32) (x5 : Int32), LX11_placeOf_6 σ n x2 x3 x4 x5 = some z → At (YM E) X 7 6 [(0, .ref (E.2.2.2.2 0)), (2, .int x2), (3, .int x3), (4, .int x4), (5, .int x5)] [] σ := by
  intro n
  induction n with
  | zero =>
    intro x2 x3 x4 x5 hf
    rw [LX11_placeOf_6] at hf
    cases hf
  | succ n ih =>
    intro x2 x3 x4 x5 hf
    rw [LX11_placeOf_6] at hf
    exact okBX11_placeOf_6 O (LX11_placeOf_6 σ n) ih x2 x3 x4 x5 hf
def fX11_placeOf (a0 : Int32) (a1 : Int32) (a2 : Int32) (σ : St) : Option Int64 :=
  LX11_placeOf_6 σ fu a1 a2 a0 0
set_option maxRecDepth 100000 in
theorem ctX11_placeOf {E : ET} (hE : Dj (YM E)) (a0 : Int32) (a1 : Int32) (a2 : Int32) (σ : St) (z : Int64) (hf : fX11_placeOf a0 a1 a2 σ = some z) : Ct (YM E) yX11_placeOf cX11_placeOf 7 (some .long) rmX11_placeOf [.ref (E.2.2.2.2 0), .int a0, .int a1, .int a2] σ (some (.long z)) σ := by
  refine Ct.of hE (by decide) (Nat.le_of_ble_eq_true rfl) (fun X O => ?_)
  have O : Ok (YM E) X cX11_placeOf 7 RX11 (some .long) rmX11_placeOf (some (.long z)) σ := O
  show At (YM E) X 7 0 [(0, .ref (E.2.2.2.2 0)), (1, .int a0), (2, .int a1), (3, .int a2)] [] σ
  unfold fX11_placeOf at hf
  refine a_iload_n (pc' := 1) O dX11_placeOf_0 rfl 1 rfl rfl ?_
  refine a_istore (pc' := 3) (lv' := [(4, .int a0), (0, .ref (E.2.2.2.2 0)), (1, .int a0), (2, .int a1), (3, .int a2)]) O dX11_placeOf_1 (by decide) rfl rfl ?_
  refine a_iconst (pc' := 4) (v := 0) O dX11_placeOf_3 (by decide) rfl ?_
  refine a_istore (pc' := 6) (lv' := [(5, .int 0), (4, .int a0), (0, .ref (E.2.2.2.2 0)), (1, .int a0), (2, .int a1), (3, .int a2)]) O dX11_placeOf_4 (by decide) rfl rfl ?_
  exact a_sub [2, 4, 5, 1, 0] rfl (okLX11_placeOf_6 O fu a1 a2 a0 0 hf)
def rmX11_far : Room := { frames := 4, cells := 0, slots := 0, locals := 89 }
def fX11_far (a0 : Int32) (a1 : Int32) (σ : St) : Option (Int64 × St) :=
  (fX11_reads σ).bind (fun z1 => (fX11_isGoer a0 z1).bind (fun z3 => if z3 = 0 then (fX11_no (-2)).bind (fun z5 => some (z5, z1)) else ((fX11_isTwo a1).bind (fun z7 => if z7 = 0 then (fX11_no (-2)).bind (fun z9 => some (z9, z1)) else (gIn a0 4 ((fX11_placeOf (z1.2.2 9 a0.toNatClampNeg) 1 a1 z1).bind (fun z11 => some (z11, z1))))))))
set_option maxRecDepth 100000 in
theorem ctX11_far {E : ET} (hE : Dj (YM E)) (a0 : Int32) (a1 : Int32) (σ : St) (z : Int64 × St) (hf : fX11_far a0 a1 σ = some z) : Ct (YM E) yX11_far cX11_far 3 (some .long) rmX11_far [.ref (E.2.2.2.2 0), .int a0, .int a1] σ (some (.long z.1)) z.2 := by
  refine Ct.of hE (by decide) (Nat.le_of_ble_eq_true rfl) (fun X O => ?_)
  have O : Ok (YM E) X cX11_far 3 RX11 (some .long) rmX11_far (some (.long z.1)) z.2 := O
  show At (YM E) X 3 0 [(0, .ref (E.2.2.2.2 0)), (1, .int a0), (2, .int a1)] [] σ
  unfold fX11_far at hf
  refine a_aload_n (pc' := 1) O dX11_far_0 rfl 0 rfl rfl ?_
  obtain ⟨z1, h2, hf⟩ := bd_some hf
  refine a_callVN (pc' := 4) (n := 0) (As := []) (st := []) (q0 := 0) O (ctX11_reads hE σ z1 h2) wm_286 wm_287 wm_288 wm_5 wm_289 (by decide +kernel) (by decide) (gM_0 E _) hc_11 rfl rfl rfl (Nat.le_of_ble_eq_true rfl) dX11_far_1 rfl ?_
  refine a_aload_n (pc' := 5) O dX11_far_4 rfl 0 rfl rfl ?_
  refine a_iload_n (pc' := 6) O dX11_far_5 rfl 1 rfl rfl ?_
  obtain ⟨z3, h4, hf⟩ := bd_some hf
  refine a_callVI (pc' := 9) (n := 1) (As := [.int a0]) (st := []) (q0 := 0) O (ctX11_isGoer hE a0 z1 z3 h4) wm_418 wm_419 wm_420 wm_5 wm_421 (by decide +kernel) (by decide) (gM_0 E _) hc_11 rfl rfl rfl (Nat.le_of_ble_eq_true rfl) dX11_far_6 rfl ?_
  refine a_if_eq (pc' := 12) (tgt := 34) O dX11_far_9 (by decide) rfl hf (fun hf => ?_) (fun hf => ?_)
  · refine a_bipush (pc' := 36) (v := (-2)) O dX11_far_34 (by decide) rfl ?_
    obtain ⟨z5, h6, hf⟩ := bd_some hf
    refine a_callSL (pc' := 39) (n := 1) (As := [.int (-2)]) (st := []) O (ctX11_no hE (-2) z1 z5 h6) wm_433 wm_434 wm_5 wm_435 (by decide +kernel) (by decide) rfl rfl (Nat.le_of_ble_eq_true rfl) dX11_far_36 rfl ?_
    exact a_lret O hf dX11_far_39
  · refine a_iload_n (pc' := 13) O dX11_far_12 rfl 2 rfl rfl ?_
    obtain ⟨z7, h8, hf⟩ := bd_some hf
    refine a_callSI (pc' := 16) (n := 1) (As := [.int a1]) (st := []) O (ctX11_isTwo hE a1 z1 z7 h8) wm_198 wm_199 wm_5 wm_200 (by decide +kernel) (by decide) rfl rfl (Nat.le_of_ble_eq_true rfl) dX11_far_13 rfl ?_
    refine a_if_eq (pc' := 19) (tgt := 34) O dX11_far_16 (by decide) rfl hf (fun hf => ?_) (fun hf => ?_)
    · refine a_bipush (pc' := 36) (v := (-2)) O dX11_far_34 (by decide) rfl ?_
      obtain ⟨z9, h10, hf⟩ := bd_some hf
      refine a_callSL (pc' := 39) (n := 1) (As := [.int (-2)]) (st := []) O (ctX11_no hE (-2) z1 z9 h10) wm_433 wm_434 wm_5 wm_435 (by decide +kernel) (by decide) rfl rfl (Nat.le_of_ble_eq_true rfl) dX11_far_36 rfl ?_
      exact a_lret O hf dX11_far_39
    · refine a_aload_n (pc' := 20) O dX11_far_19 rfl 0 rfl rfl ?_
      refine a_aload_n (pc' := 21) O dX11_far_20 rfl 0 rfl rfl ?_
      refine gfM_0_13 (pc' := 24) O dX11_far_21 rfl ?_
      refine a_iload_n (pc' := 25) O dX11_far_24 rfl 1 rfl rfl ?_
      refine laM_9 (pc' := 26) O hf dX11_far_25 rfl (fun hf => ?_)
      refine a_iconst (pc' := 27) (v := 1) O dX11_far_26 (by decide) rfl ?_
      refine a_iload_n (pc' := 28) O dX11_far_27 rfl 2 rfl rfl ?_
      obtain ⟨z11, h12, hf⟩ := bd_some hf
      refine a_callVL (pc' := 31) (n := 3) (As := [.int (z1.2.2 9 a0.toNatClampNeg), .int 1, .int a1]) (st := []) (q0 := 0) O (ctX11_placeOf hE (z1.2.2 9 a0.toNatClampNeg) 1 a1 z1 z11 h12) wm_422 wm_423 wm_424 wm_5 wm_425 (by decide +kernel) (by decide) (gM_0 E _) hc_11 rfl rfl rfl (Nat.le_of_ble_eq_true rfl) dX11_far_28 rfl ?_
      refine a_goto (tgt := 39) O dX11_far_31 (by decide) ?_
      exact a_lret O hf dX11_far_39
def rmX11_mayFail : Room := { frames := 1, cells := 0, slots := 0, locals := 25 }
def fX11_mayFail (a0 : Int32) (σ : St) : Option Int32 :=
  (fX11_in (a0.toInt64) 0 (((σ.1 12) - 1).toInt64)).bind (fun z1 => gB z1 (some z1))
set_option maxRecDepth 100000 in
theorem ctX11_mayFail {E : ET} (hE : Dj (YM E)) (a0 : Int32) (σ : St) (z : Int32) (hf : fX11_mayFail a0 σ = some z) : Ct (YM E) yX11_mayFail cX11_mayFail 2 (some .boolean) rmX11_mayFail [.ref (E.2.2.2.2 0), .int a0] σ (some (.int z)) σ := by
  refine Ct.of hE (by decide) (Nat.le_of_ble_eq_true rfl) (fun X O => ?_)
  have O : Ok (YM E) X cX11_mayFail 2 RX11 (some .boolean) rmX11_mayFail (some (.int z)) σ := O
  show At (YM E) X 2 0 [(0, .ref (E.2.2.2.2 0)), (1, .int a0)] [] σ
  unfold fX11_mayFail at hf
  refine a_iload_n (pc' := 1) O dX11_mayFail_0 rfl 1 rfl rfl ?_
  refine a_i2l (pc' := 2) O dX11_mayFail_1 rfl rfl ?_
  refine a_lconst (pc' := 3) (v := 0) O dX11_mayFail_2 (by decide) rfl ?_
  refine a_aload_n (pc' := 4) O dX11_mayFail_3 rfl 0 rfl rfl ?_
  refine gfM_0_12 (pc' := 7) O dX11_mayFail_4 rfl ?_
  refine a_iconst (pc' := 8) (v := 1) O dX11_mayFail_7 (by decide) rfl ?_
  refine a_isub (pc' := 9) O dX11_mayFail_8 rfl ?_
  refine a_i2l (pc' := 10) O dX11_mayFail_9 rfl rfl ?_
  obtain ⟨z1, h2, hf⟩ := bd_some hf
  refine a_callSI (pc' := 13) (n := 3) (As := [.long (a0.toInt64), .long 0, .long (((σ.1 12) - 1).toInt64)]) (st := []) O (ctX11_in hE (a0.toInt64) 0 (((σ.1 12) - 1).toInt64) σ z1 h2) wm_201 wm_202 wm_5 wm_203 (by decide +kernel) (by decide) rfl rfl (Nat.le_of_ble_eq_true rfl) dX11_mayFail_10 rfl ?_
  obtain ⟨h3, hf⟩ := gB_some hf
  exact a_zretP h3 O hf dX11_mayFail_13
def rmX11_safeOf : Room := { frames := 2, cells := 0, slots := 0, locals := 56 }
def fX11_safeOf (a0 : Int32) (a1 : Int32) (σ : St) : Option Int64 :=
  (fX11_leastLamp σ).bind (fun z1 => (fX11_toLight ((σ.1 12) - a0) σ).bind (fun z3 => (fX11_placeOf z1 z3 a1 σ).bind (fun z5 => some z5)))
set_option maxRecDepth 100000 in
theorem ctX11_safeOf {E : ET} (hE : Dj (YM E)) (a0 : Int32) (a1 : Int32) (σ : St) (z : Int64) (hf : fX11_safeOf a0 a1 σ = some z) : Ct (YM E) yX11_safeOf cX11_safeOf 3 (some .long) rmX11_safeOf [.ref (E.2.2.2.2 0), .int a0, .int a1] σ (some (.long z)) σ := by
  refine Ct.of hE (by decide) (Nat.le_of_ble_eq_true rfl) (fun X O => ?_)
  have O : Ok (YM E) X cX11_safeOf 3 RX11 (some .long) rmX11_safeOf (some (.long z)) σ := O
  show At (YM E) X 3 0 [(0, .ref (E.2.2.2.2 0)), (1, .int a0), (2, .int a1)] [] σ
  unfold fX11_safeOf at hf
  refine a_aload_n (pc' := 1) O dX11_safeOf_0 rfl 0 rfl rfl ?_
  refine a_aload_n (pc' := 2) O dX11_safeOf_1 rfl 0 rfl rfl ?_
  obtain ⟨z1, h2, hf⟩ := bd_some hf
  refine a_callVI (pc' := 5) (n := 0) (As := []) (st := [.ref (E.2.2.2.2 0)]) (q0 := 0) O (ctX11_leastLamp hE σ z1 h2) wm_463 wm_464 wm_465 wm_5 wm_466 (by decide +kernel) (by decide) (gM_0 E _) hc_11 rfl rfl rfl (Nat.le_of_ble_eq_true rfl) dX11_safeOf_2 rfl ?_
  refine a_aload_n (pc' := 6) O dX11_safeOf_5 rfl 0 rfl rfl ?_
  refine a_aload_n (pc' := 7) O dX11_safeOf_6 rfl 0 rfl rfl ?_
  refine gfM_0_12 (pc' := 10) O dX11_safeOf_7 rfl ?_
  refine a_iload_n (pc' := 11) O dX11_safeOf_10 rfl 1 rfl rfl ?_
  refine a_isub (pc' := 12) O dX11_safeOf_11 rfl ?_
  obtain ⟨z3, h4, hf⟩ := bd_some hf
  refine a_callVI (pc' := 15) (n := 1) (As := [.int ((σ.1 12) - a0)]) (st := [.int z1, .ref (E.2.2.2.2 0)]) (q0 := 0) O (ctX11_toLight hE ((σ.1 12) - a0) σ z3 h4) wm_470 wm_471 wm_472 wm_5 wm_473 (by decide +kernel) (by decide) (gM_0 E _) hc_11 rfl rfl rfl (Nat.le_of_ble_eq_true rfl) dX11_safeOf_12 rfl ?_
  refine a_iload_n (pc' := 16) O dX11_safeOf_15 rfl 2 rfl rfl ?_
  obtain ⟨z5, h6, hf⟩ := bd_some hf
  refine a_callVL (pc' := 19) (n := 3) (As := [.int z1, .int z3, .int a1]) (st := []) (q0 := 0) O (ctX11_placeOf hE z1 z3 a1 σ z5 h6) wm_422 wm_423 wm_424 wm_5 wm_425 (by decide +kernel) (by decide) (gM_0 E _) hc_11 rfl rfl rfl (Nat.le_of_ble_eq_true rfl) dX11_safeOf_16 rfl ?_
  exact a_lretP O hf dX11_safeOf_19
def rmX11_safe : Room := { frames := 4, cells := 0, slots := 0, locals := 89 }
def fX11_safe (a0 : Int32) (a1 : Int32) (σ : St) : Option (Int64 × St) :=
  (fX11_reads σ).bind (fun z1 => (fX11_mayFail a0 z1).bind (fun z3 => if z3 = 0 then (fX11_no (-2)).bind (fun z5 => some (z5, z1)) else ((fX11_isTwo a1).bind (fun z7 => if z7 = 0 then (fX11_no (-2)).bind (fun z9 => some (z9, z1)) else ((fX11_safeOf a0 a1 z1).bind (fun z11 => some (z11, z1)))))))
set_option maxRecDepth 100000 in
theorem ctX11_safe {E : ET} (hE : Dj (YM E)) (a0 : Int32) (a1 : Int32) (σ : St) (z : Int64 × St) (hf : fX11_safe a0 a1 σ = some z) : Ct (YM E) yX11_safe cX11_safe 3 (some .long) rmX11_safe [.ref (E.2.2.2.2 0), .int a0, .int a1] σ (some (.long z.1)) z.2 := by
  refine Ct.of hE (by decide) (Nat.le_of_ble_eq_true rfl) (fun X O => ?_)
  have O : Ok (YM E) X cX11_safe 3 RX11 (some .long) rmX11_safe (some (.long z.1)) z.2 := O
  show At (YM E) X 3 0 [(0, .ref (E.2.2.2.2 0)), (1, .int a0), (2, .int a1)] [] σ
  unfold fX11_safe at hf
  refine a_aload_n (pc' := 1) O dX11_safe_0 rfl 0 rfl rfl ?_
  obtain ⟨z1, h2, hf⟩ := bd_some hf
  refine a_callVN (pc' := 4) (n := 0) (As := []) (st := []) (q0 := 0) O (ctX11_reads hE σ z1 h2) wm_286 wm_287 wm_288 wm_5 wm_289 (by decide +kernel) (by decide) (gM_0 E _) hc_11 rfl rfl rfl (Nat.le_of_ble_eq_true rfl) dX11_safe_1 rfl ?_
  refine a_aload_n (pc' := 5) O dX11_safe_4 rfl 0 rfl rfl ?_
  refine a_iload_n (pc' := 6) O dX11_safe_5 rfl 1 rfl rfl ?_
  obtain ⟨z3, h4, hf⟩ := bd_some hf
  refine a_callVI (pc' := 9) (n := 1) (As := [.int a0]) (st := []) (q0 := 0) O (ctX11_mayFail hE a0 z1 z3 h4) wm_455 wm_456 wm_457 wm_5 wm_458 (by decide +kernel) (by decide) (gM_0 E _) hc_11 rfl rfl rfl (Nat.le_of_ble_eq_true rfl) dX11_safe_6 rfl ?_
  refine a_if_eq (pc' := 12) (tgt := 28) O dX11_safe_9 (by decide) rfl hf (fun hf => ?_) (fun hf => ?_)
  · refine a_bipush (pc' := 30) (v := (-2)) O dX11_safe_28 (by decide) rfl ?_
    obtain ⟨z5, h6, hf⟩ := bd_some hf
    refine a_callSL (pc' := 33) (n := 1) (As := [.int (-2)]) (st := []) O (ctX11_no hE (-2) z1 z5 h6) wm_433 wm_434 wm_5 wm_435 (by decide +kernel) (by decide) rfl rfl (Nat.le_of_ble_eq_true rfl) dX11_safe_30 rfl ?_
    exact a_lret O hf dX11_safe_33
  · refine a_iload_n (pc' := 13) O dX11_safe_12 rfl 2 rfl rfl ?_
    obtain ⟨z7, h8, hf⟩ := bd_some hf
    refine a_callSI (pc' := 16) (n := 1) (As := [.int a1]) (st := []) O (ctX11_isTwo hE a1 z1 z7 h8) wm_198 wm_199 wm_5 wm_200 (by decide +kernel) (by decide) rfl rfl (Nat.le_of_ble_eq_true rfl) dX11_safe_13 rfl ?_
    refine a_if_eq (pc' := 19) (tgt := 28) O dX11_safe_16 (by decide) rfl hf (fun hf => ?_) (fun hf => ?_)
    · refine a_bipush (pc' := 30) (v := (-2)) O dX11_safe_28 (by decide) rfl ?_
      obtain ⟨z9, h10, hf⟩ := bd_some hf
      refine a_callSL (pc' := 33) (n := 1) (As := [.int (-2)]) (st := []) O (ctX11_no hE (-2) z1 z9 h10) wm_433 wm_434 wm_5 wm_435 (by decide +kernel) (by decide) rfl rfl (Nat.le_of_ble_eq_true rfl) dX11_safe_30 rfl ?_
      exact a_lret O hf dX11_safe_33
    · refine a_aload_n (pc' := 20) O dX11_safe_19 rfl 0 rfl rfl ?_
      refine a_iload_n (pc' := 21) O dX11_safe_20 rfl 1 rfl rfl ?_
      refine a_iload_n (pc' := 22) O dX11_safe_21 rfl 2 rfl rfl ?_
      obtain ⟨z11, h12, hf⟩ := bd_some hf
      refine a_callVL (pc' := 25) (n := 2) (As := [.int a0, .int a1]) (st := []) (q0 := 0) O (ctX11_safeOf hE a0 a1 z1 z11 h12) wm_459 wm_460 wm_461 wm_5 wm_462 (by decide +kernel) (by decide) (gM_0 E _) hc_11 rfl rfl rfl (Nat.le_of_ble_eq_true rfl) dX11_safe_22 rfl ?_
      refine a_goto (tgt := 33) O dX11_safe_25 (by decide) ?_
      exact a_lret O hf dX11_safe_33
def rmX11_ruleOf : Room := { frames := 2, cells := 0, slots := 0, locals := 43 }
def BX11_ruleOf_173 (σ : St) (x1 : Int32) (x3 : Int32) (x4 : Int32) (x6 : Int32) (x7 : Int32) : Option Int64 :=
  if x3 = 0 then some ((σ.1 8).toInt64) else (if x3 = 1 then some 1 else (if (x1 * x4) < ((x4 - x6) + (x1 * x7)) then some 0 else (some 1)))
set_option maxRecDepth 100000 in
theorem okBX11_ruleOf_173 {E : ET} {X : XT} {z : Int64} {σ : St} (O : Ok (YM E) X cX11_ruleOf 12 RX11 (some .long) rmX11_ruleOf (some (.long z)) σ) (x1 : Int32) (x3 : Int32) (x4 : Int32) (x6 : Int32) (x7 : Int32) (hf : BX11_ruleOf_173 σ x1 x3 x4 x6 x7 = some z) : At (YM E) X 12 173 [(0, .ref (E.2.2.2.2 0)), (1, .int x1), (3, .int x3), (4, .int x4), (6, .int x6), (7, .int x7)] [] σ := by
  have hE := O.2.2.2.2.2.2.2.2.2.1
  unfold BX11_ruleOf_173 at hf
  refine a_iload_n (pc' := 174) O dX11_ruleOf_173 rfl 2 rfl rfl ?_
  refine a_if_ne (pc' := 177) (tgt := 185) O dX11_ruleOf_174 (by decide) rfl hf (fun hf => ?_) (fun hf => ?_)
  · refine a_iload_n (pc' := 186) O dX11_ruleOf_185 rfl 2 rfl rfl ?_
    refine a_iconst (pc' := 187) (v := 1) O dX11_ruleOf_186 (by decide) rfl ?_
    refine a_icmp_ne (pc' := 190) (tgt := 194) O dX11_ruleOf_187 (by decide) rfl hf (fun hf => ?_) (fun hf => ?_)
    · refine a_iload (pc' := 196) O dX11_ruleOf_194 3 rfl rfl ?_
      refine a_iload (pc' := 198) O dX11_ruleOf_196 4 rfl rfl ?_
      refine a_isub (pc' := 199) O dX11_ruleOf_198 rfl ?_
      refine a_iload_n (pc' := 200) O dX11_ruleOf_199 rfl 1 rfl rfl ?_
      refine a_iload (pc' := 202) O dX11_ruleOf_200 5 rfl rfl ?_
      refine a_imul (pc' := 203) O dX11_ruleOf_202 rfl ?_
      refine a_iadd (pc' := 204) O dX11_ruleOf_203 rfl ?_
      refine a_iload_n (pc' := 205) O dX11_ruleOf_204 rfl 1 rfl rfl ?_
      refine a_iload (pc' := 207) O dX11_ruleOf_205 3 rfl rfl ?_
      refine a_imul (pc' := 208) O dX11_ruleOf_207 rfl ?_
      refine a_icmp_gt (pc' := 211) (tgt := 215) O dX11_ruleOf_208 (by decide) rfl hf (fun hf => ?_) (fun hf => ?_)
      · refine a_lconst (pc' := 216) (v := 0) O dX11_ruleOf_215 (by decide) rfl ?_
        exact a_lretP O hf dX11_ruleOf_216
      · refine a_lconst (pc' := 212) (v := 1) O dX11_ruleOf_211 (by decide) rfl ?_
        refine a_goto (tgt := 216) O dX11_ruleOf_212 (by decide) ?_
        exact a_lretP O hf dX11_ruleOf_216
    · refine a_lconst (pc' := 191) (v := 1) O dX11_ruleOf_190 (by decide) rfl ?_
      refine a_goto (tgt := 216) O dX11_ruleOf_191 (by decide) ?_
      exact a_lretP O hf dX11_ruleOf_216
  · refine a_aload_n (pc' := 178) O dX11_ruleOf_177 rfl 0 rfl rfl ?_
    refine gfM_0_8 (pc' := 181) O dX11_ruleOf_178 rfl ?_
    refine a_i2l (pc' := 182) O dX11_ruleOf_181 rfl rfl ?_
    refine a_goto (tgt := 216) O dX11_ruleOf_182 (by decide) ?_
    exact a_lretP O hf dX11_ruleOf_216
def BX11_ruleOf_57 (σ : St) (x1 : Int32) (x3 : Int32) (x4 : Int32) (x5 : Int32) (x6 : Int32) (x7 : Int32) (x8 : Int32) (x9 : Int32) : Option Int64 :=
  (fX11_outBy x8 x5 σ).bind (fun z11 => bL ((((((x4 - x6) + (x1 * x7)).toInt64) * (x9.toInt64)) + ((x6.toInt64) * (x9.toInt64))) + (((x6.toInt64) * (x1.toInt64)) * (z11.toInt64))) (fun v13 => if 2 ≤ x3 then if (((x1.toInt64) * (x4.toInt64)) * (x9.toInt64)) < v13 then some 0 else (some 1) else ((fX11_part (((x8.toInt64) * (x9.toInt64)) + (x6.toInt64)) (x9.toInt64) x3).bind (fun z14 => some z14))))
set_option maxRecDepth 100000 in
theorem okBX11_ruleOf_57 {E : ET} {X : XT} {z : Int64} {σ : St} (O : Ok (YM E) X cX11_ruleOf 12 RX11 (some .long) rmX11_ruleOf (some (.long z)) σ) (x1 : Int32) (x3 : Int32) (x4 : Int32) (x5 : Int32) (x6 : Int32) (x7 : Int32) (x8 : Int32) (x9 : Int32) (hf : BX11_ruleOf_57 σ x1 x3 x4 x5 x6 x7 x8 x9 = some z) : At (YM E) X 12 57 [(0, .ref (E.2.2.2.2 0)), (1, .int x1), (3, .int x3), (4, .int x4), (5, .int x5), (6, .int x6), (7, .int x7), (8, .int x8), (9, .int x9)] [] σ := by
  have hE := O.2.2.2.2.2.2.2.2.2.1
  unfold BX11_ruleOf_57 at hf
  refine a_iload (pc' := 59) O dX11_ruleOf_57 3 rfl rfl ?_
  refine a_iload (pc' := 61) O dX11_ruleOf_59 5 rfl rfl ?_
  refine a_isub (pc' := 62) O dX11_ruleOf_61 rfl ?_
  refine a_iload_n (pc' := 63) O dX11_ruleOf_62 rfl 1 rfl rfl ?_
  refine a_iload (pc' := 65) O dX11_ruleOf_63 6 rfl rfl ?_
  refine a_imul (pc' := 66) O dX11_ruleOf_65 rfl ?_
  refine a_iadd (pc' := 67) O dX11_ruleOf_66 rfl ?_
  refine a_i2l (pc' := 68) O dX11_ruleOf_67 rfl rfl ?_
  refine a_iload (pc' := 70) O dX11_ruleOf_68 8 rfl rfl ?_
  refine a_i2l (pc' := 71) O dX11_ruleOf_70 rfl rfl ?_
  refine a_lmul (pc' := 72) O dX11_ruleOf_71 rfl ?_
  refine a_iload (pc' := 74) O dX11_ruleOf_72 5 rfl rfl ?_
  refine a_i2l (pc' := 75) O dX11_ruleOf_74 rfl rfl ?_
  refine a_iload (pc' := 77) O dX11_ruleOf_75 8 rfl rfl ?_
  refine a_i2l (pc' := 78) O dX11_ruleOf_77 rfl rfl ?_
  refine a_lmul (pc' := 79) O dX11_ruleOf_78 rfl ?_
  refine a_ladd (pc' := 80) O dX11_ruleOf_79 rfl ?_
  refine a_iload (pc' := 82) O dX11_ruleOf_80 5 rfl rfl ?_
  refine a_i2l (pc' := 83) O dX11_ruleOf_82 rfl rfl ?_
  refine a_iload_n (pc' := 84) O dX11_ruleOf_83 rfl 1 rfl rfl ?_
  refine a_i2l (pc' := 85) O dX11_ruleOf_84 rfl rfl ?_
  refine a_lmul (pc' := 86) O dX11_ruleOf_85 rfl ?_
  refine a_aload_n (pc' := 87) O dX11_ruleOf_86 rfl 0 rfl rfl ?_
  refine a_iload (pc' := 89) O dX11_ruleOf_87 7 rfl rfl ?_
  refine a_iload (pc' := 91) O dX11_ruleOf_89 4 rfl rfl ?_
  obtain ⟨z11, h12, hf⟩ := bd_some hf
  refine a_callVI (pc' := 94) (n := 2) (As := [.int x8, .int x5]) (st := [.long ((x6.toInt64) * (x1.toInt64)), .long (((((x4 - x6) + (x1 * x7)).toInt64) * (x9.toInt64)) + ((x6.toInt64) * (x9.toInt64)))]) (q0 := 0) O (ctX11_outBy hE x8 x5 σ z11 h12) wm_426 wm_427 wm_428 wm_5 wm_429 (by decide +kernel) (by decide) (gM_0 E _) hc_11 rfl rfl rfl (Nat.le_of_ble_eq_true rfl) dX11_ruleOf_91 rfl ?_
  refine a_i2l (pc' := 95) O dX11_ruleOf_94 rfl rfl ?_
  refine a_lmul (pc' := 96) O dX11_ruleOf_95 rfl ?_
  refine a_ladd (pc' := 97) O dX11_ruleOf_96 rfl ?_
  refine a_topl hf (fun v13 hf => ?_)
  refine a_lstore (pc' := 99) (lv' := [(10, .long v13), (0, .ref (E.2.2.2.2 0)), (1, .int x1), (3, .int x3), (4, .int x4), (5, .int x5), (6, .int x6), (7, .int x7), (8, .int x8), (9, .int x9)]) O dX11_ruleOf_97 (by decide) rfl rfl ?_
  refine a_iload_n (pc' := 100) O dX11_ruleOf_99 rfl 3 rfl rfl ?_
  refine a_iconst (pc' := 101) (v := 2) O dX11_ruleOf_100 (by decide) rfl ?_
  refine a_icmp_ge (pc' := 104) (tgt := 125) O dX11_ruleOf_101 (by decide) rfl hf (fun hf => ?_) (fun hf => ?_)
  · refine a_lload (pc' := 127) O dX11_ruleOf_125 0 rfl rfl ?_
    refine a_iload_n (pc' := 128) O dX11_ruleOf_127 rfl 2 rfl rfl ?_
    refine a_i2l (pc' := 129) O dX11_ruleOf_128 rfl rfl ?_
    refine a_iload (pc' := 131) O dX11_ruleOf_129 4 rfl rfl ?_
    refine a_i2l (pc' := 132) O dX11_ruleOf_131 rfl rfl ?_
    refine a_lmul (pc' := 133) O dX11_ruleOf_132 rfl ?_
    refine a_iload (pc' := 135) O dX11_ruleOf_133 9 rfl rfl ?_
    refine a_i2l (pc' := 136) O dX11_ruleOf_135 rfl rfl ?_
    refine a_lmul (pc' := 137) O dX11_ruleOf_136 rfl ?_
    refine a_lcmp_gt (pc' := 141) (pc1 := 138) (tgt := 145) O dX11_ruleOf_137 rfl dX11_ruleOf_138 (by decide) rfl hf (fun hf => ?_) (fun hf => ?_)
    · refine a_lconst (pc' := 146) (v := 0) O dX11_ruleOf_145 (by decide) rfl ?_
      exact a_lretP O hf dX11_ruleOf_146
    · refine a_lconst (pc' := 142) (v := 1) O dX11_ruleOf_141 (by decide) rfl ?_
      refine a_goto (tgt := 146) O dX11_ruleOf_142 (by decide) ?_
      exact a_lretP O hf dX11_ruleOf_146
  · refine a_iload (pc' := 106) O dX11_ruleOf_104 8 rfl rfl ?_
    refine a_i2l (pc' := 107) O dX11_ruleOf_106 rfl rfl ?_
    refine a_iload (pc' := 109) O dX11_ruleOf_107 9 rfl rfl ?_
    refine a_i2l (pc' := 110) O dX11_ruleOf_109 rfl rfl ?_
    refine a_lmul (pc' := 111) O dX11_ruleOf_110 rfl ?_
    refine a_iload (pc' := 113) O dX11_ruleOf_111 6 rfl rfl ?_
    refine a_i2l (pc' := 114) O dX11_ruleOf_113 rfl rfl ?_
    refine a_ladd (pc' := 115) O dX11_ruleOf_114 rfl ?_
    refine a_iload (pc' := 117) O dX11_ruleOf_115 9 rfl rfl ?_
    refine a_i2l (pc' := 118) O dX11_ruleOf_117 rfl rfl ?_
    refine a_iload_n (pc' := 119) O dX11_ruleOf_118 rfl 3 rfl rfl ?_
    obtain ⟨z14, h15, hf⟩ := bd_some hf
    refine a_callSL (pc' := 122) (n := 3) (As := [.long (((x8.toInt64) * (x9.toInt64)) + (x6.toInt64)), .long (x9.toInt64), .int x3]) (st := []) O (ctX11_part hE (((x8.toInt64) * (x9.toInt64)) + (x6.toInt64)) (x9.toInt64) x3 σ z14 h15) wm_430 wm_431 wm_5 wm_432 (by decide +kernel) (by decide) rfl rfl (Nat.le_of_ble_eq_true rfl) dX11_ruleOf_119 rfl ?_
    refine a_goto (tgt := 146) O dX11_ruleOf_122 (by decide) ?_
    exact a_lretP O hf dX11_ruleOf_146
def BX11_ruleOf_28 (k28 : Int32 → Int32 → Int32 → Int32 → Int32 → Int32 → Int32 → Option Int64) (σ : St) (x1 : Int32) (x3 : Int32) (x4 : Int32) (x5 : Int32) (x6 : Int32) (x7 : Int32) (x8 : Int32) : Option Int64 :=
  if (σ.1 8) ≤ x8 then BX11_ruleOf_173 σ x1 x3 x4 x6 x7 else (gIn (3 * x8) 48 (bI (x1 * (σ.2.2 7 (3 * x8).toNatClampNeg)) (fun v5 => if v5 ≤ x6 then bI (x6 - v5) (fun v6 => (fX11_outBy x8 x5 σ).bind (fun z7 => bI (x7 + z7) (fun v9 => bI (x8 + 1) (fun v10 => k28 x1 x3 x4 x5 v6 v9 v10)))) else (BX11_ruleOf_57 σ x1 x3 x4 x5 x6 x7 x8 v5))))
set_option maxRecDepth 100000 in
theorem okBX11_ruleOf_28 {E : ET} {X : XT} {z : Int64} {σ : St} (O : Ok (YM E) X cX11_ruleOf 12 RX11 (some .long) rmX11_ruleOf (some (.long z)) σ) (k28 : Int32 → Int32 → Int32 → Int32 → Int32 → Int32 → Int32 → Option Int64) (hk28 : ∀ (x1 : Int32) (x3 : Int32) (x4 : Int32) (x5 : Int32) (x6 : Int32) (x7 : Int32) (x8 : Int32), k28 x1 x3 x4 x5 x6 x7 x8 = some z → At (YM E) X 12 28 [(0, .ref (E.2.2.2.2 0)), (1, .int x1), (3, .int x3), (4, .int x4), (5, .int x5), (6, .int x6), (7, .int x7), (8, .int x8)] [] σ) (x1 : Int32) (x3 : Int32) (x4 : Int32) (x5 : Int32) (x6 : Int32) (x7 : Int32) (x8 : Int32) (hf : BX11_ruleOf_28 k28 σ x1 x3 x4 x5 x6 x7 x8 = some z) : At (YM E) X 12 28 [(0, .ref (E.2.2.2.2 0)), (1, .int x1), (3, .int x3), (4, .int x4), (5, .int x5), (6, .int x6), (7, .int x7), (8, .int x8)] [] σ := by
  have hE := O.2.2.2.2.2.2.2.2.2.1
  unfold BX11_ruleOf_28 at hf
  refine a_iload (pc' := 30) O dX11_ruleOf_28 7 rfl rfl ?_
  refine a_aload_n (pc' := 31) O dX11_ruleOf_30 rfl 0 rfl rfl ?_
  refine gfM_0_8 (pc' := 34) O dX11_ruleOf_31 rfl ?_
  refine a_icmp_ge (pc' := 37) (tgt := 173) O dX11_ruleOf_34 (by decide) rfl hf (fun hf => ?_) (fun hf => ?_)
  · exact a_sub [0, 1, 2, 3, 5, 6] rfl (okBX11_ruleOf_173 O x1 x3 x4 x6 x7 hf)
  · refine a_iload_n (pc' := 38) O dX11_ruleOf_37 rfl 1 rfl rfl ?_
    refine a_aload_n (pc' := 39) O dX11_ruleOf_38 rfl 0 rfl rfl ?_
    refine gfM_0_9 (pc' := 42) O dX11_ruleOf_39 rfl ?_
    refine a_iconst (pc' := 43) (v := 3) O dX11_ruleOf_42 (by decide) rfl ?_
    refine a_iload (pc' := 45) O dX11_ruleOf_43 7 rfl rfl ?_
    refine a_imul (pc' := 46) O dX11_ruleOf_45 rfl ?_
    refine laM_7 (pc' := 47) O hf dX11_ruleOf_46 rfl (fun hf => ?_)
    refine a_imul (pc' := 48) O dX11_ruleOf_47 rfl ?_
    refine a_topi hf (fun v5 hf => ?_)
    refine a_istore (pc' := 50) (lv' := [(9, .int v5), (0, .ref (E.2.2.2.2 0)), (1, .int x1), (3, .int x3), (4, .int x4), (5, .int x5), (6, .int x6), (7, .int x7), (8, .int x8)]) O dX11_ruleOf_48 (by decide) rfl rfl ?_
    refine a_iload (pc' := 52) O dX11_ruleOf_50 6 rfl rfl ?_
    refine a_iload (pc' := 54) O dX11_ruleOf_52 0 rfl rfl ?_
    refine a_icmp_ge (pc' := 57) (tgt := 147) O dX11_ruleOf_54 (by decide) rfl hf (fun hf => ?_) (fun hf => ?_)
    · refine a_iload (pc' := 149) O dX11_ruleOf_147 6 rfl rfl ?_
      refine a_iload (pc' := 151) O dX11_ruleOf_149 0 rfl rfl ?_
      refine a_isub (pc' := 152) O dX11_ruleOf_151 rfl ?_
      refine a_topi hf (fun v6 hf => ?_)
      refine a_istore (pc' := 154) (lv' := [(6, .int v6), (9, .int v5), (0, .ref (E.2.2.2.2 0)), (1, .int x1), (3, .int x3), (4, .int x4), (5, .int x5), (7, .int x7), (8, .int x8)]) O dX11_ruleOf_152 (by decide) rfl rfl ?_
      refine a_iload (pc' := 156) O dX11_ruleOf_154 7 rfl rfl ?_
      refine a_aload_n (pc' := 157) O dX11_ruleOf_156 rfl 2 rfl rfl ?_
      refine a_iload (pc' := 159) O dX11_ruleOf_157 8 rfl rfl ?_
      refine a_iload (pc' := 161) O dX11_ruleOf_159 6 rfl rfl ?_
      obtain ⟨z7, h8, hf⟩ := bd_some hf
      refine a_callVI (pc' := 164) (n := 2) (As := [.int x8, .int x5]) (st := [.int x7]) (q0 := 0) O (ctX11_outBy hE x8 x5 σ z7 h8) wm_426 wm_427 wm_428 wm_5 wm_429 (by decide +kernel) (by decide) (gM_0 E _) hc_11 rfl rfl rfl (Nat.le_of_ble_eq_true rfl) dX11_ruleOf_161 rfl ?_
      refine a_iadd (pc' := 165) O dX11_ruleOf_164 rfl ?_
      refine a_topi hf (fun v9 hf => ?_)
      refine a_istore (pc' := 167) (lv' := [(7, .int v9), (6, .int v6), (9, .int v5), (0, .ref (E.2.2.2.2 0)), (1, .int x1), (3, .int x3), (4, .int x4), (5, .int x5), (8, .int x8)]) O dX11_ruleOf_165 (by decide) rfl rfl ?_
      refine a_iincB (pc' := 170) (lv' := fun v10 => [(8, .int v10), (7, .int v9), (6, .int v6), (9, .int v5), (0, .ref (E.2.2.2.2 0)), (1, .int x1), (3, .int x3), (4, .int x4), (5, .int x5)]) (c0 := 1) O dX11_ruleOf_167 8 rfl (by decide) (by decide) (fun _ => rfl) rfl hf (fun v10 hf => ?_)
      refine a_goto (tgt := 28) O dX11_ruleOf_170 (by decide) ?_
      exact a_sub [4, 5, 6, 7, 8, 2, 1, 0] rfl (hk28 x1 x3 x4 x5 v6 v9 v10 hf)
    · exact a_sub [1, 2, 3, 4, 5, 6, 7, 8, 0] rfl (okBX11_ruleOf_57 O x1 x3 x4 x5 x6 x7 x8 v5 hf)
def LX11_ruleOf_28 (σ : St) : Nat → Int32 → Int32 → Int32 → Int32 → Int32 → Int32 → Int32 → Option Int64
  | 0, _, _, _, _, _, _, _ => none
  | n + 1, x1, x3, x4, x5, x6, x7, x8 => BX11_ruleOf_28 (LX11_ruleOf_28 σ n) σ x1 x3 x4 x5 x6 x7 x8
theorem okLX11_ruleOf_28 {E : ET} {X : XT} {z : Int64} {σ : St} (O : Ok (YM E) X cX11_ruleOf 12 RX11 (some .long) rmX11_ruleOf (some (.long z)) σ) : ∀ (n : Nat) (x1 : Int32) (x3 : Int32) (x4 : Int32) (x5 : Int32) (x6 : Int32) (x7 : Int32) (x8 : Int32), LX11_ruleOf_28 σ n x1 x3 x4 x5 x6 x7 x8 = some z → At (YM E) X 12 28 [(0, .ref (E.2.2.2.2 0)), (1, .int x1), (3, .int x3), (4, .int x4), (5, .int x5), (6, .int x6), (7, .int x7), (8, .int x8)] [] σ := by
  intro n
  induction n with
  | zero =>
    intro x1 x3 x4 x5 x6 x7 x8 hf
    rw [LX11_ruleOf_28] at hf
    cases hf
  | succ n ih =>
    intro x1 x3 x4 x5 x6 x7 x8 hf
    rw [LX11_ruleOf_28] at hf
    exact okBX11_ruleOf_28 O (LX11_ruleOf_28 σ n) ih x1 x3 x4 x5 x6 x7 x8 hf
def fX11_ruleOf (a0 : Int32) (a1 : Int32) (a2 : Int32) (σ : St) : Option Int64 :=
  (fX11_leastLamp σ).bind (fun z1 => (fX11_toLight ((σ.1 12) - a1) σ).bind (fun z3 => LX11_ruleOf_28 σ fu a0 a2 z1 z3 z1 0 0))
set_option maxRecDepth 100000 in
theorem ctX11_ruleOf {E : ET} (hE : Dj (YM E)) (a0 : Int32) (a1 : Int32) (a2 : Int32) (σ : St) (z : Int64) (hf : fX11_ruleOf a0 a1 a2 σ = some z) : Ct (YM E) yX11_ruleOf cX11_ruleOf 12 (some .long) rmX11_ruleOf [.ref (E.2.2.2.2 0), .int a0, .int a1, .int a2] σ (some (.long z)) σ := by
  refine Ct.of hE (by decide) (Nat.le_of_ble_eq_true rfl) (fun X O => ?_)
  have O : Ok (YM E) X cX11_ruleOf 12 RX11 (some .long) rmX11_ruleOf (some (.long z)) σ := O
  show At (YM E) X 12 0 [(0, .ref (E.2.2.2.2 0)), (1, .int a0), (2, .int a1), (3, .int a2)] [] σ
  unfold fX11_ruleOf at hf
  refine a_aload_n (pc' := 1) O dX11_ruleOf_0 rfl 0 rfl rfl ?_
  obtain ⟨z1, h2, hf⟩ := bd_some hf
  refine a_callVI (pc' := 4) (n := 0) (As := []) (st := []) (q0 := 0) O (ctX11_leastLamp hE σ z1 h2) wm_463 wm_464 wm_465 wm_5 wm_466 (by decide +kernel) (by decide) (gM_0 E _) hc_11 rfl rfl rfl (Nat.le_of_ble_eq_true rfl) dX11_ruleOf_1 rfl ?_
  refine a_istore (pc' := 6) (lv' := [(4, .int z1), (0, .ref (E.2.2.2.2 0)), (1, .int a0), (2, .int a1), (3, .int a2)]) O dX11_ruleOf_4 (by decide) rfl rfl ?_
  refine a_aload_n (pc' := 7) O dX11_ruleOf_6 rfl 1 rfl rfl ?_
  refine a_aload_n (pc' := 8) O dX11_ruleOf_7 rfl 1 rfl rfl ?_
  refine gfM_0_12 (pc' := 11) O dX11_ruleOf_8 rfl ?_
  refine a_iload_n (pc' := 12) O dX11_ruleOf_11 rfl 3 rfl rfl ?_
  refine a_isub (pc' := 13) O dX11_ruleOf_12 rfl ?_
  obtain ⟨z3, h4, hf⟩ := bd_some hf
  refine a_callVI (pc' := 16) (n := 1) (As := [.int ((σ.1 12) - a1)]) (st := []) (q0 := 0) O (ctX11_toLight hE ((σ.1 12) - a1) σ z3 h4) wm_470 wm_471 wm_472 wm_5 wm_473 (by decide +kernel) (by decide) (gM_0 E _) hc_11 rfl rfl rfl (Nat.le_of_ble_eq_true rfl) dX11_ruleOf_13 rfl ?_
  refine a_istore (pc' := 18) (lv' := [(5, .int z3), (4, .int z1), (0, .ref (E.2.2.2.2 0)), (1, .int a0), (2, .int a1), (3, .int a2)]) O dX11_ruleOf_16 (by decide) rfl rfl ?_
  refine a_iload (pc' := 20) O dX11_ruleOf_18 1 rfl rfl ?_
  refine a_istore (pc' := 22) (lv' := [(6, .int z1), (5, .int z3), (4, .int z1), (0, .ref (E.2.2.2.2 0)), (1, .int a0), (2, .int a1), (3, .int a2)]) O dX11_ruleOf_20 (by decide) rfl rfl ?_
  refine a_iconst (pc' := 23) (v := 0) O dX11_ruleOf_22 (by decide) rfl ?_
  refine a_istore (pc' := 25) (lv' := [(7, .int 0), (6, .int z1), (5, .int z3), (4, .int z1), (0, .ref (E.2.2.2.2 0)), (1, .int a0), (2, .int a1), (3, .int a2)]) O dX11_ruleOf_23 (by decide) rfl rfl ?_
  refine a_iconst (pc' := 26) (v := 0) O dX11_ruleOf_25 (by decide) rfl ?_
  refine a_istore (pc' := 28) (lv' := [(8, .int 0), (7, .int 0), (6, .int z1), (5, .int z3), (4, .int z1), (0, .ref (E.2.2.2.2 0)), (1, .int a0), (2, .int a1), (3, .int a2)]) O dX11_ruleOf_26 (by decide) rfl rfl ?_
  exact a_sub [5, 6, 8, 4, 3, 2, 1, 0] rfl (okLX11_ruleOf_28 O fu a0 a2 z1 z3 z1 0 0 hf)
def rmX11_rule : Room := { frames := 4, cells := 0, slots := 0, locals := 89 }
def fX11_rule (a0 : Int32) (a1 : Int32) (a2 : Int32) (σ : St) : Option (Int64 × St) :=
  (fX11_reads σ).bind (fun z1 => (fX11_in (a0.toInt64) 2 9).bind (fun z3 => if z3 = 0 then (fX11_no (-2)).bind (fun z5 => some (z5, z1)) else ((fX11_mayFail a1 z1).bind (fun z7 => if z7 = 0 then (fX11_no (-2)).bind (fun z9 => some (z9, z1)) else ((fX11_in (a2.toInt64) 0 2).bind (fun z11 => if z11 = 0 then (fX11_no (-2)).bind (fun z13 => some (z13, z1)) else ((fX11_ruleOf a0 a1 a2 z1).bind (fun z15 => some (z15, z1)))))))))
set_option maxRecDepth 100000 in
theorem ctX11_rule {E : ET} (hE : Dj (YM E)) (a0 : Int32) (a1 : Int32) (a2 : Int32) (σ : St) (z : Int64 × St) (hf : fX11_rule a0 a1 a2 σ = some z) : Ct (YM E) yX11_rule cX11_rule 4 (some .long) rmX11_rule [.ref (E.2.2.2.2 0), .int a0, .int a1, .int a2] σ (some (.long z.1)) z.2 := by
  refine Ct.of hE (by decide) (Nat.le_of_ble_eq_true rfl) (fun X O => ?_)
  have O : Ok (YM E) X cX11_rule 4 RX11 (some .long) rmX11_rule (some (.long z.1)) z.2 := O
  show At (YM E) X 4 0 [(0, .ref (E.2.2.2.2 0)), (1, .int a0), (2, .int a1), (3, .int a2)] [] σ
  unfold fX11_rule at hf
  refine a_aload_n (pc' := 1) O dX11_rule_0 rfl 0 rfl rfl ?_
  obtain ⟨z1, h2, hf⟩ := bd_some hf
  refine a_callVN (pc' := 4) (n := 0) (As := []) (st := []) (q0 := 0) O (ctX11_reads hE σ z1 h2) wm_286 wm_287 wm_288 wm_5 wm_289 (by decide +kernel) (by decide) (gM_0 E _) hc_11 rfl rfl rfl (Nat.le_of_ble_eq_true rfl) dX11_rule_1 rfl ?_
  refine a_iload_n (pc' := 5) O dX11_rule_4 rfl 1 rfl rfl ?_
  refine a_i2l (pc' := 6) O dX11_rule_5 rfl rfl ?_
  refine a_ldc2 (pc' := 9) (v := 2) O wm_487 dX11_rule_6 rfl ?_
  refine a_ldc2 (pc' := 12) (v := 9) O wm_254 dX11_rule_9 rfl ?_
  obtain ⟨z3, h4, hf⟩ := bd_some hf
  refine a_callSI (pc' := 15) (n := 3) (As := [.long (a0.toInt64), .long 2, .long 9]) (st := []) O (ctX11_in hE (a0.toInt64) 2 9 z1 z3 h4) wm_201 wm_202 wm_5 wm_203 (by decide +kernel) (by decide) rfl rfl (Nat.le_of_ble_eq_true rfl) dX11_rule_12 rfl ?_
  refine a_if_eq (pc' := 18) (tgt := 48) O dX11_rule_15 (by decide) rfl hf (fun hf => ?_) (fun hf => ?_)
  · refine a_bipush (pc' := 50) (v := (-2)) O dX11_rule_48 (by decide) rfl ?_
    obtain ⟨z5, h6, hf⟩ := bd_some hf
    refine a_callSL (pc' := 53) (n := 1) (As := [.int (-2)]) (st := []) O (ctX11_no hE (-2) z1 z5 h6) wm_433 wm_434 wm_5 wm_435 (by decide +kernel) (by decide) rfl rfl (Nat.le_of_ble_eq_true rfl) dX11_rule_50 rfl ?_
    exact a_lret O hf dX11_rule_53
  · refine a_aload_n (pc' := 19) O dX11_rule_18 rfl 0 rfl rfl ?_
    refine a_iload_n (pc' := 20) O dX11_rule_19 rfl 2 rfl rfl ?_
    obtain ⟨z7, h8, hf⟩ := bd_some hf
    refine a_callVI (pc' := 23) (n := 1) (As := [.int a1]) (st := []) (q0 := 0) O (ctX11_mayFail hE a1 z1 z7 h8) wm_455 wm_456 wm_457 wm_5 wm_458 (by decide +kernel) (by decide) (gM_0 E _) hc_11 rfl rfl rfl (Nat.le_of_ble_eq_true rfl) dX11_rule_20 rfl ?_
    refine a_if_eq (pc' := 26) (tgt := 48) O dX11_rule_23 (by decide) rfl hf (fun hf => ?_) (fun hf => ?_)
    · refine a_bipush (pc' := 50) (v := (-2)) O dX11_rule_48 (by decide) rfl ?_
      obtain ⟨z9, h10, hf⟩ := bd_some hf
      refine a_callSL (pc' := 53) (n := 1) (As := [.int (-2)]) (st := []) O (ctX11_no hE (-2) z1 z9 h10) wm_433 wm_434 wm_5 wm_435 (by decide +kernel) (by decide) rfl rfl (Nat.le_of_ble_eq_true rfl) dX11_rule_50 rfl ?_
      exact a_lret O hf dX11_rule_53
    · refine a_iload_n (pc' := 27) O dX11_rule_26 rfl 3 rfl rfl ?_
      refine a_i2l (pc' := 28) O dX11_rule_27 rfl rfl ?_
      refine a_lconst (pc' := 29) (v := 0) O dX11_rule_28 (by decide) rfl ?_
      refine a_ldc2 (pc' := 32) (v := 2) O wm_487 dX11_rule_29 rfl ?_
      obtain ⟨z11, h12, hf⟩ := bd_some hf
      refine a_callSI (pc' := 35) (n := 3) (As := [.long (a2.toInt64), .long 0, .long 2]) (st := []) O (ctX11_in hE (a2.toInt64) 0 2 z1 z11 h12) wm_201 wm_202 wm_5 wm_203 (by decide +kernel) (by decide) rfl rfl (Nat.le_of_ble_eq_true rfl) dX11_rule_32 rfl ?_
      refine a_if_eq (pc' := 38) (tgt := 48) O dX11_rule_35 (by decide) rfl hf (fun hf => ?_) (fun hf => ?_)
      · refine a_bipush (pc' := 50) (v := (-2)) O dX11_rule_48 (by decide) rfl ?_
        obtain ⟨z13, h14, hf⟩ := bd_some hf
        refine a_callSL (pc' := 53) (n := 1) (As := [.int (-2)]) (st := []) O (ctX11_no hE (-2) z1 z13 h14) wm_433 wm_434 wm_5 wm_435 (by decide +kernel) (by decide) rfl rfl (Nat.le_of_ble_eq_true rfl) dX11_rule_50 rfl ?_
        exact a_lret O hf dX11_rule_53
      · refine a_aload_n (pc' := 39) O dX11_rule_38 rfl 0 rfl rfl ?_
        refine a_iload_n (pc' := 40) O dX11_rule_39 rfl 1 rfl rfl ?_
        refine a_iload_n (pc' := 41) O dX11_rule_40 rfl 2 rfl rfl ?_
        refine a_iload_n (pc' := 42) O dX11_rule_41 rfl 3 rfl rfl ?_
        obtain ⟨z15, h16, hf⟩ := bd_some hf
        refine a_callVL (pc' := 45) (n := 3) (As := [.int a0, .int a1, .int a2]) (st := []) (q0 := 0) O (ctX11_ruleOf hE a0 a1 a2 z1 z15 h16) wm_488 wm_489 wm_490 wm_5 wm_491 (by decide +kernel) (by decide) (gM_0 E _) hc_11 rfl rfl rfl (Nat.le_of_ble_eq_true rfl) dX11_rule_42 rfl ?_
        refine a_goto (tgt := 53) O dX11_rule_45 (by decide) ?_
        exact a_lret O hf dX11_rule_53
def rmX11_inAll : Room := { frames := 0, cells := 0, slots := 0, locals := 0 }
def BX11_inAll_4 (k4 : Int32 → Int32 → Option Int32) (σ : St) (x1 : Int32) (x2 : Int32) : Option Int32 :=
  if (σ.1 8) ≤ x2 then some x1 else (gIn (3 * x2) 48 (bI (x1 + (σ.2.2 7 (3 * x2).toNatClampNeg)) (fun v1 => bI (x2 + 1) (fun v2 => k4 v1 v2))))
set_option maxRecDepth 100000 in
theorem okBX11_inAll_4 {E : ET} {X : XT} {z : Int32} {σ : St} (O : Ok (YM E) X cX11_inAll 3 RX11 (some .int) rmX11_inAll (some (.int z)) σ) (k4 : Int32 → Int32 → Option Int32) (hk4 : ∀ (x1 : Int32) (x2 : Int32), k4 x1 x2 = some z → At (YM E) X 3 4 [(0, .ref (E.2.2.2.2 0)), (1, .int x1), (2, .int x2)] [] σ) (x1 : Int32) (x2 : Int32) (hf : BX11_inAll_4 k4 σ x1 x2 = some z) : At (YM E) X 3 4 [(0, .ref (E.2.2.2.2 0)), (1, .int x1), (2, .int x2)] [] σ := by
  have hE := O.2.2.2.2.2.2.2.2.2.1
  unfold BX11_inAll_4 at hf
  refine a_iload_n (pc' := 5) O dX11_inAll_4 rfl 2 rfl rfl ?_
  refine a_aload_n (pc' := 6) O dX11_inAll_5 rfl 0 rfl rfl ?_
  refine gfM_0_8 (pc' := 9) O dX11_inAll_6 rfl ?_
  refine a_icmp_ge (pc' := 12) (tgt := 29) O dX11_inAll_9 (by decide) rfl hf (fun hf => ?_) (fun hf => ?_)
  · refine a_iload_n (pc' := 30) O dX11_inAll_29 rfl 1 rfl rfl ?_
    exact a_iretP O hf dX11_inAll_30
  · refine a_iload_n (pc' := 13) O dX11_inAll_12 rfl 1 rfl rfl ?_
    refine a_aload_n (pc' := 14) O dX11_inAll_13 rfl 0 rfl rfl ?_
    refine gfM_0_9 (pc' := 17) O dX11_inAll_14 rfl ?_
    refine a_iconst (pc' := 18) (v := 3) O dX11_inAll_17 (by decide) rfl ?_
    refine a_iload_n (pc' := 19) O dX11_inAll_18 rfl 2 rfl rfl ?_
    refine a_imul (pc' := 20) O dX11_inAll_19 rfl ?_
    refine laM_7 (pc' := 21) O hf dX11_inAll_20 rfl (fun hf => ?_)
    refine a_iadd (pc' := 22) O dX11_inAll_21 rfl ?_
    refine a_topi hf (fun v1 hf => ?_)
    refine a_istore_n (pc' := 23) (lv' := [(1, .int v1), (0, .ref (E.2.2.2.2 0)), (2, .int x2)]) O dX11_inAll_22 rfl (by decide) rfl rfl ?_
    refine a_iincB (pc' := 26) (lv' := fun v2 => [(2, .int v2), (1, .int v1), (0, .ref (E.2.2.2.2 0))]) (c0 := 1) O dX11_inAll_23 2 rfl (by decide) (by decide) (fun _ => rfl) rfl hf (fun v2 hf => ?_)
    refine a_goto (tgt := 4) O dX11_inAll_26 (by decide) ?_
    exact a_sub [2, 1, 0] rfl (hk4 v1 v2 hf)
def LX11_inAll_4 (σ : St) : Nat → Int32 → Int32 → Option Int32
  | 0, _, _ => none
  | n + 1, x1, x2 => BX11_inAll_4 (LX11_inAll_4 σ n) σ x1 x2
theorem okLX11_inAll_4 {E : ET} {X : XT} {z : Int32} {σ : St} (O : Ok (YM E) X cX11_inAll 3 RX11 (some .int) rmX11_inAll (some (.int z)) σ) : ∀ (n : Nat) (x1 : Int32) (x2 : Int32), LX11_inAll_4 σ n x1 x2 = some z → At (YM E) X 3 4 [(0, .ref (E.2.2.2.2 0)), (1, .int x1), (2, .int x2)] [] σ := by
  intro n
  induction n with
  | zero =>
    intro x1 x2 hf
    rw [LX11_inAll_4] at hf
    cases hf
  | succ n ih =>
    intro x1 x2 hf
    rw [LX11_inAll_4] at hf
    exact okBX11_inAll_4 O (LX11_inAll_4 σ n) ih x1 x2 hf
def fX11_inAll (σ : St) : Option Int32 :=
  LX11_inAll_4 σ fu 0 0
set_option maxRecDepth 100000 in
theorem ctX11_inAll {E : ET} (hE : Dj (YM E)) (σ : St) (z : Int32) (hf : fX11_inAll σ = some z) : Ct (YM E) yX11_inAll cX11_inAll 3 (some .int) rmX11_inAll [.ref (E.2.2.2.2 0)] σ (some (.int z)) σ := by
  refine Ct.of hE (by decide) (Nat.le_of_ble_eq_true rfl) (fun X O => ?_)
  have O : Ok (YM E) X cX11_inAll 3 RX11 (some .int) rmX11_inAll (some (.int z)) σ := O
  show At (YM E) X 3 0 [(0, .ref (E.2.2.2.2 0))] [] σ
  unfold fX11_inAll at hf
  refine a_iconst (pc' := 1) (v := 0) O dX11_inAll_0 (by decide) rfl ?_
  refine a_istore_n (pc' := 2) (lv' := [(1, .int 0), (0, .ref (E.2.2.2.2 0))]) O dX11_inAll_1 rfl (by decide) rfl rfl ?_
  refine a_iconst (pc' := 3) (v := 0) O dX11_inAll_2 (by decide) rfl ?_
  refine a_istore_n (pc' := 4) (lv' := [(2, .int 0), (1, .int 0), (0, .ref (E.2.2.2.2 0))]) O dX11_inAll_3 rfl (by decide) rfl rfl ?_
  exact a_sub [2, 1, 0] rfl (okLX11_inAll_4 O fu 0 0 hf)
