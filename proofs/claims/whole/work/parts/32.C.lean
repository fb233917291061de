def rmX8_search : Room := { frames := 2, cells := 0, slots := 0, locals := 46 }
def BX8_search_90 (k38 : St → Int32 → Int32 → Int32 → Int32 → Int32 → Int32 → Option St) (σ : St) (x2 : Int32) (x3 : Int32) (x4 : Int32) (x5 : Int32) (x7 : Int32) (x8 : Int32) : Option St :=
  bS (sI σ 12 (x4 + x8)) (fun σ13 => bS (sI σ13 13 x7) (fun σ14 => bI (x7 + 1) (fun v15 => k38 σ14 x2 x3 x4 x5 x8 v15)))
set_option maxRecDepth 100000 in
theorem okBX8_search_90 {E : ET} {X : XT} {z : St} (O : Ok (YC E) X cX8_search 9 RX8 none rmX8_search none z) (k38 : St → Int32 → Int32 → Int32 → Int32 → Int32 → Int32 → Option St) (hk38 : ∀ (σ : St) (x2 : Int32) (x3 : Int32) (x4 : Int32) (x5 : Int32) (x6 : Int32) (x7 : Int32), k38 σ x2 x3 x4 x5 x6 x7 = some z → At (YC E) X 9 38 [(0, .ref (E.2.2.2.2 13)), (1, .ref (E.2.2.2.2 5)), (2, .int x2), (3, .int x3), (4, .int x4), (5, .int x5), (6, .int x6), (7, .int x7)] [] σ) (σ : St) (x2 : Int32) (x3 : Int32) (x4 : Int32) (x5 : Int32) (x7 : Int32) (x8 : Int32) (hf : BX8_search_90 k38 σ x2 x3 x4 x5 x7 x8 = some z) : At (YC E) X 9 90 [(0, .ref (E.2.2.2.2 13)), (1, .ref (E.2.2.2.2 5)), (2, .int x2), (3, .int x3), (4, .int x4), (5, .int x5), (7, .int x7), (8, .int x8)] [] σ := by
  have hE := O.2.2.2.2.2.2.2.2.2.1
  unfold BX8_search_90 at hf
  refine a_iload (pc' := 92) O dX8_search_90 7 rfl rfl ?_
  refine a_istore (pc' := 94) (lv' := [(6, .int x8), (0, .ref (E.2.2.2.2 13)), (1, .ref (E.2.2.2.2 5)), (2, .int x2), (3, .int x3), (4, .int x4), (5, .int x5), (7, .int x7), (8, .int x8)]) O dX8_search_92 (by decide) rfl rfl ?_
  refine a_aload_n (pc' := 95) O dX8_search_94 rfl 1 rfl rfl ?_
  refine a_iload (pc' := 97) O dX8_search_95 5 rfl rfl ?_
  refine a_iload (pc' := 99) O dX8_search_97 8 rfl rfl ?_
  refine a_iadd (pc' := 100) O dX8_search_99 rfl ?_
  refine pfC_13_0 (pc' := 103) O hf dX8_search_100 rfl (fun σ13 hf => ?_)
  refine a_aload_n (pc' := 104) O dX8_search_103 rfl 1 rfl rfl ?_
  refine a_iload (pc' := 106) O dX8_search_104 7 rfl rfl ?_
  refine pfC_13_1 (pc' := 109) O hf dX8_search_106 rfl (fun σ14 hf => ?_)
  refine a_iincB (pc' := 112) (lv' := fun v15 => [(7, .int v15), (6, .int x8), (0, .ref (E.2.2.2.2 13)), (1, .ref (E.2.2.2.2 5)), (2, .int x2), (3, .int x3), (4, .int x4), (5, .int x5), (8, .int x8)]) (c0 := 1) O dX8_search_109 7 rfl (by decide) (by decide) (fun _ => rfl) rfl hf (fun v15 hf => ?_)
  refine a_goto (tgt := 38) O dX8_search_112 (by decide) ?_
  exact a_sub [2, 3, 4, 5, 6, 7, 1, 0] rfl (hk38 σ14 x2 x3 x4 x5 x8 v15 hf)
def BX8_search_38 (k38 : St → Int32 → Int32 → Int32 → Int32 → Int32 → Int32 → Option St) (σ : St) (x2 : Int32) (x3 : Int32) (x4 : Int32) (x5 : Int32) (x6 : Int32) (x7 : Int32) : Option St :=
  if (1 <<< (x2 &&& 31)) ≤ x7 then some σ else (if (x7 &&& (x5 ^^^ (-1))) = 0 then (fX8_minutesOf x2 x7 σ).bind (fun z10 => if x3 < (x4 - z10) then bI (x7 + 1) (fun v12 => k38 σ x2 x3 x4 x5 x6 v12) else (if x6 = (-1) then BX8_search_90 k38 σ x2 x3 x4 x5 x7 z10 else (if x6 ≤ z10 then bI (x7 + 1) (fun v16 => k38 σ x2 x3 x4 x5 x6 v16) else (BX8_search_90 k38 σ x2 x3 x4 x5 x7 z10)))) else (bI (x7 + 1) (fun v17 => k38 σ x2 x3 x4 x5 x6 v17)))
set_option maxRecDepth 100000 in
theorem okBX8_search_38 {E : ET} {X : XT} {z : St} (O : Ok (YC E) X cX8_search 9 RX8 none rmX8_search none z) (k38 : St → Int32 → Int32 → Int32 → Int32 → Int32 → Int32 → Option St) (hk38 : ∀ (σ : St) (x2 : Int32) (x3 : Int32) (x4 : Int32) (x5 : Int32) (x6 : Int32) (x7 : Int32), k38 σ x2 x3 x4 x5 x6 x7 = some z → At (YC E) X 9 38 [(0, .ref (E.2.2.2.2 13)), (1, .ref (E.2.2.2.2 5)), (2, .int x2), (3, .int x3), (4, .int x4), (5, .int x5), (6, .int x6), (7, .int x7)] [] σ) (σ : St) (x2 : Int32) (x3 : Int32) (x4 : Int32) (x5 : Int32) (x6 : Int32) (x7 : Int32) (hf : BX8_search_38 k38 σ x2 x3 x4 x5 x6 x7 = some z) : At (YC E) X 9 38 [(0, .ref (E.2.2.2.2 13)), (1, .ref (E.2.2.2.2 5)), (2, .int x2), (3, .int x3), (4, .int x4), (5, .int x5), (6, .int x6), (7, .int x7)] [] σ := by
  have hE := O.2.2.2.2.2.2.2.2.2.1
  unfold BX8_search_38 at hf
  refine a_iload (pc' := 40) O dX8_search_38 7 rfl rfl ?_
  refine a_iconst (pc' := 41) (v := 1) O dX8_search_40 (by decide) rfl ?_
  refine a_iload_n (pc' := 42) O dX8_search_41 rfl 2 rfl rfl ?_
  refine a_ishl (pc' := 43) O dX8_search_42 rfl ?_
  refine a_icmp_ge (pc' := 46) (tgt := 115) O dX8_search_43 (by decide) rfl hf (fun hf => ?_) (fun hf => ?_)
  · exact a_vret O hf dX8_search_115
  · refine a_iload (pc' := 48) O dX8_search_46 7 rfl rfl ?_
    refine a_iload (pc' := 50) O dX8_search_48 5 rfl rfl ?_
    refine a_iconst (pc' := 51) (v := (-1)) O dX8_search_50 (by decide) rfl ?_
    refine a_ixor (pc' := 52) O dX8_search_51 rfl ?_
    refine a_iand (pc' := 53) O dX8_search_52 rfl ?_
    refine a_if_eq (pc' := 56) (tgt := 59) O dX8_search_53 (by decide) rfl hf (fun hf => ?_) (fun hf => ?_)
    · refine a_aload_n (pc' := 60) O dX8_search_59 rfl 1 rfl rfl ?_
      refine a_iload_n (pc' := 61) O dX8_search_60 rfl 2 rfl rfl ?_
      refine a_iload (pc' := 63) O dX8_search_61 7 rfl rfl ?_
      obtain ⟨z10, h11, hf⟩ := bd_some hf
      refine a_callSI (pc' := 66) (n := 3) (As := [.ref (E.2.2.2.2 5), .int x2, .int x7]) (st := []) O (ctX8_minutesOf hE x2 x7 σ z10 h11) wm_663 wm_664 wm_35 wm_665 (by decide +kernel) (by decide) rfl rfl (Nat.le_of_ble_eq_true rfl) dX8_search_63 rfl ?_
      refine a_istore (pc' := 68) (lv' := [(8, .int z10), (0, .ref (E.2.2.2.2 13)), (1, .ref (E.2.2.2.2 5)), (2, .int x2), (3, .int x3), (4, .int x4), (5, .int x5), (6, .int x6), (7, .int x7)]) O dX8_search_66 (by decide) rfl rfl ?_
      refine a_iload (pc' := 70) O dX8_search_68 5 rfl rfl ?_
      refine a_iload (pc' := 72) O dX8_search_70 0 rfl rfl ?_
      refine a_isub (pc' := 73) O dX8_search_72 rfl ?_
      refine a_iload_n (pc' := 74) O dX8_search_73 rfl 4 rfl rfl ?_
      refine a_icmp_gt (pc' := 77) (tgt := 109) O dX8_search_74 (by decide) rfl hf (fun hf => ?_) (fun hf => ?_)
      · refine a_iincB (pc' := 112) (lv' := fun v12 => [(7, .int v12), (8, .int z10), (0, .ref (E.2.2.2.2 13)), (1, .ref (E.2.2.2.2 5)), (2, .int x2), (3, .int x3), (4, .int x4), (5, .int x5), (6, .int x6)]) (c0 := 1) O dX8_search_109 8 rfl (by decide) (by decide) (fun _ => rfl) rfl hf (fun v12 hf => ?_)
        refine a_goto (tgt := 38) O dX8_search_112 (by decide) ?_
        exact a_sub [2, 3, 4, 5, 6, 7, 8, 0] rfl (hk38 σ x2 x3 x4 x5 x6 v12 hf)
      · refine a_iload (pc' := 79) O dX8_search_77 7 rfl rfl ?_
        refine a_iconst (pc' := 80) (v := (-1)) O dX8_search_79 (by decide) rfl ?_
        refine a_icmp_eq (pc' := 83) (tgt := 90) O dX8_search_80 (by decide) rfl hf (fun hf => ?_) (fun hf => ?_)
        · exact a_sub [1, 2, 3, 4, 5, 6, 8, 0] rfl (okBX8_search_90 O k38 hk38 σ x2 x3 x4 x5 x7 z10 hf)
        · refine a_iload (pc' := 85) O dX8_search_83 0 rfl rfl ?_
          refine a_iload (pc' := 87) O dX8_search_85 7 rfl rfl ?_
          refine a_icmp_ge (pc' := 90) (tgt := 109) O dX8_search_87 (by decide) rfl hf (fun hf => ?_) (fun hf => ?_)
          · refine a_iincB (pc' := 112) (lv' := fun v16 => [(7, .int v16), (8, .int z10), (0, .ref (E.2.2.2.2 13)), (1, .ref (E.2.2.2.2 5)), (2, .int x2), (3, .int x3), (4, .int x4), (5, .int x5), (6, .int x6)]) (c0 := 1) O dX8_search_109 8 rfl (by decide) (by decide) (fun _ => rfl) rfl hf (fun v16 hf => ?_)
            refine a_goto (tgt := 38) O dX8_search_112 (by decide) ?_
            exact a_sub [2, 3, 4, 5, 6, 7, 8, 0] rfl (hk38 σ x2 x3 x4 x5 x6 v16 hf)
          · exact a_sub [1, 2, 3, 4, 5, 6, 8, 0] rfl (okBX8_search_90 O k38 hk38 σ x2 x3 x4 x5 x7 z10 hf)
    · refine a_goto (tgt := 109) O dX8_search_56 (by decide) ?_
      refine a_iincB (pc' := 112) (lv' := fun v17 => [(7, .int v17), (0, .ref (E.2.2.2.2 13)), (1, .ref (E.2.2.2.2 5)), (2, .int x2), (3, .int x3), (4, .int x4), (5, .int x5), (6, .int x6)]) (c0 := 1) O dX8_search_109 7 rfl (by decide) (by decide) (fun _ => rfl) rfl hf (fun v17 hf => ?_)
      refine a_goto (tgt := 38) O dX8_search_112 (by decide) ?_
      exact a_sub [1, 2, 3, 4, 5, 6, 7, 0] rfl (hk38 σ x2 x3 x4 x5 x6 v17 hf)
def LX8_search_38 : Nat → St → Int32 → Int32 → Int32 → Int32 → Int32 → Int32 → Option St
  | 0, _, _, _, _, _, _, _ => none
  | n + 1, σ, x2, x3, x4, x5, x6, x7 => BX8_search_38 (LX8_search_38 n) σ x2 x3 x4 x5 x6 x7
theorem okLX8_search_38 {E : ET} {X : XT} {z : St} (O : Ok (YC E) X cX8_search 9 RX8 none rmX8_search none z) : ∀ (n : Nat) (σ : St) (x2 : Int32) (x3 : Int32) (x4 : Int32) (x5 : Int32) (x6 : Int32) (x7 : Int32), LX8_search_38 n σ x2 x3 x4 x5 x6 x7 = some z → At (YC E) X 9 38 [(0, .ref (E.2.2.2.2 13)), (1, .ref (E.2.2.2.2 5)), (2, .int x2), (3, .int x3), (4, .int x4), (5, .int x5), (6, .int x6), (7, .int x7)] [] σ := by
  intro n
  induction n with
  | zero =>
    intro σ x2 x3 x4 x5 x6 x7 hf
    rw [LX8_search_38] at hf
    cases hf
  | succ n ih =>
    intro σ x2 x3 x4 x5 x6 x7 hf
    rw [LX8_search_38] at hf
    exact okBX8_search_38 O (LX8_search_38 n) ih σ x2 x3 x4 x5 x6 x7 hf
def fX8_search (a1 : Int32) (a2 : Int32) (σ : St) : Option St :=
  (fX1_sum 0 a1 σ).bind (fun z1 => (fX1_sum 1 a1 σ).bind (fun z3 => bI (z1 + z3) (fun v5 => (fX8_ropeBits a1 σ).bind (fun z6 => bS (sI σ 12 (-1)) (fun σ8 => bS (sI σ8 13 (-1)) (fun σ9 => LX8_search_38 fu σ9 a1 a2 v5 z6 (-1) 0))))))
set_option maxRecDepth 100000 in
theorem ctX8_search {E : ET} (hE : Dj (YC E)) (a1 : Int32) (a2 : Int32) (σ : St) (z : St) (hf : fX8_search a1 a2 σ = some z) : Ct (YC E) yX8_search cX8_search 9 none rmX8_search [.ref (E.2.2.2.2 13), .ref (E.2.2.2.2 5), .int a1, .int a2] σ none z := by
  refine Ct.of hE (by decide) (Nat.le_of_ble_eq_true rfl) (fun X O => ?_)
  have O : Ok (YC E) X cX8_search 9 RX8 none rmX8_search none z := O
  show At (YC E) X 9 0 [(0, .ref (E.2.2.2.2 13)), (1, .ref (E.2.2.2.2 5)), (2, .int a1), (3, .int a2)] [] σ
  unfold fX8_search at hf
  refine a_aload_n (pc' := 1) O dX8_search_0 rfl 1 rfl rfl ?_
  refine a_iconst (pc' := 2) (v := 0) O dX8_search_1 (by decide) rfl ?_
  refine a_iload_n (pc' := 3) O dX8_search_2 rfl 2 rfl rfl ?_
  obtain ⟨z1, h2, hf⟩ := bd_some hf
  refine a_callVI (pc' := 6) (n := 2) (As := [.int 0, .int a1]) (st := []) (q0 := 5) O (ctX1_sum hE 0 a1 σ z1 h2) wm_658 wm_501 wm_502 wm_19 wm_503 (by decide +kernel) (by decide) (gC_5 E _) hc_1 rfl rfl rfl (Nat.le_of_ble_eq_true rfl) dX8_search_3 rfl ?_
  refine a_aload_n (pc' := 7) O dX8_search_6 rfl 1 rfl rfl ?_
  refine a_iconst (pc' := 8) (v := 1) O dX8_search_7 (by decide) rfl ?_
  refine a_iload_n (pc' := 9) O dX8_search_8 rfl 2 rfl rfl ?_
  obtain ⟨z3, h4, hf⟩ := bd_some hf
  refine a_callVI (pc' := 12) (n := 2) (As := [.int 1, .int a1]) (st := [.int z1]) (q0 := 5) O (ctX1_sum hE 1 a1 σ z3 h4) wm_658 wm_501 wm_502 wm_19 wm_503 (by decide +kernel) (by decide) (gC_5 E _) hc_1 rfl rfl rfl (Nat.le_of_ble_eq_true rfl) dX8_search_9 rfl ?_
  refine a_iadd (pc' := 13) O dX8_search_12 rfl ?_
  refine a_topi hf (fun v5 hf => ?_)
  refine a_istore (pc' := 15) (lv' := [(4, .int v5), (0, .ref (E.2.2.2.2 13)), (1, .ref (E.2.2.2.2 5)), (2, .int a1), (3, .int a2)]) O dX8_search_13 (by decide) rfl rfl ?_
  refine a_aload_n (pc' := 16) O dX8_search_15 rfl 2 rfl rfl ?_
  refine a_iload_n (pc' := 17) O dX8_search_16 rfl 3 rfl rfl ?_
  obtain ⟨z6, h7, hf⟩ := bd_some hf
  refine a_callSI (pc' := 20) (n := 2) (As := [.ref (E.2.2.2.2 5), .int a1]) (st := []) O (ctX8_ropeBits hE a1 σ z6 h7) wm_659 wm_660 wm_35 wm_661 (by decide +kernel) (by decide) rfl rfl (Nat.le_of_ble_eq_true rfl) dX8_search_17 rfl ?_
  refine a_istore (pc' := 22) (lv' := [(5, .int z6), (4, .int v5), (0, .ref (E.2.2.2.2 13)), (1, .ref (E.2.2.2.2 5)), (2, .int a1), (3, .int a2)]) O dX8_search_20 (by decide) rfl rfl ?_
  refine a_iconst (pc' := 23) (v := (-1)) O dX8_search_22 (by decide) rfl ?_
  refine a_istore (pc' := 25) (lv' := [(6, .int (-1)), (5, .int z6), (4, .int v5), (0, .ref (E.2.2.2.2 13)), (1, .ref (E.2.2.2.2 5)), (2, .int a1), (3, .int a2)]) O dX8_search_23 (by decide) rfl rfl ?_
  refine a_aload_n (pc' := 26) O dX8_search_25 rfl 3 rfl rfl ?_
  refine a_iconst (pc' := 27) (v := (-1)) O dX8_search_26 (by decide) rfl ?_
  refine pfC_13_0 (pc' := 30) O hf dX8_search_27 rfl (fun σ8 hf => ?_)
  refine a_aload_n (pc' := 31) O dX8_search_30 rfl 3 rfl rfl ?_
  refine a_iconst (pc' := 32) (v := (-1)) O dX8_search_31 (by decide) rfl ?_
  refine pfC_13_1 (pc' := 35) O hf dX8_search_32 rfl (fun σ9 hf => ?_)
  refine a_iconst (pc' := 36) (v := 0) O dX8_search_35 (by decide) rfl ?_
  refine a_istore (pc' := 38) (lv' := [(7, .int 0), (6, .int (-1)), (5, .int z6), (4, .int v5), (0, .ref (E.2.2.2.2 13)), (1, .ref (E.2.2.2.2 5)), (2, .int a1), (3, .int a2)]) O dX8_search_36 (by decide) rfl rfl ?_
  exact a_sub [4, 5, 6, 7, 3, 2, 1, 0] rfl (okLX8_search_38 O fu σ9 a1 a2 v5 z6 (-1) 0 hf)
def rmX9_depth : Room := { frames := 0, cells := 0, slots := 0, locals := 0 }
def fX9_depth (σ : St) : Option Int32 :=
  some (σ.1 7)
set_option maxRecDepth 100000 in
theorem ctX9_depth {E : ET} (hE : Dj (YC E)) (σ : St) (z : Int32) (hf : fX9_depth σ = some z) : Ct (YC E) yX9_depth cX9_depth 1 (some .int) rmX9_depth [.ref (E.2.2.2.2 10)] σ (some (.int z)) σ := by
  refine Ct.of hE (by decide) (Nat.le_of_ble_eq_true rfl) (fun X O => ?_)
  have O : Ok (YC E) X cX9_depth 1 RX9 (some .int) rmX9_depth (some (.int z)) σ := O
  show At (YC E) X 1 0 [(0, .ref (E.2.2.2.2 10))] [] σ
  unfold fX9_depth at hf
  refine a_aload_n (pc' := 1) O dX9_depth_0 rfl 0 rfl rfl ?_
  refine gfC_10_2 (pc' := 4) O dX9_depth_1 rfl ?_
  exact a_iretP O hf dX9_depth_4
def rmX9_spent : Room := { frames := 0, cells := 0, slots := 0, locals := 0 }
def fX9_spent (σ : St) : Option Int32 :=
  some (σ.1 8)
set_option maxRecDepth 100000 in
theorem ctX9_spent {E : ET} (hE : Dj (YC E)) (σ : St) (z : Int32) (hf : fX9_spent σ = some z) : Ct (YC E) yX9_spent cX9_spent 1 (some .int) rmX9_spent [.ref (E.2.2.2.2 10)] σ (some (.int z)) σ := by
  refine Ct.of hE (by decide) (Nat.le_of_ble_eq_true rfl) (fun X O => ?_)
  have O : Ok (YC E) X cX9_spent 1 RX9 (some .int) rmX9_spent (some (.int z)) σ := O
  show At (YC E) X 1 0 [(0, .ref (E.2.2.2.2 10))] [] σ
  unfold fX9_spent at hf
  refine a_aload_n (pc' := 1) O dX9_spent_0 rfl 0 rfl rfl ?_
  refine gfC_10_3 (pc' := 4) O dX9_spent_1 rfl ?_
  exact a_iretP O hf dX9_spent_4
def rmX9_stuckAt : Room := { frames := 0, cells := 0, slots := 0, locals := 0 }
def fX9_stuckAt (σ : St) : Option Int32 :=
  some (σ.1 9)
set_option maxRecDepth 100000 in
theorem ctX9_stuckAt {E : ET} (hE : Dj (YC E)) (σ : St) (z : Int32) (hf : fX9_stuckAt σ = some z) : Ct (YC E) yX9_stuckAt cX9_stuckAt 1 (some .int) rmX9_stuckAt [.ref (E.2.2.2.2 10)] σ (some (.int z)) σ := by
  refine Ct.of hE (by decide) (Nat.le_of_ble_eq_true rfl) (fun X O => ?_)
  have O : Ok (YC E) X cX9_stuckAt 1 RX9 (some .int) rmX9_stuckAt (some (.int z)) σ := O
  show At (YC E) X 1 0 [(0, .ref (E.2.2.2.2 10))] [] σ
  unfold fX9_stuckAt at hf
  refine a_aload_n (pc' := 1) O dX9_stuckAt_0 rfl 0 rfl rfl ?_
  refine gfC_10_4 (pc' := 4) O dX9_stuckAt_1 rfl ?_
  exact a_iretP O hf dX9_stuckAt_4
def rmX9_remains : Room := { frames := 0, cells := 0, slots := 0, locals := 0 }
def fX9_remains (a0 : Int32) (σ : St) : Option Int32 :=
  if a0 < 0 then some 0 else (if 4 ≤ a0 then some 0 else (gIn a0 4 (some (σ.2.2 11 a0.toNatClampNeg))))
set_option maxRecDepth 100000 in
theorem ctX9_remains {E : ET} (hE : Dj (YC E)) (a0 : Int32) (σ : St) (z : Int32) (hf : fX9_remains a0 σ = some z) : Ct (YC E) yX9_remains cX9_remains 2 (some .int) rmX9_remains [.ref (E.2.2.2.2 10), .int a0] σ (some (.int z)) σ := by
  refine Ct.of hE (by decide) (Nat.le_of_ble_eq_true rfl) (fun X O => ?_)
  have O : Ok (YC E) X cX9_remains 2 RX9 (some .int) rmX9_remains (some (.int z)) σ := O
  show At (YC E) X 2 0 [(0, .ref (E.2.2.2.2 10)), (1, .int a0)] [] σ
  unfold fX9_remains at hf
  refine a_iload_n (pc' := 1) O dX9_remains_0 rfl 1 rfl rfl ?_
  refine a_if_lt (pc' := 4) (tgt := 18) O dX9_remains_1 (by decide) rfl hf (fun hf => ?_) (fun hf => ?_)
  · refine a_iconst (pc' := 19) (v := 0) O dX9_remains_18 (by decide) rfl ?_
    exact a_iretP O hf dX9_remains_19
  · refine a_iload_n (pc' := 5) O dX9_remains_4 rfl 1 rfl rfl ?_
    refine a_iconst (pc' := 6) (v := 4) O dX9_remains_5 (by decide) rfl ?_
    refine a_icmp_ge (pc' := 9) (tgt := 18) O dX9_remains_6 (by decide) rfl hf (fun hf => ?_) (fun hf => ?_)
    · refine a_iconst (pc' := 19) (v := 0) O dX9_remains_18 (by decide) rfl ?_
      exact a_iretP O hf dX9_remains_19
    · refine a_aload_n (pc' := 10) O dX9_remains_9 rfl 0 rfl rfl ?_
      refine gfC_10_0 (pc' := 13) O dX9_remains_10 rfl ?_
      refine a_iload_n (pc' := 14) O dX9_remains_13 rfl 1 rfl rfl ?_
      refine laC_11 (pc' := 15) O hf dX9_remains_14 rfl (fun hf => ?_)
      refine a_goto (tgt := 19) O dX9_remains_15 (by decide) ?_
      exact a_iretP O hf dX9_remains_19
def rmX9_begin : Room := { frames := 1, cells := 0, slots := 0, locals := 21 }
def BX9_begin_43 (σ : St) : Option St :=
  bS (sI σ 7 0) (fun σ1 => bS (sI σ1 8 0) (fun σ2 => bS (sI σ2 9 (-1)) (fun σ3 => bS (sI σ3 10 0) (fun σ4 => bS (sI σ4 11 0) (fun σ5 => some σ5)))))
set_option maxRecDepth 100000 in
theorem okBX9_begin_43 {E : ET} {X : XT} {z : St} (O : Ok (YC E) X cX9_begin 3 RX9 none rmX9_begin none z) (σ : St) (hf : BX9_begin_43 σ = some z) : At (YC E) X 3 43 [(0, .ref (E.2.2.2.2 10))] [] σ := by
  have hE := O.2.2.2.2.2.2.2.2.2.1
  unfold BX9_begin_43 at hf
  refine a_aload_n (pc' := 44) O dX9_begin_43 rfl 0 rfl rfl ?_
  refine a_iconst (pc' := 45) (v := 0) O dX9_begin_44 (by decide) rfl ?_
  refine pfC_10_2 (pc' := 48) O hf dX9_begin_45 rfl (fun σ1 hf => ?_)
  refine a_aload_n (pc' := 49) O dX9_begin_48 rfl 0 rfl rfl ?_
  refine a_iconst (pc' := 50) (v := 0) O dX9_begin_49 (by decide) rfl ?_
  refine pfC_10_3 (pc' := 53) O hf dX9_begin_50 rfl (fun σ2 hf => ?_)
  refine a_aload_n (pc' := 54) O dX9_begin_53 rfl 0 rfl rfl ?_
  refine a_iconst (pc' := 55) (v := (-1)) O dX9_begin_54 (by decide) rfl ?_
  refine pfC_10_4 (pc' := 58) O hf dX9_begin_55 rfl (fun σ3 hf => ?_)
  refine a_aload_n (pc' := 59) O dX9_begin_58 rfl 0 rfl rfl ?_
  refine a_iconst (pc' := 60) (v := 0) O dX9_begin_59 (by decide) rfl ?_
  refine pfC_10_5 (pc' := 63) O (Or.inl rfl) hf dX9_begin_60 rfl (fun σ4 hf => ?_)
  refine a_aload_n (pc' := 64) O dX9_begin_63 rfl 0 rfl rfl ?_
  refine a_iconst (pc' := 65) (v := 0) O dX9_begin_64 (by decide) rfl ?_
  refine pfC_10_6 (pc' := 68) O (Or.inl rfl) hf dX9_begin_65 rfl (fun σ5 hf => ?_)
  exact a_vret O hf dX9_begin_68
def BX9_begin_2 (k2 : St → Int32 → Option St) (σ : St) (x2 : Int32) : Option St :=
  if 4 ≤ x2 then BX9_begin_43 σ else ((fX3_burns x2 σ).bind (fun z6 => gIn x2 4 (bS (sA σ 11 x2.toNatClampNeg z6) (fun σ8 => (fX3_party σ8).bind (fun z9 => if z9 ≤ x2 then gIn x2 4 (bS (sA σ8 12 x2.toNatClampNeg 0) (fun σ11 => bI (x2 + 1) (fun v12 => k2 σ11 v12))) else (gIn x2 4 (bS (sA σ8 12 x2.toNatClampNeg 1) (fun σ13 => bI (x2 + 1) (fun v14 => k2 σ13 v14)))))))))
set_option maxRecDepth 100000 in
theorem okBX9_begin_2 {E : ET} {X : XT} {z : St} (O : Ok (YC E) X cX9_begin 3 RX9 none rmX9_begin none z) (k2 : St → Int32 → Option St) (hk2 : ∀ (σ : St) (x2 : Int32), k2 σ x2 = some z → At (YC E) X 3 2 [(0, .ref (E.2.2.2.2 10)), (1, .ref (E.2.2.2.2 8)), (2, .int x2)] [] σ) (σ : St) (x2 : Int32) (hf : BX9_begin_2 k2 σ x2 = some z) : At (YC E) X 3 2 [(0, .ref (E.2.2.2.2 10)), (1, .ref (E.2.2.2.2 8)), (2, .int x2)] [] σ := by
  have hE := O.2.2.2.2.2.2.2.2.2.1
  unfold BX9_begin_2 at hf
  refine a_iload_n (pc' := 3) O dX9_begin_2 rfl 2 rfl rfl ?_
  refine a_iconst (pc' := 4) (v := 4) O dX9_begin_3 (by decide) rfl ?_
  refine a_icmp_ge (pc' := 7) (tgt := 43) O dX9_begin_4 (by decide) rfl hf (fun hf => ?_) (fun hf => ?_)
  · exact a_sub [0] rfl (okBX9_begin_43 O σ hf)
  · refine a_aload_n (pc' := 8) O dX9_begin_7 rfl 0 rfl rfl ?_
    refine gfC_10_0 (pc' := 11) O dX9_begin_8 rfl ?_
    refine a_iload_n (pc' := 12) O dX9_begin_11 rfl 2 rfl rfl ?_
    refine a_aload_n (pc' := 13) O dX9_begin_12 rfl 1 rfl rfl ?_
    refine a_iload_n (pc' := 14) O dX9_begin_13 rfl 2 rfl rfl ?_
    obtain ⟨z6, h7, hf⟩ := bd_some hf
    refine a_callVI (pc' := 17) (n := 1) (As := [.int x2]) (st := [.int x2, .ref (E.2.2.2.2 11)]) (q0 := 8) O (ctX3_burns hE x2 σ z6 h7) wm_532 wm_316 wm_317 wm_27 wm_318 (by decide +kernel) (by decide) (gC_8 E _) hc_3 rfl rfl rfl (Nat.le_of_ble_eq_true rfl) dX9_begin_14 rfl ?_
    refine saC_11 (pc' := 18) O hf dX9_begin_17 rfl (fun σ8 hf => ?_)
    refine a_aload_n (pc' := 19) O dX9_begin_18 rfl 0 rfl rfl ?_
    refine gfC_10_1 (pc' := 22) O dX9_begin_19 rfl ?_
    refine a_iload_n (pc' := 23) O dX9_begin_22 rfl 2 rfl rfl ?_
    refine a_iload_n (pc' := 24) O dX9_begin_23 rfl 2 rfl rfl ?_
    refine a_aload_n (pc' := 25) O dX9_begin_24 rfl 1 rfl rfl ?_
    obtain ⟨z9, h10, hf⟩ := bd_some hf
    refine a_callVI (pc' := 28) (n := 0) (As := []) (st := [.int x2, .int x2, .ref (E.2.2.2.2 12)]) (q0 := 8) O (ctX3_party hE σ8 z9 h10) wm_533 wm_299 wm_300 wm_27 wm_301 (by decide +kernel) (by decide) (gC_8 E _) hc_3 rfl rfl rfl (Nat.le_of_ble_eq_true rfl) dX9_begin_25 rfl ?_
    refine a_icmp_ge (pc' := 31) (tgt := 35) O dX9_begin_28 (by decide) rfl hf (fun hf => ?_) (fun hf => ?_)
    · refine a_iconst (pc' := 36) (v := 0) O dX9_begin_35 (by decide) rfl ?_
      refine saC_12 (pc' := 37) O (Or.inl rfl) hf dX9_begin_36 rfl (fun σ11 hf => ?_)
      refine a_iincB (pc' := 40) (lv' := fun v12 => [(2, .int v12), (0, .ref (E.2.2.2.2 10)), (1, .ref (E.2.2.2.2 8))]) (c0 := 1) O dX9_begin_37 2 rfl (by decide) (by decide) (fun _ => rfl) rfl hf (fun v12 hf => ?_)
      refine a_goto (tgt := 2) O dX9_begin_40 (by decide) ?_
      exact a_sub [1, 2, 0] rfl (hk2 σ11 v12 hf)
    · refine a_iconst (pc' := 32) (v := 1) O dX9_begin_31 (by decide) rfl ?_
      refine a_goto (tgt := 36) O dX9_begin_32 (by decide) ?_
      refine saC_12 (pc' := 37) O (Or.inr rfl) hf dX9_begin_36 rfl (fun σ13 hf => ?_)
      refine a_iincB (pc' := 40) (lv' := fun v14 => [(2, .int v14), (0, .ref (E.2.2.2.2 10)), (1, .ref (E.2.2.2.2 8))]) (c0 := 1) O dX9_begin_37 2 rfl (by decide) (by decide) (fun _ => rfl) rfl hf (fun v14 hf => ?_)
      refine a_goto (tgt := 2) O dX9_begin_40 (by decide) ?_
      exact a_sub [1, 2, 0] rfl (hk2 σ13 v14 hf)
def LX9_begin_2 : Nat → St → Int32 → Option St
  | 0, _, _ => none
  | n + 1, σ, x2 => BX9_begin_2 (LX9_begin_2 n) σ x2
theorem okLX9_begin_2 {E : ET} {X : XT} {z : St} (O : Ok (YC E) X cX9_begin 3 RX9 none rmX9_begin none z) : ∀ (n : Nat) (σ : St) (x2 : Int32), LX9_begin_2 n σ x2 = some z → At (YC E) X 3 2 [(0, .ref (E.2.2.2.2 10)), (1, .ref (E.2.2.2.2 8)), (2, .int x2)] [] σ := by
  intro n
  induction n with
  | zero =>
    intro σ x2 hf
    rw [LX9_begin_2] at hf
    cases hf
  | succ n ih =>
    intro σ x2 hf
    rw [LX9_begin_2] at hf
    exact okBX9_begin_2 O (LX9_begin_2 n) ih σ x2 hf
def fX9_begin (σ : St) : Option St :=
  LX9_begin_2 fu σ 0
set_option maxRecDepth 100000 in
theorem ctX9_begin {E : ET} (hE : Dj (YC E)) (σ : St) (z : St) (hf : fX9_begin σ = some z) : Ct (YC E) yX9_begin cX9_begin 3 none rmX9_begin [.ref (E.2.2.2.2 10), .ref (E.2.2.2.2 8)] σ none z := by
  refine Ct.of hE (by decide) (Nat.le_of_ble_eq_true rfl) (fun X O => ?_)
  have O : Ok (YC E) X cX9_begin 3 RX9 none rmX9_begin none z := O
  show At (YC E) X 3 0 [(0, .ref (E.2.2.2.2 10)), (1, .ref (E.2.2.2.2 8))] [] σ
  unfold fX9_begin at hf
  refine a_iconst (pc' := 1) (v := 0) O dX9_begin_0 (by decide) rfl ?_
  refine a_istore_n (pc' := 2) (lv' := [(2, .int 0), (0, .ref (E.2.2.2.2 10)), (1, .ref (E.2.2.2.2 8))]) O dX9_begin_1 rfl (by decide) rfl rfl ?_
  exact a_sub [1, 2, 0] rfl (okLX9_begin_2 O fu σ 0 hf)
def rmX9_putOut : Room := { frames := 0, cells := 0, slots := 0, locals := 0 }
def fX9_putOut (a0 : Int32) (σ : St) : Option St :=
  if a0 < 0 then some σ else (if 4 ≤ a0 then some σ else (gIn a0 4 (bS (sA σ 12 a0.toNatClampNeg 0) (fun σ1 => gIn a0 4 (bS (sA σ1 11 a0.toNatClampNeg 0) (fun σ2 => some σ2))))))
set_option maxRecDepth 100000 in
theorem ctX9_putOut {E : ET} (hE : Dj (YC E)) (a0 : Int32) (σ : St) (z : St) (hf : fX9_putOut a0 σ = some z) : Ct (YC E) yX9_putOut cX9_putOut 2 none rmX9_putOut [.ref (E.2.2.2.2 10), .int a0] σ none z := by
  refine Ct.of hE (by decide) (Nat.le_of_ble_eq_true rfl) (fun X O => ?_)
  have O : Ok (YC E) X cX9_putOut 2 RX9 none rmX9_putOut none z := O
  show At (YC E) X 2 0 [(0, .ref (E.2.2.2.2 10)), (1, .int a0)] [] σ
  unfold fX9_putOut at hf
  refine a_iload_n (pc' := 1) O dX9_putOut_0 rfl 1 rfl rfl ?_
  refine a_if_lt (pc' := 4) (tgt := 23) O dX9_putOut_1 (by decide) rfl hf (fun hf => ?_) (fun hf => ?_)
  · exact a_vret O hf dX9_putOut_23
  · refine a_iload_n (pc' := 5) O dX9_putOut_4 rfl 1 rfl rfl ?_
    refine a_iconst (pc' := 6) (v := 4) O dX9_putOut_5 (by decide) rfl ?_
    refine a_icmp_ge (pc' := 9) (tgt := 23) O dX9_putOut_6 (by decide) rfl hf (fun hf => ?_) (fun hf => ?_)
    · exact a_vret O hf dX9_putOut_23
    · refine a_aload_n (pc' := 10) O dX9_putOut_9 rfl 0 rfl rfl ?_
      refine gfC_10_1 (pc' := 13) O dX9_putOut_10 rfl ?_
      refine a_iload_n (pc' := 14) O dX9_putOut_13 rfl 1 rfl rfl ?_
      refine a_iconst (pc' := 15) (v := 0) O dX9_putOut_14 (by decide) rfl ?_
      refine saC_12 (pc' := 16) O (Or.inl rfl) hf dX9_putOut_15 rfl (fun σ1 hf => ?_)
      refine a_aload_n (pc' := 17) O dX9_putOut_16 rfl 0 rfl rfl ?_
      refine gfC_10_0 (pc' := 20) O dX9_putOut_17 rfl ?_
      refine a_iload_n (pc' := 21) O dX9_putOut_20 rfl 1 rfl rfl ?_
      refine a_iconst (pc' := 22) (v := 0) O dX9_putOut_21 (by decide) rfl ?_
      refine saC_11 (pc' := 23) O hf dX9_putOut_22 rfl (fun σ2 hf => ?_)
      exact a_vret O hf dX9_putOut_23
def rmX9_unlitMinutes : Room := { frames := 2, cells := 0, slots := 0, locals := 44 }
def fX9_unlitMinutes (a0 : Int32) (a1 : Int32) (σ : St) : Option Int32 :=
  (fX1_figure a0 3 σ).bind (fun z1 => if z1 = 0 then some (-1) else (if a1 = 0 then (fX1_outMinutes a0 1 σ).bind (fun z3 => some (2 * z3)) else ((fX1_inMinutes a0 σ).bind (fun z5 => some (2 * z5)))))
set_option maxRecDepth 100000 in
theorem ctX9_unlitMinutes {E : ET} (hE : Dj (YC E)) (a0 : Int32) (a1 : Int32) (σ : St) (z : Int32) (hf : fX9_unlitMinutes a0 a1 σ = some z) : Ct (YC E) yX9_unlitMinutes cX9_unlitMinutes 3 (some .int) rmX9_unlitMinutes [.int a0, .int a1, .ref (E.2.2.2.2 5)] σ (some (.int z)) σ := by
  refine Ct.of hE (by decide) (Nat.le_of_ble_eq_true rfl) (fun X O => ?_)
  have O : Ok (YC E) X cX9_unlitMinutes 3 RX9 (some .int) rmX9_unlitMinutes (some (.int z)) σ := O
  show At (YC E) X 3 0 [(0, .int a0), (1, .int a1), (2, .ref (E.2.2.2.2 5))] [] σ
  unfold fX9_unlitMinutes at hf
  refine a_aload_n (pc' := 1) O dX9_unlitMinutes_0 rfl 2 rfl rfl ?_
  refine a_iload_n (pc' := 2) O dX9_unlitMinutes_1 rfl 0 rfl rfl ?_
  refine a_iconst (pc' := 3) (v := 3) O dX9_unlitMinutes_2 (by decide) rfl ?_
  obtain ⟨z1, h2, hf⟩ := bd_some hf
  refine a_callVI (pc' := 6) (n := 2) (As := [.int a0, .int 3]) (st := []) (q0 := 5) O (ctX1_figure hE a0 3 σ z1 h2) wm_547 wm_278 wm_279 wm_19 wm_280 (by decide +kernel) (by decide) (gC_5 E _) hc_1 rfl rfl rfl (Nat.le_of_ble_eq_true rfl) dX9_unlitMinutes_3 rfl ?_
  refine a_if_ne (pc' := 9) (tgt := 11) O dX9_unlitMinutes_6 (by decide) rfl hf (fun hf => ?_) (fun hf => ?_)
  · refine a_iconst (pc' := 12) (v := 2) O dX9_unlitMinutes_11 (by decide) rfl ?_
    refine a_iload_n (pc' := 13) O dX9_unlitMinutes_12 rfl 1 rfl rfl ?_
    refine a_if_eq (pc' := 16) (tgt := 24) O dX9_unlitMinutes_13 (by decide) rfl hf (fun hf => ?_) (fun hf => ?_)
    · refine a_aload_n (pc' := 25) O dX9_unlitMinutes_24 rfl 2 rfl rfl ?_
      refine a_iload_n (pc' := 26) O dX9_unlitMinutes_25 rfl 0 rfl rfl ?_
      refine a_iconst (pc' := 27) (v := 1) O dX9_unlitMinutes_26 (by decide) rfl ?_
      obtain ⟨z3, h4, hf⟩ := bd_some hf
      refine a_callVI (pc' := 30) (n := 2) (As := [.int a0, .int 1]) (st := [.int 2]) (q0 := 5) O (ctX1_outMinutes hE a0 1 σ z3 h4) wm_549 wm_395 wm_396 wm_19 wm_397 (by decide +kernel) (by decide) (gC_5 E _) hc_1 rfl rfl rfl (Nat.le_of_ble_eq_true rfl) dX9_unlitMinutes_27 rfl ?_
      refine a_imul (pc' := 31) O dX9_unlitMinutes_30 rfl ?_
      exact a_iretP O hf dX9_unlitMinutes_31
    · refine a_aload_n (pc' := 17) O dX9_unlitMinutes_16 rfl 2 rfl rfl ?_
      refine a_iload_n (pc' := 18) O dX9_unlitMinutes_17 rfl 0 rfl rfl ?_
      obtain ⟨z5, h6, hf⟩ := bd_some hf
      refine a_callVI (pc' := 21) (n := 1) (As := [.int a0]) (st := [.int 2]) (q0 := 5) O (ctX1_inMinutes hE a0 σ z5 h6) wm_548 wm_400 wm_401 wm_19 wm_402 (by decide +kernel) (by decide) (gC_5 E _) hc_1 rfl rfl rfl (Nat.le_of_ble_eq_true rfl) dX9_unlitMinutes_18 rfl ?_
      refine a_goto (tgt := 30) O dX9_unlitMinutes_21 (by decide) ?_
      refine a_imul (pc' := 31) O dX9_unlitMinutes_30 rfl ?_
      exact a_iretP O hf dX9_unlitMinutes_31
  · refine a_iconst (pc' := 10) (v := (-1)) O dX9_unlitMinutes_9 (by decide) rfl ?_
    exact a_iretP O hf dX9_unlitMinutes_10
def rmX9_going : Room := { frames := 0, cells := 0, slots := 0, locals := 0 }
def BX9_going_4 (k4 : Int32 → Int32 → Option Int32) (σ : St) (x1 : Int32) (x2 : Int32) : Option Int32 :=
  if 4 ≤ x2 then some x1 else (gIn x2 4 (if (σ.2.2 12 x2.toNatClampNeg) = 0 then bI (x1 + 0) (fun v1 => bI (x2 + 1) (fun v2 => k4 v1 v2)) else (bI (x1 + 1) (fun v3 => bI (x2 + 1) (fun v4 => k4 v3 v4)))))
set_option maxRecDepth 100000 in
theorem okBX9_going_4 {E : ET} {X : XT} {z : Int32} {σ : St} (O : Ok (YC E) X cX9_going 3 RX9 (some .int) rmX9_going (some (.int z)) σ) (k4 : Int32 → Int32 → Option Int32) (hk4 : ∀ (x1 : Int32) (x2 : Int32), k4 x1 x2 = some z → At (YC E) X 3 4 [(0, .ref (E.2.2.2.2 10)), (1, .int x1), (2, .int x2)] [] σ) (x1 : Int32) (x2 : Int32) (hf : BX9_going_4 k4 σ x1 x2 = some z) : At (YC E) X 3 4 [(0, .ref (E.2.2.2.2 10)), (1, .int x1), (2, .int x2)] [] σ := by
  have hE := O.2.2.2.2.2.2.2.2.2.1
  unfold BX9_going_4 at hf
  refine a_iload_n (pc' := 5) O dX9_going_4 rfl 2 rfl rfl ?_
  refine a_iconst (pc' := 6) (v := 4) O dX9_going_5 (by decide) rfl ?_
  refine a_icmp_ge (pc' := 9) (tgt := 32) O dX9_going_6 (by decide) rfl hf (fun hf => ?_) (fun hf => ?_)
  · refine a_iload_n (pc' := 33) O dX9_going_32 rfl 1 rfl rfl ?_
    exact a_iretP O hf dX9_going_33
  · refine a_iload_n (pc' := 10) O dX9_going_9 rfl 1 rfl rfl ?_
    refine a_aload_n (pc' := 11) O dX9_going_10 rfl 0 rfl rfl ?_
    refine gfC_10_1 (pc' := 14) O dX9_going_11 rfl ?_
    refine a_iload_n (pc' := 15) O dX9_going_14 rfl 2 rfl rfl ?_
    refine laC_12 (pc' := 16) O hf dX9_going_15 rfl (fun hf => ?_)
    refine a_if_eq (pc' := 19) (tgt := 23) O dX9_going_16 (by decide) rfl hf (fun hf => ?_) (fun hf => ?_)
    · refine a_iconst (pc' := 24) (v := 0) O dX9_going_23 (by decide) rfl ?_
      refine a_iadd (pc' := 25) O dX9_going_24 rfl ?_
      refine a_topi hf (fun v1 hf => ?_)
      refine a_istore_n (pc' := 26) (lv' := [(1, .int v1), (0, .ref (E.2.2.2.2 10)), (2, .int x2)]) O dX9_going_25 rfl (by decide) rfl rfl ?_
      refine a_iincB (pc' := 29) (lv' := fun v2 => [(2, .int v2), (1, .int v1), (0, .ref (E.2.2.2.2 10))]) (c0 := 1) O dX9_going_26 2 rfl (by decide) (by decide) (fun _ => rfl) rfl hf (fun v2 hf => ?_)
      refine a_goto (tgt := 4) O dX9_going_29 (by decide) ?_
      exact a_sub [2, 1, 0] rfl (hk4 v1 v2 hf)
    · refine a_iconst (pc' := 20) (v := 1) O dX9_going_19 (by decide) rfl ?_
      refine a_goto (tgt := 24) O dX9_going_20 (by decide) ?_
      refine a_iadd (pc' := 25) O dX9_going_24 rfl ?_
      refine a_topi hf (fun v3 hf => ?_)
      refine a_istore_n (pc' := 26) (lv' := [(1, .int v3), (0, .ref (E.2.2.2.2 10)), (2, .int x2)]) O dX9_going_25 rfl (by decide) rfl rfl ?_
      refine a_iincB (pc' := 29) (lv' := fun v4 => [(2, .int v4), (1, .int v3), (0, .ref (E.2.2.2.2 10))]) (c0 := 1) O dX9_going_26 2 rfl (by decide) (by decide) (fun _ => rfl) rfl hf (fun v4 hf => ?_)
      refine a_goto (tgt := 4) O dX9_going_29 (by decide) ?_
      exact a_sub [2, 1, 0] rfl (hk4 v3 v4 hf)
def LX9_going_4 (σ : St) : Nat → Int32 → Int32 → Option Int32
  | 0, _, _ => none
  | n + 1, x1, x2 => BX9_going_4 (LX9_going_4 σ n) σ x1 x2
theorem okLX9_going_4 {E : ET} {X : XT} {z : Int32} {σ : St} (O : Ok (YC E) X cX9_going 3 RX9 (some .int) rmX9_going (some (.int z)) σ) : ∀ (n : Nat) (x1 : Int32) (x2 : Int32), LX9_going_4 σ n x1 x2 = some z → At (YC E) X 3 4 [(0, .ref (E.2.2.2.2 10)), (1, .int x1), (2, .int x2)] [] σ := by
  intro n
  induction n with
  | zero =>
    intro x1 x2 hf
    rw [LX9_going_4] at hf
    cases hf
  | succ n ih =>
    intro x1 x2 hf
    rw [LX9_going_4] at hf
    exact okBX9_going_4 O (LX9_going_4 σ n) ih x1 x2 hf
def fX9_going (σ : St) : Option Int32 :=
  LX9_going_4 σ fu 0 0
set_option maxRecDepth 100000 in
theorem ctX9_going {E : ET} (hE : Dj (YC E)) (σ : St) (z : Int32) (hf : fX9_going σ = some z) : Ct (YC E) yX9_going cX9_going 3 (some .int) rmX9_going [.ref (E.2.2.2.2 10)] σ (some (.int z)) σ := by
  refine Ct.of hE (by decide) (Nat.le_of_ble_eq_true rfl) (fun X O => ?_)
  have O : Ok (YC E) X cX9_going 3 RX9 (some .int) rmX9_going (some (.int z)) σ := O
  show At (YC E) X 3 0 [(0, .ref (E.2.2.2.2 10))] [] σ
  unfold fX9_going at hf
  refine a_iconst (pc' := 1) (v := 0) O dX9_going_0 (by decide) rfl ?_
  refine a_istore_n (pc' := 2) (lv' := [(1, .int 0), (0, .ref (E.2.2.2.2 10))]) O dX9_going_1 rfl (by decide) rfl rfl ?_
  refine a_iconst (pc' := 3) (v := 0) O dX9_going_2 (by decide) rfl ?_
  refine a_istore_n (pc' := 4) (lv' := [(2, .int 0), (1, .int 0), (0, .ref (E.2.2.2.2 10))]) O dX9_going_3 rfl (by decide) rfl rfl ?_
  exact a_sub [2, 1, 0] rfl (okLX9_going_4 O fu 0 0 hf)
def rmX9_putOutBelow : Room := { frames := 1, cells := 0, slots := 0, locals := 21 }
def BX9_putOutBelow_4 (k4 : St → Int32 → Int32 → Int32 → Option (Int32 × St)) (σ : St) (x1 : Int32) (x2 : Int32) (x3 : Int32) : Option (Int32 × St) :=
  if 4 ≤ x3 then gB x2 (some (x2, σ)) else (gIn x3 4 (if (σ.2.2 12 x3.toNatClampNeg) = 0 then bI (x3 + 1) (fun v2 => k4 σ x1 x2 v2) else (gIn x3 4 (if x1 ≤ (σ.2.2 11 x3.toNatClampNeg) then bI (x3 + 1) (fun v3 => k4 σ x1 x2 v3) else ((fX9_putOut x3 σ).bind (fun z4 => bI (x3 + 1) (fun v6 => k4 z4 x1 1 v6)))))))
set_option maxRecDepth 100000 in
theorem okBX9_putOutBelow_4 {E : ET} {X : XT} {z : Int32 × St} (O : Ok (YC E) X cX9_putOutBelow 4 RX9 (some .boolean) rmX9_putOutBelow (some (.int z.1)) z.2) (k4 : St → Int32 → Int32 → Int32 → Option (Int32 × St)) (hk4 : ∀ (σ : St) (x1 : Int32) (x2 : Int32) (x3 : Int32), k4 σ x1 x2 x3 = some z → At (YC E) X 4 4 [(0, .ref (E.2.2.2.2 10)), (1, .int x1), (2, .int x2), (3, .int x3)] [] σ) (σ : St) (x1 : Int32) (x2 : Int32) (x3 : Int32) (hf : BX9_putOutBelow_4 k4 σ x1 x2 x3 = some z) : At (YC E) X 4 4 [(0, .ref (E.2.2.2.2 10)), (1, .int x1), (2, .int x2), (3, .int x3)] [] σ := by
  have hE := O.2.2.2.2.2.2.2.2.2.1
  unfold BX9_putOutBelow_4 at hf
  refine a_iload_n (pc' := 5) O dX9_putOutBelow_4 rfl 3 rfl rfl ?_
  refine a_iconst (pc' := 6) (v := 4) O dX9_putOutBelow_5 (by decide) rfl ?_
  refine a_icmp_ge (pc' := 9) (tgt := 41) O dX9_putOutBelow_6 (by decide) rfl hf (fun hf => ?_) (fun hf => ?_)
  · refine a_iload_n (pc' := 42) O dX9_putOutBelow_41 rfl 2 rfl rfl ?_
    obtain ⟨h1, hf⟩ := gB_some hf
    exact a_zret h1 O hf dX9_putOutBelow_42
  · refine a_aload_n (pc' := 10) O dX9_putOutBelow_9 rfl 0 rfl rfl ?_
    refine gfC_10_1 (pc' := 13) O dX9_putOutBelow_10 rfl ?_
    refine a_iload_n (pc' := 14) O dX9_putOutBelow_13 rfl 3 rfl rfl ?_
    refine laC_12 (pc' := 15) O hf dX9_putOutBelow_14 rfl (fun hf => ?_)
    refine a_if_eq (pc' := 18) (tgt := 35) O dX9_putOutBelow_15 (by decide) rfl hf (fun hf => ?_) (fun hf => ?_)
    · refine a_iincB (pc' := 38) (lv' := fun v2 => [(3, .int v2), (0, .ref (E.2.2.2.2 10)), (1, .int x1), (2, .int x2)]) (c0 := 1) O dX9_putOutBelow_35 3 rfl (by decide) (by decide) (fun _ => rfl) rfl hf (fun v2 hf => ?_)
      refine a_goto (tgt := 4) O dX9_putOutBelow_38 (by decide) ?_
      exact a_sub [1, 2, 3, 0] rfl (hk4 σ x1 x2 v2 hf)
    · refine a_aload_n (pc' := 19) O dX9_putOutBelow_18 rfl 0 rfl rfl ?_
      refine gfC_10_0 (pc' := 22) O dX9_putOutBelow_19 rfl ?_
      refine a_iload_n (pc' := 23) O dX9_putOutBelow_22 rfl 3 rfl rfl ?_
      refine laC_11 (pc' := 24) O hf dX9_putOutBelow_23 rfl (fun hf => ?_)
      refine a_iload_n (pc' := 25) O dX9_putOutBelow_24 rfl 1 rfl rfl ?_
      refine a_icmp_ge (pc' := 28) (tgt := 35) O dX9_putOutBelow_25 (by decide) rfl hf (fun hf => ?_) (fun hf => ?_)
      · refine a_iincB (pc' := 38) (lv' := fun v3 => [(3, .int v3), (0, .ref (E.2.2.2.2 10)), (1, .int x1), (2, .int x2)]) (c0 := 1) O dX9_putOutBelow_35 3 rfl (by decide) (by decide) (fun _ => rfl) rfl hf (fun v3 hf => ?_)
        refine a_goto (tgt := 4) O dX9_putOutBelow_38 (by decide) ?_
        exact a_sub [1, 2, 3, 0] rfl (hk4 σ x1 x2 v3 hf)
      · refine a_aload_n (pc' := 29) O dX9_putOutBelow_28 rfl 0 rfl rfl ?_
        refine a_iload_n (pc' := 30) O dX9_putOutBelow_29 rfl 3 rfl rfl ?_
        obtain ⟨z4, h5, hf⟩ := bd_some hf
        refine a_callVN (pc' := 33) (n := 1) (As := [.int x3]) (st := []) (q0 := 10) O (ctX9_putOut hE x3 σ z4 h5) wm_535 wm_536 wm_537 wm_31 wm_538 (by decide +kernel) (by decide) (gC_10 E _) hc_9 rfl rfl rfl (Nat.le_of_ble_eq_true rfl) dX9_putOutBelow_30 rfl ?_
        refine a_iconst (pc' := 34) (v := 1) O dX9_putOutBelow_33 (by decide) rfl ?_
        refine a_istore_n (pc' := 35) (lv' := [(2, .int 1), (0, .ref (E.2.2.2.2 10)), (1, .int x1), (3, .int x3)]) O dX9_putOutBelow_34 rfl (by decide) rfl rfl ?_
        refine a_iincB (pc' := 38) (lv' := fun v6 => [(3, .int v6), (2, .int 1), (0, .ref (E.2.2.2.2 10)), (1, .int x1)]) (c0 := 1) O dX9_putOutBelow_35 3 rfl (by decide) (by decide) (fun _ => rfl) rfl hf (fun v6 hf => ?_)
        refine a_goto (tgt := 4) O dX9_putOutBelow_38 (by decide) ?_
        exact a_sub [2, 3, 1, 0] rfl (hk4 z4 x1 1 v6 hf)
def LX9_putOutBelow_4 : Nat → St → Int32 → Int32 → Int32 → Option (Int32 × St)
  | 0, _, _, _, _ => none
  | n + 1, σ, x1, x2, x3 => BX9_putOutBelow_4 (LX9_putOutBelow_4 n) σ x1 x2 x3
theorem okLX9_putOutBelow_4 {E : ET} {X : XT} {z : Int32 × St} (O : Ok (YC E) X cX9_putOutBelow 4 RX9 (some .boolean) rmX9_putOutBelow (some (.int z.1)) z.2) : ∀ (n : Nat) (σ : St) (x1 : Int32) (x2 : Int32) (x3 : Int32), LX9_putOutBelow_4 n σ x1 x2 x3 = some z → At (YC E) X 4 4 [(0, .ref (E.2.2.2.2 10)), (1, .int x1), (2, .int x2), (3, .int x3)] [] σ := by
  intro n
  induction n with
  | zero =>
    intro σ x1 x2 x3 hf
    rw [LX9_putOutBelow_4] at hf
    cases hf
  | succ n ih =>
    intro σ x1 x2 x3 hf
    rw [LX9_putOutBelow_4] at hf
    exact okBX9_putOutBelow_4 O (LX9_putOutBelow_4 n) ih σ x1 x2 x3 hf
def fX9_putOutBelow (a0 : Int32) (σ : St) : Option (Int32 × St) :=
  LX9_putOutBelow_4 fu σ a0 0 0
set_option maxRecDepth 100000 in
theorem ctX9_putOutBelow {E : ET} (hE : Dj (YC E)) (a0 : Int32) (σ : St) (z : Int32 × St) (hf : fX9_putOutBelow a0 σ = some z) : Ct (YC E) yX9_putOutBelow cX9_putOutBelow 4 (some .boolean) rmX9_putOutBelow [.ref (E.2.2.2.2 10), .int a0] σ (some (.int z.1)) z.2 := by
  refine Ct.of hE (by decide) (Nat.le_of_ble_eq_true rfl) (fun X O => ?_)
  have O : Ok (YC E) X cX9_putOutBelow 4 RX9 (some .boolean) rmX9_putOutBelow (some (.int z.1)) z.2 := O
  show At (YC E) X 4 0 [(0, .ref (E.2.2.2.2 10)), (1, .int a0)] [] σ
  unfold fX9_putOutBelow at hf
  refine a_iconst (pc' := 1) (v := 0) O dX9_putOutBelow_0 (by decide) rfl ?_
  refine a_istore_n (pc' := 2) (lv' := [(2, .int 0), (0, .ref (E.2.2.2.2 10)), (1, .int a0)]) O dX9_putOutBelow_1 rfl (by decide) rfl rfl ?_
  refine a_iconst (pc' := 3) (v := 0) O dX9_putOutBelow_2 (by decide) rfl ?_
  refine a_istore_n (pc' := 4) (lv' := [(3, .int 0), (2, .int 0), (0, .ref (E.2.2.2.2 10)), (1, .int a0)]) O dX9_putOutBelow_3 rfl (by decide) rfl rfl ?_
  exact a_sub [2, 3, 1, 0] rfl (okLX9_putOutBelow_4 O fu σ a0 0 0 hf)
def rmX9_litMinutes : Room := { frames := 2, cells := 0, slots := 0, locals := 44 }
def BX9_litMinutes_50 (k3 : St → Int32 → Int32 → Int32 → Option (Int32 × St)) (σ : St) (x1 : Int32) (x2 : Int32) (x5 : Int32) (y0 : Int32) : Option (Int32 × St) :=
  (fX9_putOutBelow y0 σ).bind (fun z7 => if z7.1 = 0 then some (y0, z7.2) else (bI (x5 + 1) (fun v9 => k3 z7.2 x1 x2 v9)))
set_option maxRecDepth 100000 in
theorem okBX9_litMinutes_50 {E : ET} {X : XT} {z : Int32 × St} (O : Ok (YC E) X cX9_litMinutes 9 RX9 (some .int) rmX9_litMinutes (some (.int z.1)) z.2) (k3 : St → Int32 → Int32 → Int32 → Option (Int32 × St)) (hk3 : ∀ (σ : St) (x1 : Int32) (x2 : Int32) (x5 : Int32), k3 σ x1 x2 x5 = some z → At (YC E) X 9 3 [(0, .ref (E.2.2.2.2 10)), (1, .int x1), (2, .int x2), (3, .ref (E.2.2.2.2 5)), (4, .ref (E.2.2.2.2 8)), (5, .int x5)] [] σ) (σ : St) (x1 : Int32) (x2 : Int32) (x5 : Int32) (y0 : Int32) (hf : BX9_litMinutes_50 k3 σ x1 x2 x5 y0 = some z) : At (YC E) X 9 50 [(0, .ref (E.2.2.2.2 10)), (1, .int x1), (2, .int x2), (3, .ref (E.2.2.2.2 5)), (4, .ref (E.2.2.2.2 8)), (5, .int x5)] [.int y0] σ := by
  have hE := O.2.2.2.2.2.2.2.2.2.1
  unfold BX9_litMinutes_50 at hf
  refine a_istore (pc' := 52) (lv' := [(8, .int y0), (0, .ref (E.2.2.2.2 10)), (1, .int x1), (2, .int x2), (3, .ref (E.2.2.2.2 5)), (4, .ref (E.2.2.2.2 8)), (5, .int x5)]) O dX9_litMinutes_50 (by decide) rfl rfl ?_
  refine a_aload_n (pc' := 53) O dX9_litMinutes_52 rfl 1 rfl rfl ?_
  refine a_iload (pc' := 55) O dX9_litMinutes_53 0 rfl rfl ?_
  obtain ⟨z7, h8, hf⟩ := bd_some hf
  refine a_callVI (pc' := 58) (n := 1) (As := [.int y0]) (st := []) (q0 := 10) O (ctX9_putOutBelow hE y0 σ z7 h8) wm_559 wm_560 wm_561 wm_31 wm_562 (by decide +kernel) (by decide) (gC_10 E _) hc_9 rfl rfl rfl (Nat.le_of_ble_eq_true rfl) dX9_litMinutes_55 rfl ?_
  refine a_if_ne (pc' := 61) (tgt := 64) O dX9_litMinutes_58 (by decide) rfl hf (fun hf => ?_) (fun hf => ?_)
  · refine a_iincB (pc' := 67) (lv' := fun v9 => [(5, .int v9), (8, .int y0), (0, .ref (E.2.2.2.2 10)), (1, .int x1), (2, .int x2), (3, .ref (E.2.2.2.2 5)), (4, .ref (E.2.2.2.2 8))]) (c0 := 1) O dX9_litMinutes_64 6 rfl (by decide) (by decide) (fun _ => rfl) rfl hf (fun v9 hf => ?_)
    refine a_goto (tgt := 3) O dX9_litMinutes_67 (by decide) ?_
    exact a_sub [2, 3, 4, 5, 6, 0] rfl (hk3 z7.2 x1 x2 v9 hf)
  · refine a_iload (pc' := 63) O dX9_litMinutes_61 0 rfl rfl ?_
    exact a_iret O hf dX9_litMinutes_63
def BX9_litMinutes_3 (k3 : St → Int32 → Int32 → Int32 → Option (Int32 × St)) (σ : St) (x1 : Int32) (x2 : Int32) (x5 : Int32) : Option (Int32 × St) :=
  if 4 < x5 then some ((-1), σ) else ((fX9_going σ).bind (fun z1 => if z1 = 0 then some ((-1), σ) else ((fX3_toALight z1 σ).bind (fun z3 => if x2 = 0 then (fX1_outMinutes x1 z3 σ).bind (fun z5 => BX9_litMinutes_50 k3 σ x1 x2 x5 z5) else ((fX1_inMinutes x1 σ).bind (fun z10 => BX9_litMinutes_50 k3 σ x1 x2 x5 z10))))))
set_option maxRecDepth 100000 in
theorem okBX9_litMinutes_3 {E : ET} {X : XT} {z : Int32 × St} (O : Ok (YC E) X cX9_litMinutes 9 RX9 (some .int) rmX9_litMinutes (some (.int z.1)) z.2) (k3 : St → Int32 → Int32 → Int32 → Option (Int32 × St)) (hk3 : ∀ (σ : St) (x1 : Int32) (x2 : Int32) (x5 : Int32), k3 σ x1 x2 x5 = some z → At (YC E) X 9 3 [(0, .ref (E.2.2.2.2 10)), (1, .int x1), (2, .int x2), (3, .ref (E.2.2.2.2 5)), (4, .ref (E.2.2.2.2 8)), (5, .int x5)] [] σ) (σ : St) (x1 : Int32) (x2 : Int32) (x5 : Int32) (hf : BX9_litMinutes_3 k3 σ x1 x2 x5 = some z) : At (YC E) X 9 3 [(0, .ref (E.2.2.2.2 10)), (1, .int x1), (2, .int x2), (3, .ref (E.2.2.2.2 5)), (4, .ref (E.2.2.2.2 8)), (5, .int x5)] [] σ := by
  have hE := O.2.2.2.2.2.2.2.2.2.1
  unfold BX9_litMinutes_3 at hf
  refine a_iload (pc' := 5) O dX9_litMinutes_3 5 rfl rfl ?_
  refine a_iconst (pc' := 6) (v := 4) O dX9_litMinutes_5 (by decide) rfl ?_
  refine a_icmp_gt (pc' := 9) (tgt := 70) O dX9_litMinutes_6 (by decide) rfl hf (fun hf => ?_) (fun hf => ?_)
  · refine a_iconst (pc' := 71) (v := (-1)) O dX9_litMinutes_70 (by decide) rfl ?_
    exact a_iret O hf dX9_litMinutes_71
  · refine a_aload_n (pc' := 10) O dX9_litMinutes_9 rfl 0 rfl rfl ?_
    obtain ⟨z1, h2, hf⟩ := bd_some hf
    refine a_callVI (pc' := 13) (n := 0) (As := []) (st := []) (q0 := 10) O (ctX9_going hE σ z1 h2) wm_554 wm_555 wm_556 wm_31 wm_557 (by decide +kernel) (by decide) (gC_10 E _) hc_9 rfl rfl rfl (Nat.le_of_ble_eq_true rfl) dX9_litMinutes_10 rfl ?_
    refine a_istore (pc' := 15) (lv' := [(6, .int z1), (0, .ref (E.2.2.2.2 10)), (1, .int x1), (2, .int x2), (3, .ref (E.2.2.2.2 5)), (4, .ref (E.2.2.2.2 8)), (5, .int x5)]) O dX9_litMinutes_13 (by decide) rfl rfl ?_
    refine a_iload (pc' := 17) O dX9_litMinutes_15 0 rfl rfl ?_
    refine a_if_ne (pc' := 20) (tgt := 22) O dX9_litMinutes_17 (by decide) rfl hf (fun hf => ?_) (fun hf => ?_)
    · refine a_aload (pc' := 24) O dX9_litMinutes_22 5 rfl rfl ?_
      refine a_iload (pc' := 26) O dX9_litMinutes_24 0 rfl rfl ?_
      obtain ⟨z3, h4, hf⟩ := bd_some hf
      refine a_callVI (pc' := 29) (n := 1) (As := [.int z1]) (st := []) (q0 := 8) O (ctX3_toALight hE z1 σ z3 h4) wm_558 wm_448 wm_449 wm_27 wm_450 (by decide +kernel) (by decide) (gC_8 E _) hc_3 rfl rfl rfl (Nat.le_of_ble_eq_true rfl) dX9_litMinutes_26 rfl ?_
      refine a_istore (pc' := 31) (lv' := [(7, .int z3), (6, .int z1), (0, .ref (E.2.2.2.2 10)), (1, .int x1), (2, .int x2), (3, .ref (E.2.2.2.2 5)), (4, .ref (E.2.2.2.2 8)), (5, .int x5)]) O dX9_litMinutes_29 (by decide) rfl rfl ?_
      refine a_iload_n (pc' := 32) O dX9_litMinutes_31 rfl 4 rfl rfl ?_
      refine a_if_eq (pc' := 35) (tgt := 43) O dX9_litMinutes_32 (by decide) rfl hf (fun hf => ?_) (fun hf => ?_)
      · refine a_aload_n (pc' := 44) O dX9_litMinutes_43 rfl 5 rfl rfl ?_
        refine a_iload_n (pc' := 45) O dX9_litMinutes_44 rfl 3 rfl rfl ?_
        refine a_iload (pc' := 47) O dX9_litMinutes_45 0 rfl rfl ?_
        obtain ⟨z5, h6, hf⟩ := bd_some hf
        refine a_callVI (pc' := 50) (n := 2) (As := [.int x1, .int z3]) (st := []) (q0 := 5) O (ctX1_outMinutes hE x1 z3 σ z5 h6) wm_549 wm_395 wm_396 wm_19 wm_397 (by decide +kernel) (by decide) (gC_5 E _) hc_1 rfl rfl rfl (Nat.le_of_ble_eq_true rfl) dX9_litMinutes_47 rfl ?_
        exact a_sub [2, 3, 4, 5, 6, 7] rfl (okBX9_litMinutes_50 O k3 hk3 σ x1 x2 x5 z5 hf)
      · refine a_aload_n (pc' := 36) O dX9_litMinutes_35 rfl 5 rfl rfl ?_
        refine a_iload_n (pc' := 37) O dX9_litMinutes_36 rfl 3 rfl rfl ?_
        obtain ⟨z10, h11, hf⟩ := bd_some hf
        refine a_callVI (pc' := 40) (n := 1) (As := [.int x1]) (st := []) (q0 := 5) O (ctX1_inMinutes hE x1 σ z10 h11) wm_548 wm_400 wm_401 wm_19 wm_402 (by decide +kernel) (by decide) (gC_5 E _) hc_1 rfl rfl rfl (Nat.le_of_ble_eq_true rfl) dX9_litMinutes_37 rfl ?_
        refine a_goto (tgt := 50) O dX9_litMinutes_40 (by decide) ?_
        exact a_sub [2, 3, 4, 5, 6, 7] rfl (okBX9_litMinutes_50 O k3 hk3 σ x1 x2 x5 z10 hf)
    · refine a_iconst (pc' := 21) (v := (-1)) O dX9_litMinutes_20 (by decide) rfl ?_
      exact a_iret O hf dX9_litMinutes_21
def LX9_litMinutes_3 : Nat → St → Int32 → Int32 → Int32 → Option (Int32 × St)
  | 0, _, _, _, _ => none
  | n + 1, σ, x1, x2, x5 => BX9_litMinutes_3 (LX9_litMinutes_3 n) σ x1 x2 x5
theorem okLX9_litMinutes_3 {E : ET} {X : XT} {z : Int32 × St} (O : Ok (YC E) X cX9_litMinutes 9 RX9 (some .int) rmX9_litMinutes (some (.int z.1)) z.2) : ∀ (n : Nat) (σ : St) (x1 : Int32) (x2 : Int32) (x5 : Int32), LX9_litMinutes_3 n σ x1 x2 x5 = some z → At (YC E) X 9 3 [(0, .ref (E.2.2.2.2 10)), (1, .int x1), (2, .int x2), (3, .ref (E.2.2.2.2 5)), (4, .ref (E.2.2.2.2 8)), (5, .int x5)] [] σ := by
  intro n
  induction n with
  | zero =>
    intro σ x1 x2 x5 hf
    rw [LX9_litMinutes_3] at hf
    cases hf
  | succ n ih =>
    intro σ x1 x2 x5 hf
    rw [LX9_litMinutes_3] at hf
    exact okBX9_litMinutes_3 O (LX9_litMinutes_3 n) ih σ x1 x2 x5 hf
def fX9_litMinutes (a0 : Int32) (a1 : Int32) (σ : St) : Option (Int32 × St) :=
  LX9_litMinutes_3 fu σ a0 a1 0
set_option maxRecDepth 100000 in
theorem ctX9_litMinutes {E : ET} (hE : Dj (YC E)) (a0 : Int32) (a1 : Int32) (σ : St) (z : Int32 × St) (hf : fX9_litMinutes a0 a1 σ = some z) : Ct (YC E) yX9_litMinutes cX9_litMinutes 9 (some .int) rmX9_litMinutes [.ref (E.2.2.2.2 10), .int a0, .int a1, .ref (E.2.2.2.2 5), .ref (E.2.2.2.2 8)] σ (some (.int z.1)) z.2 := by
  refine Ct.of hE (by decide) (Nat.le_of_ble_eq_true rfl) (fun X O => ?_)
  have O : Ok (YC E) X cX9_litMinutes 9 RX9 (some .int) rmX9_litMinutes (some (.int z.1)) z.2 := O
  show At (YC E) X 9 0 [(0, .ref (E.2.2.2.2 10)), (1, .int a0), (2, .int a1), (3, .ref (E.2.2.2.2 5)), (4, .ref (E.2.2.2.2 8))] [] σ
  unfold fX9_litMinutes at hf
  refine a_iconst (pc' := 1) (v := 0) O dX9_litMinutes_0 (by decide) rfl ?_
  refine a_istore (pc' := 3) (lv' := [(5, .int 0), (0, .ref (E.2.2.2.2 10)), (1, .int a0), (2, .int a1), (3, .ref (E.2.2.2.2 5)), (4, .ref (E.2.2.2.2 8))]) O dX9_litMinutes_1 (by decide) rfl rfl ?_
  exact a_sub [1, 2, 3, 4, 5, 0] rfl (okLX9_litMinutes_3 O fu σ a0 a1 0 hf)
def rmX9_burn : Room := { frames := 0, cells := 0, slots := 0, locals := 0 }
def BX9_burn_2 (k2 : St → Int32 → Int32 → Option St) (σ : St) (x1 : Int32) (x2 : Int32) : Option St :=
  if 4 ≤ x2 then some σ else (gIn x2 4 (if (σ.2.2 12 x2.toNatClampNeg) = 0 then bI (x2 + 1) (fun v1 => k2 σ x1 v1) else (gIn x2 4 (gIn x2 4 (bS (sA σ 11 x2.toNatClampNeg ((σ.2.2 11 x2.toNatClampNeg) - x1)) (fun σ2 => bI (x2 + 1) (fun v3 => k2 σ2 x1 v3)))))))
set_option maxRecDepth 100000 in
theorem okBX9_burn_2 {E : ET} {X : XT} {z : St} (O : Ok (YC E) X cX9_burn 3 RX9 none rmX9_burn none z) (k2 : St → Int32 → Int32 → Option St) (hk2 : ∀ (σ : St) (x1 : Int32) (x2 : Int32), k2 σ x1 x2 = some z → At (YC E) X 3 2 [(0, .ref (E.2.2.2.2 10)), (1, .int x1), (2, .int x2)] [] σ) (σ : St) (x1 : Int32) (x2 : Int32) (hf : BX9_burn_2 k2 σ x1 x2 = some z) : At (YC E) X 3 2 [(0, .ref (E.2.2.2.2 10)), (1, .int x1), (2, .int x2)] [] σ := by
  have hE := O.2.2.2.2.2.2.2.2.2.1
  unfold BX9_burn_2 at hf
  refine a_iload_n (pc' := 3) O dX9_burn_2 rfl 2 rfl rfl ?_
  refine a_iconst (pc' := 4) (v := 4) O dX9_burn_3 (by decide) rfl ?_
  refine a_icmp_ge (pc' := 7) (tgt := 32) O dX9_burn_4 (by decide) rfl hf (fun hf => ?_) (fun hf => ?_)
  · exact a_vret O hf dX9_burn_32
  · refine a_aload_n (pc' := 8) O dX9_burn_7 rfl 0 rfl rfl ?_
    refine gfC_10_1 (pc' := 11) O dX9_burn_8 rfl ?_
    refine a_iload_n (pc' := 12) O dX9_burn_11 rfl 2 rfl rfl ?_
    refine laC_12 (pc' := 13) O hf dX9_burn_12 rfl (fun hf => ?_)
    refine a_if_eq (pc' := 16) (tgt := 26) O dX9_burn_13 (by decide) rfl hf (fun hf => ?_) (fun hf => ?_)
    · refine a_iincB (pc' := 29) (lv' := fun v1 => [(2, .int v1), (0, .ref (E.2.2.2.2 10)), (1, .int x1)]) (c0 := 1) O dX9_burn_26 2 rfl (by decide) (by decide) (fun _ => rfl) rfl hf (fun v1 hf => ?_)
      refine a_goto (tgt := 2) O dX9_burn_29 (by decide) ?_
      exact a_sub [1, 2, 0] rfl (hk2 σ x1 v1 hf)
    · refine a_aload_n (pc' := 17) O dX9_burn_16 rfl 0 rfl rfl ?_
      refine gfC_10_0 (pc' := 20) O dX9_burn_17 rfl ?_
      refine a_iload_n (pc' := 21) O dX9_burn_20 rfl 2 rfl rfl ?_
      refine a_dup2_11 (pc' := 22) O dX9_burn_21 rfl rfl rfl ?_
      refine laC_11 (pc' := 23) O hf dX9_burn_22 rfl (fun hf => ?_)
      refine a_iload_n (pc' := 24) O dX9_burn_23 rfl 1 rfl rfl ?_
      refine a_isub (pc' := 25) O dX9_burn_24 rfl ?_
      refine saC_11 (pc' := 26) O hf dX9_burn_25 rfl (fun σ2 hf => ?_)
      refine a_iincB (pc' := 29) (lv' := fun v3 => [(2, .int v3), (0, .ref (E.2.2.2.2 10)), (1, .int x1)]) (c0 := 1) O dX9_burn_26 2 rfl (by decide) (by decide) (fun _ => rfl) rfl hf (fun v3 hf => ?_)
      refine a_goto (tgt := 2) O dX9_burn_29 (by decide) ?_
      exact a_sub [1, 2, 0] rfl (hk2 σ2 x1 v3 hf)
def LX9_burn_2 : Nat → St → Int32 → Int32 → Option St
  | 0, _, _, _ => none
  | n + 1, σ, x1, x2 => BX9_burn_2 (LX9_burn_2 n) σ x1 x2
theorem okLX9_burn_2 {E : ET} {X : XT} {z : St} (O : Ok (YC E) X cX9_burn 3 RX9 none rmX9_burn none z) : ∀ (n : Nat) (σ : St) (x1 : Int32) (x2 : Int32), LX9_burn_2 n σ x1 x2 = some z → At (YC E) X 3 2 [(0, .ref (E.2.2.2.2 10)), (1, .int x1), (2, .int x2)] [] σ := by
  intro n
  induction n with
  | zero =>
    intro σ x1 x2 hf
    rw [LX9_burn_2] at hf
    cases hf
  | succ n ih =>
    intro σ x1 x2 hf
    rw [LX9_burn_2] at hf
    exact okBX9_burn_2 O (LX9_burn_2 n) ih σ x1 x2 hf
def fX9_burn (a0 : Int32) (σ : St) : Option St :=
  LX9_burn_2 fu σ a0 0
set_option maxRecDepth 100000 in
theorem ctX9_burn {E : ET} (hE : Dj (YC E)) (a0 : Int32) (σ : St) (z : St) (hf : fX9_burn a0 σ = some z) : Ct (YC E) yX9_burn cX9_burn 3 none rmX9_burn [.ref (E.2.2.2.2 10), .int a0] σ none z := by
  refine Ct.of hE (by decide) (Nat.le_of_ble_eq_true rfl) (fun X O => ?_)
  have O : Ok (YC E) X cX9_burn 3 RX9 none rmX9_burn none z := O
  show At (YC E) X 3 0 [(0, .ref (E.2.2.2.2 10)), (1, .int a0)] [] σ
  unfold fX9_burn at hf
  refine a_iconst (pc' := 1) (v := 0) O dX9_burn_0 (by decide) rfl ?_
  refine a_istore_n (pc' := 2) (lv' := [(2, .int 0), (0, .ref (E.2.2.2.2 10)), (1, .int a0)]) O dX9_burn_1 rfl (by decide) rfl rfl ?_
  exact a_sub [1, 2, 0] rfl (okLX9_burn_2 O fu σ a0 0 hf)
def rmX9_step : Room := { frames := 3, cells := 0, slots := 0, locals := 72 }
def BX9_step_91 (σ : St) (x1 : Int32) (x6 : Int32) : Option (Int32 × St) :=
  bS (sI σ 8 ((σ.1 8) + x6)) (fun σ7 => if x1 = 0 then bS (sI σ7 7 ((σ7.1 7) + (-1))) (fun σ8 => some (1, σ8)) else (bS (sI σ7 7 ((σ7.1 7) + 1)) (fun σ9 => some (1, σ9))))
set_option maxRecDepth 100000 in
theorem okBX9_step_91 {E : ET} {X : XT} {z : Int32 × St} (O : Ok (YC E) X cX9_step 7 RX9 (some .boolean) rmX9_step (some (.int z.1)) z.2) (σ : St) (x1 : Int32) (x6 : Int32) (hf : BX9_step_91 σ x1 x6 = some z) : At (YC E) X 7 91 [(0, .ref (E.2.2.2.2 10)), (1, .int x1), (6, .int x6)] [] σ := by
  have hE := O.2.2.2.2.2.2.2.2.2.1
  unfold BX9_step_91 at hf
  refine a_aload_n (pc' := 92) O dX9_step_91 rfl 0 rfl rfl ?_
  refine a_dup (pc' := 93) O dX9_step_92 rfl rfl ?_
  refine gfC_10_3 (pc' := 96) O dX9_step_93 rfl ?_
  refine a_iload (pc' := 98) O dX9_step_96 2 rfl rfl ?_
  refine a_iadd (pc' := 99) O dX9_step_98 rfl ?_
  refine pfC_10_3 (pc' := 102) O hf dX9_step_99 rfl (fun σ7 hf => ?_)
  refine a_aload_n (pc' := 103) O dX9_step_102 rfl 0 rfl rfl ?_
  refine a_dup (pc' := 104) O dX9_step_103 rfl rfl ?_
  refine gfC_10_2 (pc' := 107) O dX9_step_104 rfl ?_
  refine a_iload_n (pc' := 108) O dX9_step_107 rfl 1 rfl rfl ?_
  refine a_if_eq (pc' := 111) (tgt := 115) O dX9_step_108 (by decide) rfl hf (fun hf => ?_) (fun hf => ?_)
  · refine a_iconst (pc' := 116) (v := (-1)) O dX9_step_115 (by decide) rfl ?_
    refine a_iadd (pc' := 117) O dX9_step_116 rfl ?_
    refine pfC_10_2 (pc' := 120) O hf dX9_step_117 rfl (fun σ8 hf => ?_)
    refine a_iconst (pc' := 121) (v := 1) O dX9_step_120 (by decide) rfl ?_
    exact a_zret (Or.inr rfl) O hf dX9_step_121
  · refine a_iconst (pc' := 112) (v := 1) O dX9_step_111 (by decide) rfl ?_
    refine a_goto (tgt := 116) O dX9_step_112 (by decide) ?_
    refine a_iadd (pc' := 117) O dX9_step_116 rfl ?_
    refine pfC_10_2 (pc' := 120) O hf dX9_step_117 rfl (fun σ9 hf => ?_)
    refine a_iconst (pc' := 121) (v := 1) O dX9_step_120 (by decide) rfl ?_
    exact a_zret (Or.inr rfl) O hf dX9_step_121
def BX9_step_70 (σ : St) (x1 : Int32) (x5 : Int32) (y0 : Int32) : Option (Int32 × St) :=
  if y0 = (-1) then some (0, σ) else (if x5 = 0 then (fX9_burn y0 σ).bind (fun z10 => BX9_step_91 z10 x1 y0) else (BX9_step_91 σ x1 y0))
set_option maxRecDepth 100000 in
theorem okBX9_step_70 {E : ET} {X : XT} {z : Int32 × St} (O : Ok (YC E) X cX9_step 7 RX9 (some .boolean) rmX9_step (some (.int z.1)) z.2) (σ : St) (x1 : Int32) (x5 : Int32) (y0 : Int32) (hf : BX9_step_70 σ x1 x5 y0 = some z) : At (YC E) X 7 70 [(0, .ref (E.2.2.2.2 10)), (1, .int x1), (5, .int x5)] [.int y0] σ := by
  have hE := O.2.2.2.2.2.2.2.2.2.1
  unfold BX9_step_70 at hf
  refine a_istore (pc' := 72) (lv' := [(6, .int y0), (0, .ref (E.2.2.2.2 10)), (1, .int x1), (5, .int x5)]) O dX9_step_70 (by decide) rfl rfl ?_
  refine a_iload (pc' := 74) O dX9_step_72 0 rfl rfl ?_
  refine a_iconst (pc' := 75) (v := (-1)) O dX9_step_74 (by decide) rfl ?_
  refine a_icmp_ne (pc' := 78) (tgt := 80) O dX9_step_75 (by decide) rfl hf (fun hf => ?_) (fun hf => ?_)
  · refine a_iload (pc' := 82) O dX9_step_80 3 rfl rfl ?_
    refine a_if_ne (pc' := 85) (tgt := 91) O dX9_step_82 (by decide) rfl hf (fun hf => ?_) (fun hf => ?_)
    · exact a_sub [1, 2, 0] rfl (okBX9_step_91 O σ x1 y0 hf)
    · refine a_aload_n (pc' := 86) O dX9_step_85 rfl 1 rfl rfl ?_
      refine a_iload (pc' := 88) O dX9_step_86 0 rfl rfl ?_
      obtain ⟨z10, h11, hf⟩ := bd_some hf
      refine a_callVN (pc' := 91) (n := 1) (As := [.int y0]) (st := []) (q0 := 10) O (ctX9_burn hE y0 σ z10 h11) wm_563 wm_564 wm_565 wm_31 wm_566 (by decide +kernel) (by decide) (gC_10 E _) hc_9 rfl rfl rfl (Nat.le_of_ble_eq_true rfl) dX9_step_88 rfl ?_
      exact a_sub [1, 2, 0] rfl (okBX9_step_91 O z10 x1 y0 hf)
  · refine a_iconst (pc' := 79) (v := 0) O dX9_step_78 (by decide) rfl ?_
    exact a_zret (Or.inl rfl) O hf dX9_step_79
def BX9_step_17 (σ : St) (x1 : Int32) (y0 : Int32) : Option (Int32 × St) :=
  bI (σ.1 10) (fun v1 => bS (sI σ 10 0) (fun σ2 => if y0 < 0 then some (0, σ2) else ((fX1_size σ2).bind (fun z3 => if y0 < z3 then if v1 = 0 then (fX9_litMinutes y0 x1 σ2).bind (fun z5 => BX9_step_70 z5.2 x1 v1 z5.1) else ((fX9_unlitMinutes y0 x1 σ2).bind (fun z12 => BX9_step_70 σ2 x1 v1 z12)) else (some (0, σ2))))))
set_option maxRecDepth 100000 in
theorem okBX9_step_17 {E : ET} {X : XT} {z : Int32 × St} (O : Ok (YC E) X cX9_step 7 RX9 (some .boolean) rmX9_step (some (.int z.1)) z.2) (σ : St) (x1 : Int32) (y0 : Int32) (hf : BX9_step_17 σ x1 y0 = some z) : At (YC E) X 7 17 [(0, .ref (E.2.2.2.2 10)), (1, .int x1), (2, .ref (E.2.2.2.2 5)), (3, .ref (E.2.2.2.2 8))] [.int y0] σ := by
  have hE := O.2.2.2.2.2.2.2.2.2.1
  unfold BX9_step_17 at hf
  refine a_istore (pc' := 19) (lv' := [(4, .int y0), (0, .ref (E.2.2.2.2 10)), (1, .int x1), (2, .ref (E.2.2.2.2 5)), (3, .ref (E.2.2.2.2 8))]) O dX9_step_17 (by decide) rfl rfl ?_
  refine a_aload_n (pc' := 20) O dX9_step_19 rfl 1 rfl rfl ?_
  refine gfC_10_5 (pc' := 23) O dX9_step_20 rfl ?_
  refine a_topi hf (fun v1 hf => ?_)
  refine a_istore (pc' := 25) (lv' := [(5, .int v1), (4, .int y0), (0, .ref (E.2.2.2.2 10)), (1, .int x1), (2, .ref (E.2.2.2.2 5)), (3, .ref (E.2.2.2.2 8))]) O dX9_step_23 (by decide) rfl rfl ?_
  refine a_aload_n (pc' := 26) O dX9_step_25 rfl 2 rfl rfl ?_
  refine a_iconst (pc' := 27) (v := 0) O dX9_step_26 (by decide) rfl ?_
  refine pfC_10_5 (pc' := 30) O (Or.inl rfl) hf dX9_step_27 rfl (fun σ2 hf => ?_)
  refine a_iload (pc' := 32) O dX9_step_30 1 rfl rfl ?_
  refine a_if_lt (pc' := 35) (tgt := 44) O dX9_step_32 (by decide) rfl hf (fun hf => ?_) (fun hf => ?_)
  · refine a_iconst (pc' := 45) (v := 0) O dX9_step_44 (by decide) rfl ?_
    exact a_zret (Or.inl rfl) O hf dX9_step_45
  · refine a_iload (pc' := 37) O dX9_step_35 1 rfl rfl ?_
    refine a_aload_n (pc' := 38) O dX9_step_37 rfl 4 rfl rfl ?_
    obtain ⟨z3, h4, hf⟩ := bd_some hf
    refine a_callVI (pc' := 41) (n := 0) (As := []) (st := [.int y0]) (q0 := 5) O (ctX1_size hE σ2 z3 h4) wm_543 wm_274 wm_275 wm_19 wm_276 (by decide +kernel) (by decide) (gC_5 E _) hc_1 rfl rfl rfl (Nat.le_of_ble_eq_true rfl) dX9_step_38 rfl ?_
    refine a_icmp_lt (pc' := 44) (tgt := 46) O dX9_step_41 (by decide) rfl hf (fun hf => ?_) (fun hf => ?_)
    · refine a_iload (pc' := 48) O dX9_step_46 0 rfl rfl ?_
      refine a_if_eq (pc' := 51) (tgt := 61) O dX9_step_48 (by decide) rfl hf (fun hf => ?_) (fun hf => ?_)
      · refine a_aload_n (pc' := 62) O dX9_step_61 rfl 2 rfl rfl ?_
        refine a_iload (pc' := 64) O dX9_step_62 1 rfl rfl ?_
        refine a_iload_n (pc' := 65) O dX9_step_64 rfl 3 rfl rfl ?_
        refine a_aload_n (pc' := 66) O dX9_step_65 rfl 4 rfl rfl ?_
        refine a_aload_n (pc' := 67) O dX9_step_66 rfl 5 rfl rfl ?_
        obtain ⟨z5, h6, hf⟩ := bd_some hf
        refine a_callVI (pc' := 70) (n := 4) (As := [.int y0, .int x1, .ref (E.2.2.2.2 5), .ref (E.2.2.2.2 8)]) (st := []) (q0 := 10) O (ctX9_litMinutes hE y0 x1 σ2 z5 h6) wm_550 wm_551 wm_552 wm_31 wm_553 (by decide +kernel) (by decide) (gC_10 E _) hc_9 rfl rfl rfl (Nat.le_of_ble_eq_true rfl) dX9_step_67 rfl ?_
        exact a_sub [2, 3, 0] rfl (okBX9_step_70 O z5.2 x1 v1 z5.1 hf)
      · refine a_iload (pc' := 53) O dX9_step_51 1 rfl rfl ?_
        refine a_iload_n (pc' := 54) O dX9_step_53 rfl 3 rfl rfl ?_
        refine a_aload_n (pc' := 55) O dX9_step_54 rfl 4 rfl rfl ?_
        obtain ⟨z12, h13, hf⟩ := bd_some hf
        refine a_callSI (pc' := 58) (n := 3) (As := [.int y0, .int x1, .ref (E.2.2.2.2 5)]) (st := []) O (ctX9_unlitMinutes hE y0 x1 σ2 z12 h13) wm_544 wm_545 wm_31 wm_546 (by decide +kernel) (by decide) rfl rfl (Nat.le_of_ble_eq_true rfl) dX9_step_55 rfl ?_
        refine a_goto (tgt := 70) O dX9_step_58 (by decide) ?_
        exact a_sub [2, 3, 0] rfl (okBX9_step_70 O σ2 x1 v1 z12 hf)
    · refine a_iconst (pc' := 45) (v := 0) O dX9_step_44 (by decide) rfl ?_
      exact a_zret (Or.inl rfl) O hf dX9_step_45
def fX9_step (a0 : Int32) (σ : St) : Option (Int32 × St) :=
  if a0 = 0 then BX9_step_17 σ a0 ((σ.1 7) - 1) else (BX9_step_17 σ a0 (σ.1 7))
set_option maxRecDepth 100000 in
theorem ctX9_step {E : ET} (hE : Dj (YC E)) (a0 : Int32) (σ : St) (z : Int32 × St) (hf : fX9_step a0 σ = some z) : Ct (YC E) yX9_step cX9_step 7 (some .boolean) rmX9_step [.ref (E.2.2.2.2 10), .int a0, .ref (E.2.2.2.2 5), .ref (E.2.2.2.2 8)] σ (some (.int z.1)) z.2 := by
  refine Ct.of hE (by decide) (Nat.le_of_ble_eq_true rfl) (fun X O => ?_)
  have O : Ok (YC E) X cX9_step 7 RX9 (some .boolean) rmX9_step (some (.int z.1)) z.2 := O
  show At (YC E) X 7 0 [(0, .ref (E.2.2.2.2 10)), (1, .int a0), (2, .ref (E.2.2.2.2 5)), (3, .ref (E.2.2.2.2 8))] [] σ
  unfold fX9_step at hf
  refine a_iload_n (pc' := 1) O dX9_step_0 rfl 1 rfl rfl ?_
  refine a_if_eq (pc' := 4) (tgt := 11) O dX9_step_1 (by decide) rfl hf (fun hf => ?_) (fun hf => ?_)
  · refine a_aload_n (pc' := 12) O dX9_step_11 rfl 0 rfl rfl ?_
    refine gfC_10_2 (pc' := 15) O dX9_step_12 rfl ?_
    refine a_iconst (pc' := 16) (v := 1) O dX9_step_15 (by decide) rfl ?_
    refine a_isub (pc' := 17) O dX9_step_16 rfl ?_
    exact a_sub [0, 1, 2, 3] rfl (okBX9_step_17 O σ a0 ((σ.1 7) - 1) hf)
  · refine a_aload_n (pc' := 5) O dX9_step_4 rfl 0 rfl rfl ?_
    refine gfC_10_2 (pc' := 8) O dX9_step_5 rfl ?_
    refine a_goto (tgt := 17) O dX9_step_8 (by decide) ?_
    exact a_sub [0, 1, 2, 3] rfl (okBX9_step_17 O σ a0 (σ.1 7) hf)
def rmX9_run : Room := { frames := 4, cells := 0, slots := 0, locals := 98 }
def BX9_run_98 (k9 : St → Int32 → Int32 → Option St) (σ : St) (x2 : Int32) (x5 : Int32) (y0 : Int32) : Option St :=
  (fX9_step y0 σ).bind (fun z5 => if z5.1 = 0 then bS (sI z5.2 9 x5) (fun σ8 => bI (x5 + 1) (fun v9 => k9 σ8 x2 v9)) else (bI (x5 + 1) (fun v7 => k9 z5.2 x2 v7)))
set_option maxRecDepth 100000 in
theorem okBX9_run_98 {E : ET} {X : XT} {z : St} (O : Ok (YC E) X cX9_run 7 RX9 none rmX9_run none z) (k9 : St → Int32 → Int32 → Option St) (hk9 : ∀ (σ : St) (x2 : Int32) (x5 : Int32), k9 σ x2 x5 = some z → At (YC E) X 7 9 [(0, .ref (E.2.2.2.2 10)), (1, .ref (E.2.2.2.2 3)), (2, .int x2), (3, .ref (E.2.2.2.2 5)), (4, .ref (E.2.2.2.2 8)), (5, .int x5)] [] σ) (σ : St) (x2 : Int32) (x5 : Int32) (y0 : Int32) (hf : BX9_run_98 k9 σ x2 x5 y0 = some z) : At (YC E) X 7 98 [(0, .ref (E.2.2.2.2 10)), (1, .ref (E.2.2.2.2 3)), (2, .int x2), (3, .ref (E.2.2.2.2 5)), (4, .ref (E.2.2.2.2 8)), (5, .int x5)] [.int y0, .ref (E.2.2.2.2 10)] σ := by
  have hE := O.2.2.2.2.2.2.2.2.2.1
  unfold BX9_run_98 at hf
  refine a_aload_n (pc' := 99) O dX9_run_98 rfl 3 rfl rfl ?_
  refine a_aload (pc' := 101) O dX9_run_99 4 rfl rfl ?_
  obtain ⟨z5, h6, hf⟩ := bd_some hf
  refine a_callVI (pc' := 104) (n := 3) (As := [.int y0, .ref (E.2.2.2.2 5), .ref (E.2.2.2.2 8)]) (st := []) (q0 := 10) O (ctX9_step hE y0 σ z5 h6) wm_539 wm_540 wm_541 wm_31 wm_542 (by decide +kernel) (by decide) (gC_10 E _) hc_9 rfl rfl rfl (Nat.le_of_ble_eq_true rfl) dX9_run_101 rfl ?_
  refine a_if_ne (pc' := 107) (tgt := 113) O dX9_run_104 (by decide) rfl hf (fun hf => ?_) (fun hf => ?_)
  · refine a_iincB (pc' := 116) (lv' := fun v7 => [(5, .int v7), (0, .ref (E.2.2.2.2 10)), (1, .ref (E.2.2.2.2 3)), (2, .int x2), (3, .ref (E.2.2.2.2 5)), (4, .ref (E.2.2.2.2 8))]) (c0 := 1) O dX9_run_113 5 rfl (by decide) (by decide) (fun _ => rfl) rfl hf (fun v7 hf => ?_)
    refine a_goto (tgt := 9) O dX9_run_116 (by decide) ?_
    exact a_sub [1, 2, 3, 4, 5, 0] rfl (hk9 z5.2 x2 v7 hf)
  · refine a_aload_n (pc' := 108) O dX9_run_107 rfl 0 rfl rfl ?_
    refine a_iload (pc' := 110) O dX9_run_108 5 rfl rfl ?_
    refine pfC_10_4 (pc' := 113) O hf dX9_run_110 rfl (fun σ8 hf => ?_)
    refine a_iincB (pc' := 116) (lv' := fun v9 => [(5, .int v9), (0, .ref (E.2.2.2.2 10)), (1, .ref (E.2.2.2.2 3)), (2, .int x2), (3, .ref (E.2.2.2.2 5)), (4, .ref (E.2.2.2.2 8))]) (c0 := 1) O dX9_run_113 5 rfl (by decide) (by decide) (fun _ => rfl) rfl hf (fun v9 hf => ?_)
    refine a_goto (tgt := 9) O dX9_run_116 (by decide) ?_
    exact a_sub [1, 2, 3, 4, 5, 0] rfl (hk9 σ8 x2 v9 hf)
def BX9_run_9 (k9 : St → Int32 → Int32 → Option St) (σ : St) (x2 : Int32) (x5 : Int32) : Option St :=
  if x2 ≤ x5 then some σ else (if (σ.1 9) = (-1) then (fX7_at_3 x5 σ).bind (fun z3 => if (σ.1 11) = 0 then if z3 = 120 then bS (sI σ 11 1) (fun σ12 => bI (x5 + 1) (fun v13 => k9 σ12 x2 v13)) else (if z3 = 117 then bS (sI σ 10 1) (fun σ10 => bI (x5 + 1) (fun v11 => k9 σ10 x2 v11)) else (if z3 = 43 then BX9_run_98 k9 σ x2 x5 1 else (BX9_run_98 k9 σ x2 x5 0))) else (bS (sI σ 11 0) (fun σ14 => (fX9_putOut (z3 - 48) σ14).bind (fun z15 => bI (x5 + 1) (fun v17 => k9 z15 x2 v17))))) else (some σ))
set_option maxRecDepth 100000 in
theorem okBX9_run_9 {E : ET} {X : XT} {z : St} (O : Ok (YC E) X cX9_run 7 RX9 none rmX9_run none z) (k9 : St → Int32 → Int32 → Option St) (hk9 : ∀ (σ : St) (x2 : Int32) (x5 : Int32), k9 σ x2 x5 = some z → At (YC E) X 7 9 [(0, .ref (E.2.2.2.2 10)), (1, .ref (E.2.2.2.2 3)), (2, .int x2), (3, .ref (E.2.2.2.2 5)), (4, .ref (E.2.2.2.2 8)), (5, .int x5)] [] σ) (σ : St) (x2 : Int32) (x5 : Int32) (hf : BX9_run_9 k9 σ x2 x5 = some z) : At (YC E) X 7 9 [(0, .ref (E.2.2.2.2 10)), (1, .ref (E.2.2.2.2 3)), (2, .int x2), (3, .ref (E.2.2.2.2 5)), (4, .ref (E.2.2.2.2 8)), (5, .int x5)] [] σ := by
  have hE := O.2.2.2.2.2.2.2.2.2.1
  unfold BX9_run_9 at hf
  refine a_iload (pc' := 11) O dX9_run_9 5 rfl rfl ?_
  refine a_iload_n (pc' := 12) O dX9_run_11 rfl 2 rfl rfl ?_
  refine a_icmp_ge (pc' := 15) (tgt := 119) O dX9_run_12 (by decide) rfl hf (fun hf => ?_) (fun hf => ?_)
  · exact a_vret O hf dX9_run_119
  · refine a_aload_n (pc' := 16) O dX9_run_15 rfl 0 rfl rfl ?_
    refine gfC_10_4 (pc' := 19) O dX9_run_16 rfl ?_
    refine a_iconst (pc' := 20) (v := (-1)) O dX9_run_19 (by decide) rfl ?_
    refine a_icmp_ne (pc' := 23) (tgt := 119) O dX9_run_20 (by decide) rfl hf (fun hf => ?_) (fun hf => ?_)
    · exact a_vret O hf dX9_run_119
    · refine a_aload_n (pc' := 24) O dX9_run_23 rfl 1 rfl rfl ?_
      refine a_iload (pc' := 26) O dX9_run_24 5 rfl rfl ?_
      obtain ⟨z3, h4, hf⟩ := bd_some hf
      refine a_callVI (pc' := 29) (n := 1) (As := [.int x5]) (st := []) (q0 := 3) O (ctX7_at_3 hE x5 σ z3 h4) wm_534 wm_173 wm_174 wm_14 wm_175 (by decide +kernel) (by decide) (gC_3 E _) hc_7 rfl rfl rfl (Nat.le_of_ble_eq_true rfl) dX9_run_26 rfl ?_
      refine a_istore (pc' := 31) (lv' := [(6, .int z3), (0, .ref (E.2.2.2.2 10)), (1, .ref (E.2.2.2.2 3)), (2, .int x2), (3, .ref (E.2.2.2.2 5)), (4, .ref (E.2.2.2.2 8)), (5, .int x5)]) O dX9_run_29 (by decide) rfl rfl ?_
      refine a_aload_n (pc' := 32) O dX9_run_31 rfl 1 rfl rfl ?_
      refine gfC_10_6 (pc' := 35) O dX9_run_32 rfl ?_
      refine a_if_eq (pc' := 38) (tgt := 55) O dX9_run_35 (by decide) rfl hf (fun hf => ?_) (fun hf => ?_)
      · refine a_iload (pc' := 57) O dX9_run_55 0 rfl rfl ?_
        refine a_bipush (pc' := 59) (v := 120) O dX9_run_57 (by decide) rfl ?_
        refine a_icmp_ne (pc' := 62) (tgt := 70) O dX9_run_59 (by decide) rfl hf (fun hf => ?_) (fun hf => ?_)
        · refine a_iload (pc' := 72) O dX9_run_70 0 rfl rfl ?_
          refine a_bipush (pc' := 74) (v := 117) O dX9_run_72 (by decide) rfl ?_
          refine a_icmp_ne (pc' := 77) (tgt := 85) O dX9_run_74 (by decide) rfl hf (fun hf => ?_) (fun hf => ?_)
          · refine a_aload_n (pc' := 86) O dX9_run_85 rfl 1 rfl rfl ?_
            refine a_iload (pc' := 88) O dX9_run_86 0 rfl rfl ?_
            refine a_bipush (pc' := 90) (v := 43) O dX9_run_88 (by decide) rfl ?_
            refine a_icmp_ne (pc' := 93) (tgt := 97) O dX9_run_90 (by decide) rfl hf (fun hf => ?_) (fun hf => ?_)
            · refine a_iconst (pc' := 98) (v := 0) O dX9_run_97 (by decide) rfl ?_
              exact a_sub [1, 2, 3, 4, 5, 6] rfl (okBX9_run_98 O k9 hk9 σ x2 x5 0 hf)
            · refine a_iconst (pc' := 94) (v := 1) O dX9_run_93 (by decide) rfl ?_
              refine a_goto (tgt := 98) O dX9_run_94 (by decide) ?_
              exact a_sub [1, 2, 3, 4, 5, 6] rfl (okBX9_run_98 O k9 hk9 σ x2 x5 1 hf)
          · refine a_aload_n (pc' := 78) O dX9_run_77 rfl 1 rfl rfl ?_
            refine a_iconst (pc' := 79) (v := 1) O dX9_run_78 (by decide) rfl ?_
            refine pfC_10_5 (pc' := 82) O (Or.inr rfl) hf dX9_run_79 rfl (fun σ10 hf => ?_)
            refine a_goto (tgt := 113) O dX9_run_82 (by decide) ?_
            refine a_iincB (pc' := 116) (lv' := fun v11 => [(5, .int v11), (6, .int z3), (0, .ref (E.2.2.2.2 10)), (1, .ref (E.2.2.2.2 3)), (2, .int x2), (3, .ref (E.2.2.2.2 5)), (4, .ref (E.2.2.2.2 8))]) (c0 := 1) O dX9_run_113 6 rfl (by decide) (by decide) (fun _ => rfl) rfl hf (fun v11 hf => ?_)
            refine a_goto (tgt := 9) O dX9_run_116 (by decide) ?_
            exact a_sub [2, 3, 4, 5, 6, 0] rfl (hk9 σ10 x2 v11 hf)
        · refine a_aload_n (pc' := 63) O dX9_run_62 rfl 1 rfl rfl ?_
          refine a_iconst (pc' := 64) (v := 1) O dX9_run_63 (by decide) rfl ?_
          refine pfC_10_6 (pc' := 67) O (Or.inr rfl) hf dX9_run_64 rfl (fun σ12 hf => ?_)
          refine a_goto (tgt := 113) O dX9_run_67 (by decide) ?_
          refine a_iincB (pc' := 116) (lv' := fun v13 => [(5, .int v13), (6, .int z3), (0, .ref (E.2.2.2.2 10)), (1, .ref (E.2.2.2.2 3)), (2, .int x2), (3, .ref (E.2.2.2.2 5)), (4, .ref (E.2.2.2.2 8))]) (c0 := 1) O dX9_run_113 6 rfl (by decide) (by decide) (fun _ => rfl) rfl hf (fun v13 hf => ?_)
          refine a_goto (tgt := 9) O dX9_run_116 (by decide) ?_
          exact a_sub [2, 3, 4, 5, 6, 0] rfl (hk9 σ12 x2 v13 hf)
      · refine a_aload_n (pc' := 39) O dX9_run_38 rfl 1 rfl rfl ?_
        refine a_iconst (pc' := 40) (v := 0) O dX9_run_39 (by decide) rfl ?_
        refine pfC_10_6 (pc' := 43) O (Or.inl rfl) hf dX9_run_40 rfl (fun σ14 hf => ?_)
        refine a_aload_n (pc' := 44) O dX9_run_43 rfl 1 rfl rfl ?_
        refine a_iload (pc' := 46) O dX9_run_44 0 rfl rfl ?_
        refine a_bipush (pc' := 48) (v := 48) O dX9_run_46 (by decide) rfl ?_
        refine a_isub (pc' := 49) O dX9_run_48 rfl ?_
        obtain ⟨z15, h16, hf⟩ := bd_some hf
        refine a_callVN (pc' := 52) (n := 1) (As := [.int (z3 - 48)]) (st := []) (q0 := 10) O (ctX9_putOut hE (z3 - 48) σ14 z15 h16) wm_535 wm_536 wm_537 wm_31 wm_538 (by decide +kernel) (by decide) (gC_10 E _) hc_9 rfl rfl rfl (Nat.le_of_ble_eq_true rfl) dX9_run_49 rfl ?_
        refine a_goto (tgt := 113) O dX9_run_52 (by decide) ?_
        refine a_iincB (pc' := 116) (lv' := fun v17 => [(5, .int v17), (6, .int z3), (0, .ref (E.2.2.2.2 10)), (1, .ref (E.2.2.2.2 3)), (2, .int x2), (3, .ref (E.2.2.2.2 5)), (4, .ref (E.2.2.2.2 8))]) (c0 := 1) O dX9_run_113 6 rfl (by decide) (by decide) (fun _ => rfl) rfl hf (fun v17 hf => ?_)
        refine a_goto (tgt := 9) O dX9_run_116 (by decide) ?_
        exact a_sub [2, 3, 4, 5, 6, 0] rfl (hk9 z15 x2 v17 hf)
def LX9_run_9 : Nat → St → Int32 → Int32 → Option St
  | 0, _, _, _ => none
  | n + 1, σ, x2, x5 => BX9_run_9 (LX9_run_9 n) σ x2 x5
theorem okLX9_run_9 {E : ET} {X : XT} {z : St} (O : Ok (YC E) X cX9_run 7 RX9 none rmX9_run none z) : ∀ (n : Nat) (σ : St) (x2 : Int32) (x5 : Int32), LX9_run_9 n σ x2 x5 = some z → At (YC E) X 7 9 [(0, .ref (E.2.2.2.2 10)), (1, .ref (E.2.2.2.2 3)), (2, .int x2), (3, .ref (E.2.2.2.2 5)), (4, .ref (E.2.2.2.2 8)), (5, .int x5)] [] σ := by
  intro n
  induction n with
  | zero =>
    intro σ x2 x5 hf
    rw [LX9_run_9] at hf
    cases hf
  | succ n ih =>
    intro σ x2 x5 hf
    rw [LX9_run_9] at hf
    exact okBX9_run_9 O (LX9_run_9 n) ih σ x2 x5 hf
def fX9_run (a1 : Int32) (σ : St) : Option St :=
  (fX9_begin σ).bind (fun z1 => LX9_run_9 fu z1 a1 0)
set_option maxRecDepth 100000 in
theorem ctX9_run {E : ET} (hE : Dj (YC E)) (a1 : Int32) (σ : St) (z : St) (hf : fX9_run a1 σ = some z) : Ct (YC E) yX9_run cX9_run 7 none rmX9_run [.ref (E.2.2.2.2 10), .ref (E.2.2.2.2 3), .int a1, .ref (E.2.2.2.2 5), .ref (E.2.2.2.2 8)] σ none z := by
  refine Ct.of hE (by decide) (Nat.le_of_ble_eq_true rfl) (fun X O => ?_)
  have O : Ok (YC E) X cX9_run 7 RX9 none rmX9_run none z := O
  show At (YC E) X 7 0 [(0, .ref (E.2.2.2.2 10)), (1, .ref (E.2.2.2.2 3)), (2, .int a1), (3, .ref (E.2.2.2.2 5)), (4, .ref (E.2.2.2.2 8))] [] σ
  unfold fX9_run at hf
  refine a_aload_n (pc' := 1) O dX9_run_0 rfl 0 rfl rfl ?_
  refine a_aload (pc' := 3) O dX9_run_1 4 rfl rfl ?_
  obtain ⟨z1, h2, hf⟩ := bd_some hf
  refine a_callVN (pc' := 6) (n := 1) (As := [.ref (E.2.2.2.2 8)]) (st := []) (q0 := 10) O (ctX9_begin hE σ z1 h2) wm_528 wm_529 wm_530 wm_31 wm_531 (by decide +kernel) (by decide) (gC_10 E _) hc_9 rfl rfl rfl (Nat.le_of_ble_eq_true rfl) dX9_run_3 rfl ?_
  refine a_iconst (pc' := 7) (v := 0) O dX9_run_6 (by decide) rfl ?_
  refine a_istore (pc' := 9) (lv' := [(5, .int 0), (0, .ref (E.2.2.2.2 10)), (1, .ref (E.2.2.2.2 3)), (2, .int a1), (3, .ref (E.2.2.2.2 5)), (4, .ref (E.2.2.2.2 8))]) O dX9_run_7 (by decide) rfl rfl ?_
  exact a_sub [1, 2, 3, 4, 5, 0] rfl (okLX9_run_9 O fu z1 a1 0 hf)
def rmX10_within : Room := { frames := 0, cells := 0, slots := 0, locals := 0 }
def fX10_within (a0 : Int32) (a1 : Int32) (a2 : Int32) : Option Int32 :=
  if a0 < a1 then some 0 else (if a2 < a0 then some 0 else (some 1))
set_option maxRecDepth 100000 in
theorem ctX10_within {E : ET} (hE : Dj (YC E)) (a0 : Int32) (a1 : Int32) (a2 : Int32) (σ : St) (z : Int32) (hf : fX10_within a0 a1 a2 = some z) : Ct (YC E) yX10_within cX10_within 3 (some .boolean) rmX10_within [.int a0, .int a1, .int a2] σ (some (.int z)) σ := by
  refine Ct.of hE (by decide) (Nat.le_of_ble_eq_true rfl) (fun X O => ?_)
  have O : Ok (YC E) X cX10_within 3 RX10 (some .boolean) rmX10_within (some (.int z)) σ := O
  show At (YC E) X 3 0 [(0, .int a0), (1, .int a1), (2, .int a2)] [] σ
  unfold fX10_within at hf
  refine a_iload_n (pc' := 1) O dX10_within_0 rfl 0 rfl rfl ?_
  refine a_iload_n (pc' := 2) O dX10_within_1 rfl 1 rfl rfl ?_
  refine a_icmp_lt (pc' := 5) (tgt := 14) O dX10_within_2 (by decide) rfl hf (fun hf => ?_) (fun hf => ?_)
  · refine a_iconst (pc' := 15) (v := 0) O dX10_within_14 (by decide) rfl ?_
    exact a_zretP (Or.inl rfl) O hf dX10_within_15
  · refine a_iload_n (pc' := 6) O dX10_within_5 rfl 0 rfl rfl ?_
    refine a_iload_n (pc' := 7) O dX10_within_6 rfl 2 rfl rfl ?_
    refine a_icmp_gt (pc' := 10) (tgt := 14) O dX10_within_7 (by decide) rfl hf (fun hf => ?_) (fun hf => ?_)
    · refine a_iconst (pc' := 15) (v := 0) O dX10_within_14 (by decide) rfl ?_
      exact a_zretP (Or.inl rfl) O hf dX10_within_15
    · refine a_iconst (pc' := 11) (v := 1) O dX10_within_10 (by decide) rfl ?_
      refine a_goto (tgt := 15) O dX10_within_11 (by decide) ?_
      exact a_zretP (Or.inr rfl) O hf dX10_within_15
def rmX10_parseAgain : Room := { frames := 2, cells := 0, slots := 0, locals := 46 }
def fX10_parseAgain (a0 : Int32) (σ : St) : Option St :=
  if a0 = 0 then (fX1_parse σ).bind (fun z3 => some z3) else ((fX4_parse σ).bind (fun z1 => some z1))
set_option maxRecDepth 100000 in
theorem ctX10_parseAgain {E : ET} (hE : Dj (YC E)) (a0 : Int32) (σ : St) (z : St) (hf : fX10_parseAgain a0 σ = some z) : Ct (YC E) yX10_parseAgain cX10_parseAgain 2 none rmX10_parseAgain [.ref (E.2.2.2.2 0), .int a0] σ none z := by
  refine Ct.of hE (by decide) (Nat.le_of_ble_eq_true rfl) (fun X O => ?_)
  have O : Ok (YC E) X cX10_parseAgain 2 RX10 none rmX10_parseAgain none z := O
  show At (YC E) X 2 0 [(0, .ref (E.2.2.2.2 0)), (1, .int a0)] [] σ
  unfold fX10_parseAgain at hf
  refine a_iload_n (pc' := 1) O dX10_parseAgain_0 rfl 1 rfl rfl ?_
  refine a_if_ne (pc' := 4) (tgt := 18) O dX10_parseAgain_1 (by decide) rfl hf (fun hf => ?_) (fun hf => ?_)
  · refine a_aload_n (pc' := 19) O dX10_parseAgain_18 rfl 0 rfl rfl ?_
    refine gfC_0_3 (pc' := 22) O dX10_parseAgain_19 rfl ?_
    refine a_aload_n (pc' := 23) O dX10_parseAgain_22 rfl 0 rfl rfl ?_
    refine gfC_0_1 (pc' := 26) O dX10_parseAgain_23 rfl ?_
    obtain ⟨z1, h2, hf⟩ := bd_some hf
    refine a_callVN (pc' := 29) (n := 1) (As := [.ref (E.2.2.2.2 3)]) (st := []) (q0 := 7) O (ctX4_parse hE σ z1 h2) wm_180 wm_181 wm_182 wm_23 wm_183 (by decide +kernel) (by decide) (gC_7 E _) hc_4 rfl rfl rfl (Nat.le_of_ble_eq_true rfl) dX10_parseAgain_26 rfl ?_
    exact a_vret O hf dX10_parseAgain_29
  · refine a_aload_n (pc' := 5) O dX10_parseAgain_4 rfl 0 rfl rfl ?_
    refine gfC_0_2 (pc' := 8) O dX10_parseAgain_5 rfl ?_
    refine a_aload_n (pc' := 9) O dX10_parseAgain_8 rfl 0 rfl rfl ?_
    refine gfC_0_0 (pc' := 12) O dX10_parseAgain_9 rfl ?_
    obtain ⟨z3, h4, hf⟩ := bd_some hf
    refine a_callVN (pc' := 15) (n := 1) (As := [.ref (E.2.2.2.2 1)]) (st := []) (q0 := 5) O (ctX1_parse hE σ z3 h4) wm_164 wm_165 wm_166 wm_19 wm_167 (by decide +kernel) (by decide) (gC_5 E _) hc_1 rfl rfl rfl (Nat.le_of_ble_eq_true rfl) dX10_parseAgain_12 rfl ?_
    refine a_goto (tgt := 29) O dX10_parseAgain_15 (by decide) ?_
    exact a_vret O hf dX10_parseAgain_29
def rmX10_type : Room := { frames := 3, cells := 0, slots := 0, locals := 67 }
def fX10_type (a0 : Int32) (a1 : Int32) (σ : St) : Option (Int32 × St) :=
  (fX10_textOf a0).bind (fun z1 => if z1 = 1 then (fX10_within a1 0 255).bind (fun z3 => if z3 = 0 then some ((-2), σ) else ((fX7_push_1 a1 σ).bind (fun z5 => if z5.1 = 0 then some ((-4), z5.2) else ((fX10_parseAgain a0 z5.2).bind (fun z7 => (fX7_length_1 z7).bind (fun z9 => some (z9, z7))))))) else (if z1 = 3 then (fX10_within a1 0 255).bind (fun z11 => if z11 = 0 then some ((-2), σ) else ((fX7_push_3 a1 σ).bind (fun z13 => if z13.1 = 0 then some ((-4), z13.2) else ((fX10_parseAgain a0 z13.2).bind (fun z15 => (fX7_length_3 z15).bind (fun z17 => some (z17, z15))))))) else (some ((-2), σ))))
set_option maxRecDepth 100000 in
theorem ctX10_type {E : ET} (hE : Dj (YC E)) (a0 : Int32) (a1 : Int32) (σ : St) (z : Int32 × St) (hf : fX10_type a0 a1 σ = some z) : Ct (YC E) yX10_type cX10_type 4 (some .int) rmX10_type [.ref (E.2.2.2.2 0), .int a0, .int a1] σ (some (.int z.1)) z.2 := by
  refine Ct.of hE (by decide) (Nat.le_of_ble_eq_true rfl) (fun X O => ?_)
  have O : Ok (YC E) X cX10_type 4 RX10 (some .int) rmX10_type (some (.int z.1)) z.2 := O
  show At (YC E) X 4 0 [(0, .ref (E.2.2.2.2 0)), (1, .int a0), (2, .int a1)] [] σ
  unfold fX10_type at hf
  refine a_aload_n (pc' := 1) O dX10_type_0 rfl 0 rfl rfl ?_
  refine a_iload_n (pc' := 2) O dX10_type_1 rfl 1 rfl rfl ?_
  obtain ⟨z1, h2, hf⟩ := bd_some hf
  have hct := ctX10_textOf hE a0 σ z1 h2
  by_cases c1 : z1 = 1
  · rw [if_pos c1] at hf
    rw [rvE_1 c1] at hct
    refine a_callVR (pc' := 5) (n := 1) (As := [.int a0]) (st := []) (q0 := 0) O (hct) wm_149 wm_150 wm_151 wm_2 wm_152 (by decide +kernel) (by decide) (gC_0 E _) hc_10 rfl rfl rfl (Nat.le_of_ble_eq_true rfl) dX10_type_2 rfl ?_
    refine a_astore_n (pc' := 6) (lv' := [(3, .ref (E.2.2.2.2 1)), (0, .ref (E.2.2.2.2 0)), (1, .int a0), (2, .int a1)]) O dX10_type_5 rfl (by decide) rfl rfl ?_
    refine a_aload_n (pc' := 7) O dX10_type_6 rfl 0 rfl rfl ?_
    refine a_ifnull (pc' := 10) O dX10_type_7 rfl ?_
    refine a_iload_n (pc' := 11) O dX10_type_10 rfl 3 rfl rfl ?_
    refine a_iconst (pc' := 12) (v := 0) O dX10_type_11 (by decide) rfl ?_
    refine a_sipush (pc' := 15) (v := 255) O dX10_type_12 (by decide) rfl ?_
    obtain ⟨z3, h4, hf⟩ := bd_some hf
    refine a_callSI (pc' := 18) (n := 3) (As := [.int a1, .int 0, .int 255]) (st := []) O (ctX10_within hE a1 0 255 σ z3 h4) wm_153 wm_154 wm_2 wm_155 (by decide +kernel) (by decide) rfl rfl (Nat.le_of_ble_eq_true rfl) dX10_type_15 rfl ?_
    refine a_if_ne (pc' := 21) (tgt := 24) O dX10_type_18 (by decide) rfl hf (fun hf => ?_) (fun hf => ?_)
    · refine a_aload_n (pc' := 25) O dX10_type_24 rfl 0 rfl rfl ?_
      refine a_iload_n (pc' := 26) O dX10_type_25 rfl 3 rfl rfl ?_
      obtain ⟨z5, h6, hf⟩ := bd_some hf
      refine a_callVI (pc' := 29) (n := 1) (As := [.int a1]) (st := []) (q0 := 1) O (ctX7_push_1 hE a1 σ z5 h6) wm_156 wm_157 wm_158 wm_14 wm_159 (by decide +kernel) (by decide) (gC_1 E _) hc_7 rfl rfl rfl (Nat.le_of_ble_eq_true rfl) dX10_type_26 rfl ?_
      refine a_if_ne (pc' := 32) (tgt := 35) O dX10_type_29 (by decide) rfl hf (fun hf => ?_) (fun hf => ?_)
      · refine a_aload_n (pc' := 36) O dX10_type_35 rfl 1 rfl rfl ?_
        refine a_iload_n (pc' := 37) O dX10_type_36 rfl 2 rfl rfl ?_
        obtain ⟨z7, h8, hf⟩ := bd_some hf
        refine a_callVN (pc' := 40) (n := 1) (As := [.int a0]) (st := []) (q0 := 0) O (ctX10_parseAgain hE a0 z5.2 z7 h8) wm_160 wm_161 wm_162 wm_2 wm_163 (by decide +kernel) (by decide) (gC_0 E _) hc_10 rfl rfl rfl (Nat.le_of_ble_eq_true rfl) dX10_type_37 rfl ?_
        refine a_aload_n (pc' := 41) O dX10_type_40 rfl 0 rfl rfl ?_
        obtain ⟨z9, h10, hf⟩ := bd_some hf
        refine a_callVI (pc' := 44) (n := 0) (As := []) (st := []) (q0 := 1) O (ctX7_length_1 hE z7 z9 h10) wm_192 wm_169 wm_170 wm_14 wm_171 (by decide +kernel) (by decide) (gC_1 E _) hc_7 rfl rfl rfl (Nat.le_of_ble_eq_true rfl) dX10_type_41 rfl ?_
        exact a_iret O hf dX10_type_44
      · refine a_bipush (pc' := 34) (v := (-4)) O dX10_type_32 (by decide) rfl ?_
        exact a_iret O hf dX10_type_34
    · refine a_bipush (pc' := 23) (v := (-2)) O dX10_type_21 (by decide) rfl ?_
      exact a_iret O hf dX10_type_23
  · rw [if_neg c1] at hf
    by_cases c3 : z1 = 3
    · rw [if_pos c3] at hf
      rw [rvE_3 c3] at hct
      refine a_callVR (pc' := 5) (n := 1) (As := [.int a0]) (st := []) (q0 := 0) O (hct) wm_149 wm_150 wm_151 wm_2 wm_152 (by decide +kernel) (by decide) (gC_0 E _) hc_10 rfl rfl rfl (Nat.le_of_ble_eq_true rfl) dX10_type_2 rfl ?_
      refine a_astore_n (pc' := 6) (lv' := [(3, .ref (E.2.2.2.2 3)), (0, .ref (E.2.2.2.2 0)), (1, .int a0), (2, .int a1)]) O dX10_type_5 rfl (by decide) rfl rfl ?_
      refine a_aload_n (pc' := 7) O dX10_type_6 rfl 0 rfl rfl ?_
      refine a_ifnull (pc' := 10) O dX10_type_7 rfl ?_
      refine a_iload_n (pc' := 11) O dX10_type_10 rfl 3 rfl rfl ?_
      refine a_iconst (pc' := 12) (v := 0) O dX10_type_11 (by decide) rfl ?_
      refine a_sipush (pc' := 15) (v := 255) O dX10_type_12 (by decide) rfl ?_
      obtain ⟨z11, h12, hf⟩ := bd_some hf
      refine a_callSI (pc' := 18) (n := 3) (As := [.int a1, .int 0, .int 255]) (st := []) O (ctX10_within hE a1 0 255 σ z11 h12) wm_153 wm_154 wm_2 wm_155 (by decide +kernel) (by decide) rfl rfl (Nat.le_of_ble_eq_true rfl) dX10_type_15 rfl ?_
      refine a_if_ne (pc' := 21) (tgt := 24) O dX10_type_18 (by decide) rfl hf (fun hf => ?_) (fun hf => ?_)
      · refine a_aload_n (pc' := 25) O dX10_type_24 rfl 0 rfl rfl ?_
        refine a_iload_n (pc' := 26) O dX10_type_25 rfl 3 rfl rfl ?_
        obtain ⟨z13, h14, hf⟩ := bd_some hf
        refine a_callVI (pc' := 29) (n := 1) (As := [.int a1]) (st := []) (q0 := 3) O (ctX7_push_3 hE a1 σ z13 h14) wm_156 wm_157 wm_158 wm_14 wm_159 (by decide +kernel) (by decide) (gC_3 E _) hc_7 rfl rfl rfl (Nat.le_of_ble_eq_true rfl) dX10_type_26 rfl ?_
        refine a_if_ne (pc' := 32) (tgt := 35) O dX10_type_29 (by decide) rfl hf (fun hf => ?_) (fun hf => ?_)
        · refine a_aload_n (pc' := 36) O dX10_type_35 rfl 1 rfl rfl ?_
          refine a_iload_n (pc' := 37) O dX10_type_36 rfl 2 rfl rfl ?_
          obtain ⟨z15, h16, hf⟩ := bd_some hf
          refine a_callVN (pc' := 40) (n := 1) (As := [.int a0]) (st := []) (q0 := 0) O (ctX10_parseAgain hE a0 z13.2 z15 h16) wm_160 wm_161 wm_162 wm_2 wm_163 (by decide +kernel) (by decide) (gC_0 E _) hc_10 rfl rfl rfl (Nat.le_of_ble_eq_true rfl) dX10_type_37 rfl ?_
          refine a_aload_n (pc' := 41) O dX10_type_40 rfl 0 rfl rfl ?_
          obtain ⟨z17, h18, hf⟩ := bd_some hf
          refine a_callVI (pc' := 44) (n := 0) (As := []) (st := []) (q0 := 3) O (ctX7_length_3 hE z15 z17 h18) wm_192 wm_169 wm_170 wm_14 wm_171 (by decide +kernel) (by decide) (gC_3 E _) hc_7 rfl rfl rfl (Nat.le_of_ble_eq_true rfl) dX10_type_41 rfl ?_
          exact a_iret O hf dX10_type_44
        · refine a_bipush (pc' := 34) (v := (-4)) O dX10_type_32 (by decide) rfl ?_
          exact a_iret O hf dX10_type_34
      · refine a_bipush (pc' := 23) (v := (-2)) O dX10_type_21 (by decide) rfl ?_
        exact a_iret O hf dX10_type_23
    · rw [if_neg c3] at hf
      rw [rvE_0 c1 c3] at hct
      refine a_callVU (pc' := 5) (n := 1) (As := [.int a0]) (st := []) (q0 := 0) O (hct) wm_149 wm_150 wm_151 wm_2 wm_152 (by decide +kernel) (by decide) (gC_0 E _) hc_10 rfl rfl rfl (Nat.le_of_ble_eq_true rfl) dX10_type_2 rfl ?_
      refine a_astore_nN (pc' := 6) (lv' := [(3, .null), (0, .ref (E.2.2.2.2 0)), (1, .int a0), (2, .int a1)]) O dX10_type_5 rfl (by decide) rfl rfl ?_
      refine a_aload_nN (pc' := 7) O dX10_type_6 rfl 0 rfl rfl ?_
      refine a_ifnullN (tgt := 21) O dX10_type_7 (by decide) ?_
      refine a_bipush (pc' := 23) (v := (-2)) O dX10_type_21 (by decide) rfl ?_
      exact a_iret O hf dX10_type_23
def rmX10_wipe : Room := { frames := 3, cells := 0, slots := 0, locals := 67 }
def fX10_wipe (a0 : Int32) (σ : St) : Option (Int32 × St) :=
  (fX10_textOf a0).bind (fun z1 => if z1 = 1 then (fX7_length_1 σ).bind (fun z3 => (fX7_clear_1 σ).bind (fun z5 => (fX10_parseAgain a0 z5).bind (fun z7 => some (z3, z7)))) else (if z1 = 3 then (fX7_length_3 σ).bind (fun z9 => (fX7_clear_3 σ).bind (fun z11 => (fX10_parseAgain a0 z11).bind (fun z13 => some (z9, z13)))) else (some ((-2), σ))))
set_option maxRecDepth 100000 in
theorem ctX10_wipe {E : ET} (hE : Dj (YC E)) (a0 : Int32) (σ : St) (z : Int32 × St) (hf : fX10_wipe a0 σ = some z) : Ct (YC E) yX10_wipe cX10_wipe 4 (some .int) rmX10_wipe [.ref (E.2.2.2.2 0), .int a0] σ (some (.int z.1)) z.2 := by
  refine Ct.of hE (by decide) (Nat.le_of_ble_eq_true rfl) (fun X O => ?_)
  have O : Ok (YC E) X cX10_wipe 4 RX10 (some .int) rmX10_wipe (some (.int z.1)) z.2 := O
  show At (YC E) X 4 0 [(0, .ref (E.2.2.2.2 0)), (1, .int a0)] [] σ
  unfold fX10_wipe at hf
  refine a_aload_n (pc' := 1) O dX10_wipe_0 rfl 0 rfl rfl ?_
  refine a_iload_n (pc' := 2) O dX10_wipe_1 rfl 1 rfl rfl ?_
  obtain ⟨z1, h2, hf⟩ := bd_some hf
  have hct := ctX10_textOf hE a0 σ z1 h2
  by_cases c1 : z1 = 1
  · rw [if_pos c1] at hf
    rw [rvE_1 c1] at hct
    refine a_callVR (pc' := 5) (n := 1) (As := [.int a0]) (st := []) (q0 := 0) O (hct) wm_149 wm_150 wm_151 wm_2 wm_152 (by decide +kernel) (by decide) (gC_0 E _) hc_10 rfl rfl rfl (Nat.le_of_ble_eq_true rfl) dX10_wipe_2 rfl ?_
    refine a_astore_n (pc' := 6) (lv' := [(2, .ref (E.2.2.2.2 1)), (0, .ref (E.2.2.2.2 0)), (1, .int a0)]) O dX10_wipe_5 rfl (by decide) rfl rfl ?_
    refine a_aload_n (pc' := 7) O dX10_wipe_6 rfl 0 rfl rfl ?_
    refine a_ifnonnull (tgt := 13) O dX10_wipe_7 (by decide) ?_
    refine a_aload_n (pc' := 14) O dX10_wipe_13 rfl 0 rfl rfl ?_
    obtain ⟨z3, h4, hf⟩ := bd_some hf
    refine a_callVI (pc' := 17) (n := 0) (As := []) (st := []) (q0 := 1) O (ctX7_length_1 hE σ z3 h4) wm_192 wm_169 wm_170 wm_14 wm_171 (by decide +kernel) (by decide) (gC_1 E _) hc_7 rfl rfl rfl (Nat.le_of_ble_eq_true rfl) dX10_wipe_14 rfl ?_
    refine a_istore_n (pc' := 18) (lv' := [(3, .int z3), (2, .ref (E.2.2.2.2 1)), (0, .ref (E.2.2.2.2 0)), (1, .int a0)]) O dX10_wipe_17 rfl (by decide) rfl rfl ?_
    refine a_aload_n (pc' := 19) O dX10_wipe_18 rfl 1 rfl rfl ?_
    obtain ⟨z5, h6, hf⟩ := bd_some hf
    refine a_callVN (pc' := 22) (n := 0) (As := []) (st := []) (q0 := 1) O (ctX7_clear_1 hE σ z5 h6) wm_208 wm_209 wm_210 wm_14 wm_211 (by decide +kernel) (by decide) (gC_1 E _) hc_7 rfl rfl rfl (Nat.le_of_ble_eq_true rfl) dX10_wipe_19 rfl ?_
    refine a_aload_n (pc' := 23) O dX10_wipe_22 rfl 2 rfl rfl ?_
    refine a_iload_n (pc' := 24) O dX10_wipe_23 rfl 3 rfl rfl ?_
    obtain ⟨z7, h8, hf⟩ := bd_some hf
    refine a_callVN (pc' := 27) (n := 1) (As := [.int a0]) (st := []) (q0 := 0) O (ctX10_parseAgain hE a0 z5 z7 h8) wm_160 wm_161 wm_162 wm_2 wm_163 (by decide +kernel) (by decide) (gC_0 E _) hc_10 rfl rfl rfl (Nat.le_of_ble_eq_true rfl) dX10_wipe_24 rfl ?_
    refine a_iload_n (pc' := 28) O dX10_wipe_27 rfl 0 rfl rfl ?_
    exact a_iret O hf dX10_wipe_28
  · rw [if_neg c1] at hf
    by_cases c3 : z1 = 3
    · rw [if_pos c3] at hf
      rw [rvE_3 c3] at hct
      refine a_callVR (pc' := 5) (n := 1) (As := [.int a0]) (st := []) (q0 := 0) O (hct) wm_149 wm_150 wm_151 wm_2 wm_152 (by decide +kernel) (by decide) (gC_0 E _) hc_10 rfl rfl rfl (Nat.le_of_ble_eq_true rfl) dX10_wipe_2 rfl ?_
      refine a_astore_n (pc' := 6) (lv' := [(2, .ref (E.2.2.2.2 3)), (0, .ref (E.2.2.2.2 0)), (1, .int a0)]) O dX10_wipe_5 rfl (by decide) rfl rfl ?_
      refine a_aload_n (pc' := 7) O dX10_wipe_6 rfl 0 rfl rfl ?_
      refine a_ifnonnull (tgt := 13) O dX10_wipe_7 (by decide) ?_
      refine a_aload_n (pc' := 14) O dX10_wipe_13 rfl 0 rfl rfl ?_
      obtain ⟨z9, h10, hf⟩ := bd_some hf
      refine a_callVI (pc' := 17) (n := 0) (As := []) (st := []) (q0 := 3) O (ctX7_length_3 hE σ z9 h10) wm_192 wm_169 wm_170 wm_14 wm_171 (by decide +kernel) (by decide) (gC_3 E _) hc_7 rfl rfl rfl (Nat.le_of_ble_eq_true rfl) dX10_wipe_14 rfl ?_
      refine a_istore_n (pc' := 18) (lv' := [(3, .int z9), (2, .ref (E.2.2.2.2 3)), (0, .ref (E.2.2.2.2 0)), (1, .int a0)]) O dX10_wipe_17 rfl (by decide) rfl rfl ?_
      refine a_aload_n (pc' := 19) O dX10_wipe_18 rfl 1 rfl rfl ?_
      obtain ⟨z11, h12, hf⟩ := bd_some hf
      refine a_callVN (pc' := 22) (n := 0) (As := []) (st := []) (q0 := 3) O (ctX7_clear_3 hE σ z11 h12) wm_208 wm_209 wm_210 wm_14 wm_211 (by decide +kernel) (by decide) (gC_3 E _) hc_7 rfl rfl rfl (Nat.le_of_ble_eq_true rfl) dX10_wipe_19 rfl ?_
      refine a_aload_n (pc' := 23) O dX10_wipe_22 rfl 2 rfl rfl ?_
      refine a_iload_n (pc' := 24) O dX10_wipe_23 rfl 3 rfl rfl ?_
      obtain ⟨z13, h14, hf⟩ := bd_some hf
      refine a_callVN (pc' := 27) (n := 1) (As := [.int a0]) (st := []) (q0 := 0) O (ctX10_parseAgain hE a0 z11 z13 h14) wm_160 wm_161 wm_162 wm_2 wm_163 (by decide +kernel) (by decide) (gC_0 E _) hc_10 rfl rfl rfl (Nat.le_of_ble_eq_true rfl) dX10_wipe_24 rfl ?_
      refine a_iload_n (pc' := 28) O dX10_wipe_27 rfl 0 rfl rfl ?_
      exact a_iret O hf dX10_wipe_28
    · rw [if_neg c3] at hf
      rw [rvE_0 c1 c3] at hct
      refine a_callVU (pc' := 5) (n := 1) (As := [.int a0]) (st := []) (q0 := 0) O (hct) wm_149 wm_150 wm_151 wm_2 wm_152 (by decide +kernel) (by decide) (gC_0 E _) hc_10 rfl rfl rfl (Nat.le_of_ble_eq_true rfl) dX10_wipe_2 rfl ?_
      refine a_astore_nN (pc' := 6) (lv' := [(2, .null), (0, .ref (E.2.2.2.2 0)), (1, .int a0)]) O dX10_wipe_5 rfl (by decide) rfl rfl ?_
      refine a_aload_nN (pc' := 7) O dX10_wipe_6 rfl 0 rfl rfl ?_
      refine a_ifnonnullN (pc' := 10) O dX10_wipe_7 rfl ?_
      refine a_bipush (pc' := 12) (v := (-2)) O dX10_wipe_10 (by decide) rfl ?_
      exact a_iret O hf dX10_wipe_12
def rmX10_undo : Room := { frames := 3, cells := 0, slots := 0, locals := 67 }
def fX10_undo (a0 : Int32) (σ : St) : Option (Int32 × St) :=
  (fX10_textOf a0).bind (fun z1 => if z1 = 1 then (fX7_pop_1 σ).bind (fun z3 => if z3.1 = 0 then some ((-3), z3.2) else ((fX10_parseAgain a0 z3.2).bind (fun z5 => (fX7_length_1 z5).bind (fun z7 => some (z7, z5))))) else (if z1 = 3 then (fX7_pop_3 σ).bind (fun z9 => if z9.1 = 0 then some ((-3), z9.2) else ((fX10_parseAgain a0 z9.2).bind (fun z11 => (fX7_length_3 z11).bind (fun z13 => some (z13, z11))))) else (some ((-2), σ))))
set_option maxRecDepth 100000 in
theorem ctX10_undo {E : ET} (hE : Dj (YC E)) (a0 : Int32) (σ : St) (z : Int32 × St) (hf : fX10_undo a0 σ = some z) : Ct (YC E) yX10_undo cX10_undo 3 (some .int) rmX10_undo [.ref (E.2.2.2.2 0), .int a0] σ (some (.int z.1)) z.2 := by
  refine Ct.of hE (by decide) (Nat.le_of_ble_eq_true rfl) (fun X O => ?_)
  have O : Ok (YC E) X cX10_undo 3 RX10 (some .int) rmX10_undo (some (.int z.1)) z.2 := O
  show At (YC E) X 3 0 [(0, .ref (E.2.2.2.2 0)), (1, .int a0)] [] σ
  unfold fX10_undo at hf
  refine a_aload_n (pc' := 1) O dX10_undo_0 rfl 0 rfl rfl ?_
  refine a_iload_n (pc' := 2) O dX10_undo_1 rfl 1 rfl rfl ?_
  obtain ⟨z1, h2, hf⟩ := bd_some hf
  have hct := ctX10_textOf hE a0 σ z1 h2
  by_cases c1 : z1 = 1
  · rw [if_pos c1] at hf
    rw [rvE_1 c1] at hct
    refine a_callVR (pc' := 5) (n := 1) (As := [.int a0]) (st := []) (q0 := 0) O (hct) wm_149 wm_150 wm_151 wm_2 wm_152 (by decide +kernel) (by decide) (gC_0 E _) hc_10 rfl rfl rfl (Nat.le_of_ble_eq_true rfl) dX10_undo_2 rfl ?_
    refine a_astore_n (pc' := 6) (lv' := [(2, .ref (E.2.2.2.2 1)), (0, .ref (E.2.2.2.2 0)), (1, .int a0)]) O dX10_undo_5 rfl (by decide) rfl rfl ?_
    refine a_aload_n (pc' := 7) O dX10_undo_6 rfl 0 rfl rfl ?_
    refine a_ifnonnull (tgt := 13) O dX10_undo_7 (by decide) ?_
    refine a_aload_n (pc' := 14) O dX10_undo_13 rfl 0 rfl rfl ?_
    obtain ⟨z3, h4, hf⟩ := bd_some hf
    refine a_callVI (pc' := 17) (n := 0) (As := []) (st := []) (q0 := 1) O (ctX7_pop_1 hE σ z3 h4) wm_220 wm_221 wm_222 wm_14 wm_223 (by decide +kernel) (by decide) (gC_1 E _) hc_7 rfl rfl rfl (Nat.le_of_ble_eq_true rfl) dX10_undo_14 rfl ?_
    refine a_if_ne (pc' := 20) (tgt := 23) O dX10_undo_17 (by decide) rfl hf (fun hf => ?_) (fun hf => ?_)
    · refine a_aload_n (pc' := 24) O dX10_undo_23 rfl 1 rfl rfl ?_
      refine a_iload_n (pc' := 25) O dX10_undo_24 rfl 2 rfl rfl ?_
      obtain ⟨z5, h6, hf⟩ := bd_some hf
      refine a_callVN (pc' := 28) (n := 1) (As := [.int a0]) (st := []) (q0 := 0) O (ctX10_parseAgain hE a0 z3.2 z5 h6) wm_160 wm_161 wm_162 wm_2 wm_163 (by decide +kernel) (by decide) (gC_0 E _) hc_10 rfl rfl rfl (Nat.le_of_ble_eq_true rfl) dX10_undo_25 rfl ?_
      refine a_aload_n (pc' := 29) O dX10_undo_28 rfl 0 rfl rfl ?_
      obtain ⟨z7, h8, hf⟩ := bd_some hf
      refine a_callVI (pc' := 32) (n := 0) (As := []) (st := []) (q0 := 1) O (ctX7_length_1 hE z5 z7 h8) wm_192 wm_169 wm_170 wm_14 wm_171 (by decide +kernel) (by decide) (gC_1 E _) hc_7 rfl rfl rfl (Nat.le_of_ble_eq_true rfl) dX10_undo_29 rfl ?_
      exact a_iret O hf dX10_undo_32
    · refine a_bipush (pc' := 22) (v := (-3)) O dX10_undo_20 (by decide) rfl ?_
      exact a_iret O hf dX10_undo_22
  · rw [if_neg c1] at hf
    by_cases c3 : z1 = 3
    · rw [if_pos c3] at hf
      rw [rvE_3 c3] at hct
      refine a_callVR (pc' := 5) (n := 1) (As := [.int a0]) (st := []) (q0 := 0) O (hct) wm_149 wm_150 wm_151 wm_2 wm_152 (by decide +kernel) (by decide) (gC_0 E _) hc_10 rfl rfl rfl (Nat.le_of_ble_eq_true rfl) dX10_undo_2 rfl ?_
      refine a_astore_n (pc' := 6) (lv' := [(2, .ref (E.2.2.2.2 3)), (0, .ref (E.2.2.2.2 0)), (1, .int a0)]) O dX10_undo_5 rfl (by decide) rfl rfl ?_
      refine a_aload_n (pc' := 7) O dX10_undo_6 rfl 0 rfl rfl ?_
      refine a_ifnonnull (tgt := 13) O dX10_undo_7 (by decide) ?_
      refine a_aload_n (pc' := 14) O dX10_undo_13 rfl 0 rfl rfl ?_
      obtain ⟨z9, h10, hf⟩ := bd_some hf
      refine a_callVI (pc' := 17) (n := 0) (As := []) (st := []) (q0 := 3) O (ctX7_pop_3 hE σ z9 h10) wm_220 wm_221 wm_222 wm_14 wm_223 (by decide +kernel) (by decide) (gC_3 E _) hc_7 rfl rfl rfl (Nat.le_of_ble_eq_true rfl) dX10_undo_14 rfl ?_
      refine a_if_ne (pc' := 20) (tgt := 23) O dX10_undo_17 (by decide) rfl hf (fun hf => ?_) (fun hf => ?_)
      · refine a_aload_n (pc' := 24) O dX10_undo_23 rfl 1 rfl rfl ?_
        refine a_iload_n (pc' := 25) O dX10_undo_24 rfl 2 rfl rfl ?_
        obtain ⟨z11, h12, hf⟩ := bd_some hf
        refine a_callVN (pc' := 28) (n := 1) (As := [.int a0]) (st := []) (q0 := 0) O (ctX10_parseAgain hE a0 z9.2 z11 h12) wm_160 wm_161 wm_162 wm_2 wm_163 (by decide +kernel) (by decide) (gC_0 E _) hc_10 rfl rfl rfl (Nat.le_of_ble_eq_true rfl) dX10_undo_25 rfl ?_
        refine a_aload_n (pc' := 29) O dX10_undo_28 rfl 0 rfl rfl ?_
        obtain ⟨z13, h14, hf⟩ := bd_some hf
        refine a_callVI (pc' := 32) (n := 0) (As := []) (st := []) (q0 := 3) O (ctX7_length_3 hE z11 z13 h14) wm_192 wm_169 wm_170 wm_14 wm_171 (by decide +kernel) (by decide) (gC_3 E _) hc_7 rfl rfl rfl (Nat.le_of_ble_eq_true rfl) dX10_undo_29 rfl ?_
        exact a_iret O hf dX10_undo_32
      · refine a_bipush (pc' := 22) (v := (-3)) O dX10_undo_20 (by decide) rfl ?_
        exact a_iret O hf dX10_undo_22
    · rw [if_neg c3] at hf
      rw [rvE_0 c1 c3] at hct
      refine a_callVU (pc' := 5) (n := 1) (As := [.int a0]) (st := []) (q0 := 0) O (hct) wm_149 wm_150 wm_151 wm_2 wm_152 (by decide +kernel) (by decide) (gC_0 E _) hc_10 rfl rfl rfl (Nat.le_of_ble_eq_true rfl) dX10_undo_2 rfl ?_
      refine a_astore_nN (pc' := 6) (lv' := [(2, .null), (0, .ref (E.2.2.2.2 0)), (1, .int a0)]) O dX10_undo_5 rfl (by decide) rfl rfl ?_
      refine a_aload_nN (pc' := 7) O dX10_undo_6 rfl 0 rfl rfl ?_
      refine a_ifnonnullN (pc' := 10) O dX10_undo_7 rfl ?_
      refine a_bipush (pc' := 12) (v := (-2)) O dX10_undo_10 (by decide) rfl ?_
      exact a_iret O hf dX10_undo_12
def rmX10_fault : Room := { frames := 1, cells := 0, slots := 0, locals := 22 }
def fX10_fault (a0 : Int32) (σ : St) : Option Int32 :=
  (fX10_within a0 0 1).bind (fun z1 => if z1 = 0 then some (-2) else (if a0 = 0 then (fX1_faultPlace σ).bind (fun z5 => some z5) else ((fX4_faultPlace σ).bind (fun z3 => some z3))))
set_option maxRecDepth 100000 in
theorem ctX10_fault {E : ET} (hE : Dj (YC E)) (a0 : Int32) (σ : St) (z : Int32) (hf : fX10_fault a0 σ = some z) : Ct (YC E) yX10_fault cX10_fault 2 (some .int) rmX10_fault [.ref (E.2.2.2.2 0), .int a0] σ (some (.int z)) σ := by
  refine Ct.of hE (by decide) (Nat.le_of_ble_eq_true rfl) (fun X O => ?_)
  have O : Ok (YC E) X cX10_fault 2 RX10 (some .int) rmX10_fault (some (.int z)) σ := O
  show At (YC E) X 2 0 [(0, .ref (E.2.2.2.2 0)), (1, .int a0)] [] σ
  unfold fX10_fault at hf
  refine a_iload_n (pc' := 1) O dX10_fault_0 rfl 1 rfl rfl ?_
  refine a_iconst (pc' := 2) (v := 0) O dX10_fault_1 (by decide) rfl ?_
  refine a_iconst (pc' := 3) (v := 1) O dX10_fault_2 (by decide) rfl ?_
  obtain ⟨z1, h2, hf⟩ := bd_some hf
  refine a_callSI (pc' := 6) (n := 3) (As := [.int a0, .int 0, .int 1]) (st := []) O (ctX10_within hE a0 0 1 σ z1 h2) wm_153 wm_154 wm_2 wm_155 (by decide +kernel) (by decide) rfl rfl (Nat.le_of_ble_eq_true rfl) dX10_fault_3 rfl ?_
  refine a_if_ne (pc' := 9) (tgt := 12) O dX10_fault_6 (by decide) rfl hf (fun hf => ?_) (fun hf => ?_)
  · refine a_iload_n (pc' := 13) O dX10_fault_12 rfl 1 rfl rfl ?_
    refine a_if_ne (pc' := 16) (tgt := 26) O dX10_fault_13 (by decide) rfl hf (fun hf => ?_) (fun hf => ?_)
    · refine a_aload_n (pc' := 27) O dX10_fault_26 rfl 0 rfl rfl ?_
      refine gfC_0_3 (pc' := 30) O dX10_fault_27 rfl ?_
      obtain ⟨z3, h4, hf⟩ := bd_some hf
      refine a_callVI (pc' := 33) (n := 0) (As := []) (st := []) (q0 := 7) O (ctX4_faultPlace hE σ z3 h4) wm_236 wm_237 wm_238 wm_23 wm_239 (by decide +kernel) (by decide) (gC_7 E _) hc_4 rfl rfl rfl (Nat.le_of_ble_eq_true rfl) dX10_fault_30 rfl ?_
      exact a_iretP O hf dX10_fault_33
    · refine a_aload_n (pc' := 17) O dX10_fault_16 rfl 0 rfl rfl ?_
      refine gfC_0_2 (pc' := 20) O dX10_fault_17 rfl ?_
      obtain ⟨z5, h6, hf⟩ := bd_some hf
      refine a_callVI (pc' := 23) (n := 0) (As := []) (st := []) (q0 := 5) O (ctX1_faultPlace hE σ z5 h6) wm_232 wm_233 wm_234 wm_19 wm_235 (by decide +kernel) (by decide) (gC_5 E _) hc_1 rfl rfl rfl (Nat.le_of_ble_eq_true rfl) dX10_fault_20 rfl ?_
      refine a_goto (tgt := 33) O dX10_fault_23 (by decide) ?_
      exact a_iretP O hf dX10_fault_33
  · refine a_bipush (pc' := 11) (v := (-2)) O dX10_fault_9 (by decide) rfl ?_
    exact a_iretP O hf dX10_fault_11
def rmX10_part : Room := { frames := 1, cells := 0, slots := 0, locals := 22 }
def fX10_part (a0 : Int32) (a1 : Int32) (σ : St) : Option Int32 :=
  (fX1_size σ).bind (fun z1 => (fX10_within a0 0 (z1 - 1)).bind (fun z3 => if z3 = 0 then some (-2) else ((fX10_within a1 0 3).bind (fun z5 => if z5 = 0 then some (-2) else ((fX1_figure a0 a1 σ).bind (fun z7 => some z7))))))
set_option maxRecDepth 100000 in
theorem ctX10_part {E : ET} (hE : Dj (YC E)) (a0 : Int32) (a1 : Int32) (σ : St) (z : Int32) (hf : fX10_part a0 a1 σ = some z) : Ct (YC E) yX10_part cX10_part 3 (some .int) rmX10_part [.ref (E.2.2.2.2 0), .int a0, .int a1] σ (some (.int z)) σ := by
  refine Ct.of hE (by decide) (Nat.le_of_ble_eq_true rfl) (fun X O => ?_)
  have O : Ok (YC E) X cX10_part 3 RX10 (some .int) rmX10_part (some (.int z)) σ := O
  show At (YC E) X 3 0 [(0, .ref (E.2.2.2.2 0)), (1, .int a0), (2, .int a1)] [] σ
  unfold fX10_part at hf
  refine a_iload_n (pc' := 1) O dX10_part_0 rfl 1 rfl rfl ?_
  refine a_iconst (pc' := 2) (v := 0) O dX10_part_1 (by decide) rfl ?_
  refine a_aload_n (pc' := 3) O dX10_part_2 rfl 0 rfl rfl ?_
  refine gfC_0_2 (pc' := 6) O dX10_part_3 rfl ?_
  obtain ⟨z1, h2, hf⟩ := bd_some hf
  refine a_callVI (pc' := 9) (n := 0) (As := []) (st := [.int 0, .int a0]) (q0 := 5) O (ctX1_size hE σ z1 h2) wm_273 wm_274 wm_275 wm_19 wm_276 (by decide +kernel) (by decide) (gC_5 E _) hc_1 rfl rfl rfl (Nat.le_of_ble_eq_true rfl) dX10_part_6 rfl ?_
  refine a_iconst (pc' := 10) (v := 1) O dX10_part_9 (by decide) rfl ?_
  refine a_isub (pc' := 11) O dX10_part_10 rfl ?_
  obtain ⟨z3, h4, hf⟩ := bd_some hf
  refine a_callSI (pc' := 14) (n := 3) (As := [.int a0, .int 0, .int (z1 - 1)]) (st := []) O (ctX10_within hE a0 0 (z1 - 1) σ z3 h4) wm_153 wm_154 wm_2 wm_155 (by decide +kernel) (by decide) rfl rfl (Nat.le_of_ble_eq_true rfl) dX10_part_11 rfl ?_
  refine a_if_eq (pc' := 17) (tgt := 26) O dX10_part_14 (by decide) rfl hf (fun hf => ?_) (fun hf => ?_)
  · refine a_bipush (pc' := 28) (v := (-2)) O dX10_part_26 (by decide) rfl ?_
    exact a_iretP O hf dX10_part_28
  · refine a_iload_n (pc' := 18) O dX10_part_17 rfl 2 rfl rfl ?_
    refine a_iconst (pc' := 19) (v := 0) O dX10_part_18 (by decide) rfl ?_
    refine a_iconst (pc' := 20) (v := 3) O dX10_part_19 (by decide) rfl ?_
    obtain ⟨z5, h6, hf⟩ := bd_some hf
    refine a_callSI (pc' := 23) (n := 3) (As := [.int a1, .int 0, .int 3]) (st := []) O (ctX10_within hE a1 0 3 σ z5 h6) wm_153 wm_154 wm_2 wm_155 (by decide +kernel) (by decide) rfl rfl (Nat.le_of_ble_eq_true rfl) dX10_part_20 rfl ?_
    refine a_if_ne (pc' := 26) (tgt := 29) O dX10_part_23 (by decide) rfl hf (fun hf => ?_) (fun hf => ?_)
    · refine a_aload_n (pc' := 30) O dX10_part_29 rfl 0 rfl rfl ?_
      refine gfC_0_2 (pc' := 33) O dX10_part_30 rfl ?_
      refine a_iload_n (pc' := 34) O dX10_part_33 rfl 1 rfl rfl ?_
      refine a_iload_n (pc' := 35) O dX10_part_34 rfl 2 rfl rfl ?_
      obtain ⟨z7, h8, hf⟩ := bd_some hf
      refine a_callVI (pc' := 38) (n := 2) (As := [.int a0, .int a1]) (st := []) (q0 := 5) O (ctX1_figure hE a0 a1 σ z7 h8) wm_277 wm_278 wm_279 wm_19 wm_280 (by decide +kernel) (by decide) (gC_5 E _) hc_1 rfl rfl rfl (Nat.le_of_ble_eq_true rfl) dX10_part_35 rfl ?_
      exact a_iretP O hf dX10_part_38
    · refine a_bipush (pc' := 28) (v := (-2)) O dX10_part_26 (by decide) rfl ?_
      exact a_iretP O hf dX10_part_28
def rmX10_goers : Room := { frames := 1, cells := 0, slots := 0, locals := 22 }
def fX10_goers (a0 : Int32) (σ : St) : Option (Int32 × St) :=
  (fX10_within a0 1 4).bind (fun z1 => if z1 = 0 then some ((-2), σ) else ((fX3_party σ).bind (fun z3 => (fX3_setParty a0 σ).bind (fun z5 => some (z3, z5)))))
set_option maxRecDepth 100000 in
theorem ctX10_goers {E : ET} (hE : Dj (YC E)) (a0 : Int32) (σ : St) (z : Int32 × St) (hf : fX10_goers a0 σ = some z) : Ct (YC E) yX10_goers cX10_goers 3 (some .int) rmX10_goers [.ref (E.2.2.2.2 0), .int a0] σ (some (.int z.1)) z.2 := by
  refine Ct.of hE (by decide) (Nat.le_of_ble_eq_true rfl) (fun X O => ?_)
  have O : Ok (YC E) X cX10_goers 3 RX10 (some .int) rmX10_goers (some (.int z.1)) z.2 := O
  show At (YC E) X 3 0 [(0, .ref (E.2.2.2.2 0)), (1, .int a0)] [] σ
  unfold fX10_goers at hf
  refine a_iload_n (pc' := 1) O dX10_goers_0 rfl 1 rfl rfl ?_
  refine a_iconst (pc' := 2) (v := 1) O dX10_goers_1 (by decide) rfl ?_
  refine a_iconst (pc' := 3) (v := 4) O dX10_goers_2 (by decide) rfl ?_
  obtain ⟨z1, h2, hf⟩ := bd_some hf
  refine a_callSI (pc' := 6) (n := 3) (As := [.int a0, .int 1, .int 4]) (st := []) O (ctX10_within hE a0 1 4 σ z1 h2) wm_153 wm_154 wm_2 wm_155 (by decide +kernel) (by decide) rfl rfl (Nat.le_of_ble_eq_true rfl) dX10_goers_3 rfl ?_
  refine a_if_ne (pc' := 9) (tgt := 12) O dX10_goers_6 (by decide) rfl hf (fun hf => ?_) (fun hf => ?_)
  · refine a_aload_n (pc' := 13) O dX10_goers_12 rfl 0 rfl rfl ?_
    refine gfC_0_4 (pc' := 16) O dX10_goers_13 rfl ?_
    obtain ⟨z3, h4, hf⟩ := bd_some hf
    refine a_callVI (pc' := 19) (n := 0) (As := []) (st := []) (q0 := 8) O (ctX3_party hE σ z3 h4) wm_298 wm_299 wm_300 wm_27 wm_301 (by decide +kernel) (by decide) (gC_8 E _) hc_3 rfl rfl rfl (Nat.le_of_ble_eq_true rfl) dX10_goers_16 rfl ?_
    refine a_istore_n (pc' := 20) (lv' := [(2, .int z3), (0, .ref (E.2.2.2.2 0)), (1, .int a0)]) O dX10_goers_19 rfl (by decide) rfl rfl ?_
    refine a_aload_n (pc' := 21) O dX10_goers_20 rfl 1 rfl rfl ?_
    refine gfC_0_4 (pc' := 24) O dX10_goers_21 rfl ?_
    refine a_iload_n (pc' := 25) O dX10_goers_24 rfl 2 rfl rfl ?_
    obtain ⟨z5, h6, hf⟩ := bd_some hf
    refine a_callVN (pc' := 28) (n := 1) (As := [.int a0]) (st := []) (q0 := 8) O (ctX3_setParty hE a0 σ z5 h6) wm_302 wm_303 wm_304 wm_27 wm_305 (by decide +kernel) (by decide) (gC_8 E _) hc_3 rfl rfl rfl (Nat.le_of_ble_eq_true rfl) dX10_goers_25 rfl ?_
    refine a_iload_n (pc' := 29) O dX10_goers_28 rfl 0 rfl rfl ?_
    exact a_iret O hf dX10_goers_29
  · refine a_bipush (pc' := 11) (v := (-2)) O dX10_goers_9 (by decide) rfl ?_
    exact a_iret O hf dX10_goers_11
def rmX10_lamp : Room := { frames := 1, cells := 0, slots := 0, locals := 22 }
def fX10_lamp (a0 : Int32) (a1 : Int32) (σ : St) : Option (Int32 × St) :=
  (fX10_within a0 0 3).bind (fun z1 => if z1 = 0 then some ((-2), σ) else ((fX10_within a1 0 999).bind (fun z3 => if z3 = 0 then some ((-2), σ) else ((fX3_burns a0 σ).bind (fun z5 => (fX3_setBurns a0 a1 σ).bind (fun z7 => some (z5, z7)))))))
set_option maxRecDepth 100000 in
theorem ctX10_lamp {E : ET} (hE : Dj (YC E)) (a0 : Int32) (a1 : Int32) (σ : St) (z : Int32 × St) (hf : fX10_lamp a0 a1 σ = some z) : Ct (YC E) yX10_lamp cX10_lamp 4 (some .int) rmX10_lamp [.ref (E.2.2.2.2 0), .int a0, .int a1] σ (some (.int z.1)) z.2 := by
  refine Ct.of hE (by decide) (Nat.le_of_ble_eq_true rfl) (fun X O => ?_)
  have O : Ok (YC E) X cX10_lamp 4 RX10 (some .int) rmX10_lamp (some (.int z.1)) z.2 := O
  show At (YC E) X 4 0 [(0, .ref (E.2.2.2.2 0)), (1, .int a0), (2, .int a1)] [] σ
  unfold fX10_lamp at hf
  refine a_iload_n (pc' := 1) O dX10_lamp_0 rfl 1 rfl rfl ?_
  refine a_iconst (pc' := 2) (v := 0) O dX10_lamp_1 (by decide) rfl ?_
  refine a_iconst (pc' := 3) (v := 3) O dX10_lamp_2 (by decide) rfl ?_
  obtain ⟨z1, h2, hf⟩ := bd_some hf
  refine a_callSI (pc' := 6) (n := 3) (As := [.int a0, .int 0, .int 3]) (st := []) O (ctX10_within hE a0 0 3 σ z1 h2) wm_153 wm_154 wm_2 wm_155 (by decide +kernel) (by decide) rfl rfl (Nat.le_of_ble_eq_true rfl) dX10_lamp_3 rfl ?_
  refine a_if_eq (pc' := 9) (tgt := 20) O dX10_lamp_6 (by decide) rfl hf (fun hf => ?_) (fun hf => ?_)
  · refine a_bipush (pc' := 22) (v := (-2)) O dX10_lamp_20 (by decide) rfl ?_
    exact a_iret O hf dX10_lamp_22
  · refine a_iload_n (pc' := 10) O dX10_lamp_9 rfl 2 rfl rfl ?_
    refine a_iconst (pc' := 11) (v := 0) O dX10_lamp_10 (by decide) rfl ?_
    refine a_sipush (pc' := 14) (v := 999) O dX10_lamp_11 (by decide) rfl ?_
    obtain ⟨z3, h4, hf⟩ := bd_some hf
    refine a_callSI (pc' := 17) (n := 3) (As := [.int a1, .int 0, .int 999]) (st := []) O (ctX10_within hE a1 0 999 σ z3 h4) wm_153 wm_154 wm_2 wm_155 (by decide +kernel) (by decide) rfl rfl (Nat.le_of_ble_eq_true rfl) dX10_lamp_14 rfl ?_
    refine a_if_ne (pc' := 20) (tgt := 23) O dX10_lamp_17 (by decide) rfl hf (fun hf => ?_) (fun hf => ?_)
    · refine a_aload_n (pc' := 24) O dX10_lamp_23 rfl 0 rfl rfl ?_
      refine gfC_0_4 (pc' := 27) O dX10_lamp_24 rfl ?_
      refine a_iload_n (pc' := 28) O dX10_lamp_27 rfl 1 rfl rfl ?_
      obtain ⟨z5, h6, hf⟩ := bd_some hf
      refine a_callVI (pc' := 31) (n := 1) (As := [.int a0]) (st := []) (q0 := 8) O (ctX3_burns hE a0 σ z5 h6) wm_315 wm_316 wm_317 wm_27 wm_318 (by decide +kernel) (by decide) (gC_8 E _) hc_3 rfl rfl rfl (Nat.le_of_ble_eq_true rfl) dX10_lamp_28 rfl ?_
      refine a_istore_n (pc' := 32) (lv' := [(3, .int z5), (0, .ref (E.2.2.2.2 0)), (1, .int a0), (2, .int a1)]) O dX10_lamp_31 rfl (by decide) rfl rfl ?_
      refine a_aload_n (pc' := 33) O dX10_lamp_32 rfl 1 rfl rfl ?_
      refine gfC_0_4 (pc' := 36) O dX10_lamp_33 rfl ?_
      refine a_iload_n (pc' := 37) O dX10_lamp_36 rfl 2 rfl rfl ?_
      refine a_iload_n (pc' := 38) O dX10_lamp_37 rfl 3 rfl rfl ?_
      obtain ⟨z7, h8, hf⟩ := bd_some hf
      refine a_callVN (pc' := 41) (n := 2) (As := [.int a0, .int a1]) (st := []) (q0 := 8) O (ctX3_setBurns hE a0 a1 σ z7 h8) wm_319 wm_320 wm_321 wm_27 wm_322 (by decide +kernel) (by decide) (gC_8 E _) hc_3 rfl rfl rfl (Nat.le_of_ble_eq_true rfl) dX10_lamp_38 rfl ?_
      refine a_iload_n (pc' := 42) O dX10_lamp_41 rfl 0 rfl rfl ?_
      exact a_iret O hf dX10_lamp_42
    · refine a_bipush (pc' := 22) (v := (-2)) O dX10_lamp_20 (by decide) rfl ?_
      exact a_iret O hf dX10_lamp_22
def rmX10_read : Room := { frames := 5, cells := 0, slots := 0, locals := 107 }
def BX10_read_45 (k45 : St → Int32 → Int32 → Int32 → Option (Int32 × St)) (σ : St) (x1 : Int32) (x2 : Int32) (x3 : Int32) : Option (Int32 × St) :=
  if x2 ≤ x3 then some (x3, σ) else ((fX5_item x1 x3 σ).bind (fun z8 => (fX10_within z8 0 999).bind (fun z10 => if z10 = 0 then some (x3, σ) else ((fX5_item x1 x3 σ).bind (fun z12 => (fX3_setBurns x3 z12 σ).bind (fun z14 => bI (x3 + 1) (fun v16 => k45 z14 x1 x2 v16)))))))
set_option maxRecDepth 100000 in
theorem okBX10_read_45 {E : ET} {X : XT} {z : Int32 × St} (O : Ok (YC E) X cX10_read 4 RX10 (some .int) rmX10_read (some (.int z.1)) z.2) (k45 : St → Int32 → Int32 → Int32 → Option (Int32 × St)) (hk45 : ∀ (σ : St) (x1 : Int32) (x2 : Int32) (x3 : Int32), k45 σ x1 x2 x3 = some z → At (YC E) X 4 45 [(0, .ref (E.2.2.2.2 0)), (1, .int x1), (2, .int x2), (3, .int x3)] [] σ) (σ : St) (x1 : Int32) (x2 : Int32) (x3 : Int32) (hf : BX10_read_45 k45 σ x1 x2 x3 = some z) : At (YC E) X 4 45 [(0, .ref (E.2.2.2.2 0)), (1, .int x1), (2, .int x2), (3, .int x3)] [] σ := by
  have hE := O.2.2.2.2.2.2.2.2.2.1
  unfold BX10_read_45 at hf
  refine a_iload_n (pc' := 46) O dX10_read_45 rfl 3 rfl rfl ?_
  refine a_iload_n (pc' := 47) O dX10_read_46 rfl 2 rfl rfl ?_
  refine a_icmp_ge (pc' := 50) (tgt := 92) O dX10_read_47 (by decide) rfl hf (fun hf => ?_) (fun hf => ?_)
  · refine a_iload_n (pc' := 93) O dX10_read_92 rfl 3 rfl rfl ?_
    exact a_iret O hf dX10_read_93
  · refine a_aload_n (pc' := 51) O dX10_read_50 rfl 0 rfl rfl ?_
    refine gfC_0_9 (pc' := 54) O dX10_read_51 rfl ?_
    refine a_iload_n (pc' := 55) O dX10_read_54 rfl 1 rfl rfl ?_
    refine a_iload_n (pc' := 56) O dX10_read_55 rfl 3 rfl rfl ?_
    obtain ⟨z8, h9, hf⟩ := bd_some hf
    refine a_callVI (pc' := 59) (n := 2) (As := [.int x1, .int x3]) (st := []) (q0 := 23) O (ctX5_item hE x1 x3 σ z8 h9) wm_352 wm_353 wm_354 wm_47 wm_355 (by decide +kernel) (by decide) (gC_23 E _) hc_5 rfl rfl rfl (Nat.le_of_ble_eq_true rfl) dX10_read_56 rfl ?_
    refine a_iconst (pc' := 60) (v := 0) O dX10_read_59 (by decide) rfl ?_
    refine a_sipush (pc' := 63) (v := 999) O dX10_read_60 (by decide) rfl ?_
    obtain ⟨z10, h11, hf⟩ := bd_some hf
    refine a_callSI (pc' := 66) (n := 3) (As := [.int z8, .int 0, .int 999]) (st := []) O (ctX10_within hE z8 0 999 σ z10 h11) wm_153 wm_154 wm_2 wm_155 (by decide +kernel) (by decide) rfl rfl (Nat.le_of_ble_eq_true rfl) dX10_read_63 rfl ?_
    refine a_if_eq (pc' := 69) (tgt := 92) O dX10_read_66 (by decide) rfl hf (fun hf => ?_) (fun hf => ?_)
    · refine a_iload_n (pc' := 93) O dX10_read_92 rfl 3 rfl rfl ?_
      exact a_iret O hf dX10_read_93
    · refine a_aload_n (pc' := 70) O dX10_read_69 rfl 0 rfl rfl ?_
      refine gfC_0_4 (pc' := 73) O dX10_read_70 rfl ?_
      refine a_iload_n (pc' := 74) O dX10_read_73 rfl 3 rfl rfl ?_
      refine a_aload_n (pc' := 75) O dX10_read_74 rfl 0 rfl rfl ?_
      refine gfC_0_9 (pc' := 78) O dX10_read_75 rfl ?_
      refine a_iload_n (pc' := 79) O dX10_read_78 rfl 1 rfl rfl ?_
      refine a_iload_n (pc' := 80) O dX10_read_79 rfl 3 rfl rfl ?_
      obtain ⟨z12, h13, hf⟩ := bd_some hf
      refine a_callVI (pc' := 83) (n := 2) (As := [.int x1, .int x3]) (st := [.int x3, .ref (E.2.2.2.2 8)]) (q0 := 23) O (ctX5_item hE x1 x3 σ z12 h13) wm_352 wm_353 wm_354 wm_47 wm_355 (by decide +kernel) (by decide) (gC_23 E _) hc_5 rfl rfl rfl (Nat.le_of_ble_eq_true rfl) dX10_read_80 rfl ?_
      obtain ⟨z14, h15, hf⟩ := bd_some hf
      refine a_callVN (pc' := 86) (n := 2) (As := [.int x3, .int z12]) (st := []) (q0 := 8) O (ctX3_setBurns hE x3 z12 σ z14 h15) wm_319 wm_320 wm_321 wm_27 wm_322 (by decide +kernel) (by decide) (gC_8 E _) hc_3 rfl rfl rfl (Nat.le_of_ble_eq_true rfl) dX10_read_83 rfl ?_
      refine a_iincB (pc' := 89) (lv' := fun v16 => [(3, .int v16), (0, .ref (E.2.2.2.2 0)), (1, .int x1), (2, .int x2)]) (c0 := 1) O dX10_read_86 3 rfl (by decide) (by decide) (fun _ => rfl) rfl hf (fun v16 hf => ?_)
      refine a_goto (tgt := 45) O dX10_read_89 (by decide) ?_
      exact a_sub [1, 2, 3, 0] rfl (hk45 z14 x1 x2 v16 hf)
def LX10_read_45 : Nat → St → Int32 → Int32 → Int32 → Option (Int32 × St)
  | 0, _, _, _, _ => none
  | n + 1, σ, x1, x2, x3 => BX10_read_45 (LX10_read_45 n) σ x1 x2 x3
theorem okLX10_read_45 {E : ET} {X : XT} {z : Int32 × St} (O : Ok (YC E) X cX10_read 4 RX10 (some .int) rmX10_read (some (.int z.1)) z.2) : ∀ (n : Nat) (σ : St) (x1 : Int32) (x2 : Int32) (x3 : Int32), LX10_read_45 n σ x1 x2 x3 = some z → At (YC E) X 4 45 [(0, .ref (E.2.2.2.2 0)), (1, .int x1), (2, .int x2), (3, .int x3)] [] σ := by
  intro n
  induction n with
  | zero =>
    intro σ x1 x2 x3 hf
    rw [LX10_read_45] at hf
    cases hf
  | succ n ih =>
    intro σ x1 x2 x3 hf
    rw [LX10_read_45] at hf
    exact okBX10_read_45 O (LX10_read_45 n) ih σ x1 x2 x3 hf
def fX10_read (a0 : Int32) (σ : St) : Option (Int32 × St) :=
  (fX5_exists a0).bind (fun z1 => if z1 = 0 then some ((-2), σ) else ((fX5_isLost a0 σ).bind (fun z3 => if z3 = 0 then (fX5_size a0 σ).bind (fun z5 => bI (if z5 < 4 then z5 else 4) (fun v7 => LX10_read_45 fu σ a0 v7 0)) else ((fX5_found 1 σ).bind (fun z17 => some (z17.1, z17.2))))))
set_option maxRecDepth 100000 in
theorem ctX10_read {E : ET} (hE : Dj (YC E)) (a0 : Int32) (σ : St) (z : Int32 × St) (hf : fX10_read a0 σ = some z) : Ct (YC E) yX10_read cX10_read 4 (some .int) rmX10_read [.ref (E.2.2.2.2 0), .int a0] σ (some (.int z.1)) z.2 := by
  refine Ct.of hE (by decide) (Nat.le_of_ble_eq_true rfl) (fun X O => ?_)
  have O : Ok (YC E) X cX10_read 4 RX10 (some .int) rmX10_read (some (.int z.1)) z.2 := O
  show At (YC E) X 4 0 [(0, .ref (E.2.2.2.2 0)), (1, .int a0)] [] σ
  unfold fX10_read at hf
  refine a_iload_n (pc' := 1) O dX10_read_0 rfl 1 rfl rfl ?_
  obtain ⟨z1, h2, hf⟩ := bd_some hf
  refine a_callSI (pc' := 4) (n := 1) (As := [.int a0]) (st := []) O (ctX5_exists hE a0 σ z1 h2) wm_335 wm_336 wm_47 wm_337 (by decide +kernel) (by decide) rfl rfl (Nat.le_of_ble_eq_true rfl) dX10_read_1 rfl ?_
  refine a_if_ne (pc' := 7) (tgt := 10) O dX10_read_4 (by decide) rfl hf (fun hf => ?_) (fun hf => ?_)
  · refine a_aload_n (pc' := 11) O dX10_read_10 rfl 0 rfl rfl ?_
    refine gfC_0_9 (pc' := 14) O dX10_read_11 rfl ?_
    refine a_iload_n (pc' := 15) O dX10_read_14 rfl 1 rfl rfl ?_
    obtain ⟨z3, h4, hf⟩ := bd_some hf
    refine a_callVI (pc' := 18) (n := 1) (As := [.int a0]) (st := []) (q0 := 23) O (ctX5_isLost hE a0 σ z3 h4) wm_338 wm_339 wm_340 wm_47 wm_341 (by decide +kernel) (by decide) (gC_23 E _) hc_5 rfl rfl rfl (Nat.le_of_ble_eq_true rfl) dX10_read_15 rfl ?_
    refine a_if_eq (pc' := 21) (tgt := 30) O dX10_read_18 (by decide) rfl hf (fun hf => ?_) (fun hf => ?_)
    · refine a_iconst (pc' := 31) (v := 4) O dX10_read_30 (by decide) rfl ?_
      refine a_aload_n (pc' := 32) O dX10_read_31 rfl 0 rfl rfl ?_
      refine gfC_0_9 (pc' := 35) O dX10_read_32 rfl ?_
      refine a_iload_n (pc' := 36) O dX10_read_35 rfl 1 rfl rfl ?_
      obtain ⟨z5, h6, hf⟩ := bd_some hf
      refine a_callVI (pc' := 39) (n := 1) (As := [.int a0]) (st := [.int 4]) (q0 := 23) O (ctX5_size hE a0 σ z5 h6) wm_347 wm_348 wm_349 wm_47 wm_350 (by decide +kernel) (by decide) (gC_23 E _) hc_5 rfl rfl rfl (Nat.le_of_ble_eq_true rfl) dX10_read_36 rfl ?_
      refine a_mmin (pc' := 42) O wm_332 wm_333 wm_60 wm_334 (by decide) (by decide) (Nat.le_of_ble_eq_true rfl) dX10_read_39 rfl ?_
      refine a_topi hf (fun v7 hf => ?_)
      refine a_istore_n (pc' := 43) (lv' := [(2, .int v7), (0, .ref (E.2.2.2.2 0)), (1, .int a0)]) O dX10_read_42 rfl (by decide) rfl rfl ?_
      refine a_iconst (pc' := 44) (v := 0) O dX10_read_43 (by decide) rfl ?_
      refine a_istore_n (pc' := 45) (lv' := [(3, .int 0), (2, .int v7), (0, .ref (E.2.2.2.2 0)), (1, .int a0)]) O dX10_read_44 rfl (by decide) rfl rfl ?_
      exact a_sub [2, 3, 1, 0] rfl (okLX10_read_45 O fu σ a0 v7 0 hf)
    · refine a_aload_n (pc' := 22) O dX10_read_21 rfl 0 rfl rfl ?_
      refine gfC_0_9 (pc' := 25) O dX10_read_22 rfl ?_
      refine a_iconst (pc' := 26) (v := 1) O dX10_read_25 (by decide) rfl ?_
      obtain ⟨z17, h18, hf⟩ := bd_some hf
      refine a_callVI (pc' := 29) (n := 1) (As := [.int 1]) (st := []) (q0 := 23) O (ctX5_found hE 1 σ z17 h18) wm_343 wm_344 wm_345 wm_47 wm_346 (by decide +kernel) (by decide) (gC_23 E _) hc_5 rfl rfl rfl (Nat.le_of_ble_eq_true rfl) dX10_read_26 rfl ?_
      exact a_iret O hf dX10_read_29
  · refine a_bipush (pc' := 9) (v := (-2)) O dX10_read_7 (by decide) rfl ?_
    exact a_iret O hf dX10_read_9
def rmX10_isGoer : Room := { frames := 1, cells := 0, slots := 0, locals := 22 }
def fX10_isGoer (a0 : Int32) (σ : St) : Option Int32 :=
  (fX3_party σ).bind (fun z1 => (fX10_within a0 0 (z1 - 1)).bind (fun z3 => gB z3 (some z3)))
set_option maxRecDepth 100000 in
theorem ctX10_isGoer {E : ET} (hE : Dj (YC E)) (a0 : Int32) (σ : St) (z : Int32) (hf : fX10_isGoer a0 σ = some z) : Ct (YC E) yX10_isGoer cX10_isGoer 2 (some .boolean) rmX10_isGoer [.ref (E.2.2.2.2 0), .int a0] σ (some (.int z)) σ := by
  refine Ct.of hE (by decide) (Nat.le_of_ble_eq_true rfl) (fun X O => ?_)
  have O : Ok (YC E) X cX10_isGoer 2 RX10 (some .boolean) rmX10_isGoer (some (.int z)) σ := O
  show At (YC E) X 2 0 [(0, .ref (E.2.2.2.2 0)), (1, .int a0)] [] σ
  unfold fX10_isGoer at hf
  refine a_iload_n (pc' := 1) O dX10_isGoer_0 rfl 1 rfl rfl ?_
  refine a_iconst (pc' := 2) (v := 0) O dX10_isGoer_1 (by decide) rfl ?_
  refine a_aload_n (pc' := 3) O dX10_isGoer_2 rfl 0 rfl rfl ?_
  refine gfC_0_4 (pc' := 6) O dX10_isGoer_3 rfl ?_
  obtain ⟨z1, h2, hf⟩ := bd_some hf
  refine a_callVI (pc' := 9) (n := 0) (As := []) (st := [.int 0, .int a0]) (q0 := 8) O (ctX3_party hE σ z1 h2) wm_298 wm_299 wm_300 wm_27 wm_301 (by decide +kernel) (by decide) (gC_8 E _) hc_3 rfl rfl rfl (Nat.le_of_ble_eq_true rfl) dX10_isGoer_6 rfl ?_
  refine a_iconst (pc' := 10) (v := 1) O dX10_isGoer_9 (by decide) rfl ?_
  refine a_isub (pc' := 11) O dX10_isGoer_10 rfl ?_
  obtain ⟨z3, h4, hf⟩ := bd_some hf
  refine a_callSI (pc' := 14) (n := 3) (As := [.int a0, .int 0, .int (z1 - 1)]) (st := []) O (ctX10_within hE a0 0 (z1 - 1) σ z3 h4) wm_153 wm_154 wm_2 wm_155 (by decide +kernel) (by decide) rfl rfl (Nat.le_of_ble_eq_true rfl) dX10_isGoer_11 rfl ?_
  obtain ⟨h5, hf⟩ := gB_some hf
  exact a_zretP h5 O hf dX10_isGoer_14
def rmX10_refusal : Room := { frames := 0, cells := 0, slots := 0, locals := 0 }
def fX10_refusal (a0 : Int32) : Option Int64 :=
  some ((-9223372036854775808) - (a0.toInt64))
set_option maxRecDepth 100000 in
theorem ctX10_refusal {E : ET} (hE : Dj (YC E)) (a0 : Int32) (σ : St) (z : Int64) (hf : fX10_refusal a0 = some z) : Ct (YC E) yX10_refusal cX10_refusal 1 (some .long) rmX10_refusal [.int a0] σ (some (.long z)) σ := by
  refine Ct.of hE (by decide) (Nat.le_of_ble_eq_true rfl) (fun X O => ?_)
  have O : Ok (YC E) X cX10_refusal 1 RX10 (some .long) rmX10_refusal (some (.long z)) σ := O
  show At (YC E) X 1 0 [(0, .int a0)] [] σ
  unfold fX10_refusal at hf
  refine a_ldc2 (pc' := 3) (v := (-9223372036854775808)) O wm_385 dX10_refusal_0 rfl ?_
  refine a_iload_n (pc' := 4) O dX10_refusal_3 rfl 0 rfl rfl ?_
  refine a_i2l (pc' := 5) O dX10_refusal_4 rfl rfl ?_
  refine a_lsub (pc' := 6) O dX10_refusal_5 rfl ?_
  exact a_lretP O hf dX10_refusal_6
