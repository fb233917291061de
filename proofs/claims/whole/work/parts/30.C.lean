def rmX0_size : Room := { frames := 0, cells := 0, slots := 0, locals := 0 }
def fX0_size (σ : St) : Option Int32 :=
  some (σ.1 15)
set_option maxRecDepth 100000 in
theorem ctX0_size {E : ET} (hE : Dj (YC E)) (σ : St) (z : Int32) (hf : fX0_size σ = some z) : Ct (YC E) yX0_size cX0_size 1 (some .int) rmX0_size [.ref (E.2.2.2.2 18)] σ (some (.int z)) σ := by
  refine Ct.of hE (by decide) (Nat.le_of_ble_eq_true rfl) (fun X O => ?_)
  have O : Ok (YC E) X cX0_size 1 RX0 (some .int) rmX0_size (some (.int z)) σ := O
  show At (YC E) X 1 0 [(0, .ref (E.2.2.2.2 18))] [] σ
  unfold fX0_size at hf
  refine a_aload_n (pc' := 1) O dX0_size_0 rfl 0 rfl rfl ?_
  refine gfC_18_4 (pc' := 4) O dX0_size_1 rfl ?_
  exact a_iretP O hf dX0_size_4
def rmX0_add : Room := { frames := 0, cells := 0, slots := 0, locals := 0 }
def fX0_add (a0 : Int32) (a1 : Int32) (a2 : Int32) (a3 : Int32) (σ : St) : Option (Int32 × St) :=
  if (σ.1 15) < 6 then gIn (σ.1 15) 6 (bS (sA σ 19 (σ.1 15).toNatClampNeg a0) (fun σ1 => gIn (σ1.1 15) 6 (bS (sA σ1 20 (σ1.1 15).toNatClampNeg a1) (fun σ2 => gIn (σ2.1 15) 6 (bS (sA σ2 21 (σ2.1 15).toNatClampNeg a2) (fun σ3 => gIn (σ3.1 15) 6 (bS (sA σ3 22 (σ3.1 15).toNatClampNeg a3) (fun σ4 => bS (sI σ4 15 ((σ4.1 15) + 1)) (fun σ5 => some (1, σ5)))))))))) else (some (0, σ))
set_option maxRecDepth 100000 in
theorem ctX0_add {E : ET} (hE : Dj (YC E)) (a0 : Int32) (a1 : Int32) (a2 : Int32) (a3 : Int32) (σ : St) (z : Int32 × St) (hf : fX0_add a0 a1 a2 a3 σ = some z) : Ct (YC E) yX0_add cX0_add 5 (some .boolean) rmX0_add [.ref (E.2.2.2.2 18), .int a0, .int a1, .int a2, .int a3] σ (some (.int z.1)) z.2 := by
  refine Ct.of hE (by decide) (Nat.le_of_ble_eq_true rfl) (fun X O => ?_)
  have O : Ok (YC E) X cX0_add 5 RX0 (some .boolean) rmX0_add (some (.int z.1)) z.2 := O
  show At (YC E) X 5 0 [(0, .ref (E.2.2.2.2 18)), (1, .int a0), (2, .int a1), (3, .int a2), (4, .int a3)] [] σ
  unfold fX0_add at hf
  refine a_aload_n (pc' := 1) O dX0_add_0 rfl 0 rfl rfl ?_
  refine gfC_18_4 (pc' := 4) O dX0_add_1 rfl ?_
  refine a_bipush (pc' := 6) (v := 6) O dX0_add_4 (by decide) rfl ?_
  refine a_icmp_lt (pc' := 9) (tgt := 11) O dX0_add_6 (by decide) rfl hf (fun hf => ?_) (fun hf => ?_)
  · refine a_aload_n (pc' := 12) O dX0_add_11 rfl 0 rfl rfl ?_
    refine gfC_18_0 (pc' := 15) O dX0_add_12 rfl ?_
    refine a_aload_n (pc' := 16) O dX0_add_15 rfl 0 rfl rfl ?_
    refine gfC_18_4 (pc' := 19) O dX0_add_16 rfl ?_
    refine a_iload_n (pc' := 20) O dX0_add_19 rfl 1 rfl rfl ?_
    refine saC_19 (pc' := 21) O hf dX0_add_20 rfl (fun σ1 hf => ?_)
    refine a_aload_n (pc' := 22) O dX0_add_21 rfl 0 rfl rfl ?_
    refine gfC_18_1 (pc' := 25) O dX0_add_22 rfl ?_
    refine a_aload_n (pc' := 26) O dX0_add_25 rfl 0 rfl rfl ?_
    refine gfC_18_4 (pc' := 29) O dX0_add_26 rfl ?_
    refine a_iload_n (pc' := 30) O dX0_add_29 rfl 2 rfl rfl ?_
    refine saC_20 (pc' := 31) O hf dX0_add_30 rfl (fun σ2 hf => ?_)
    refine a_aload_n (pc' := 32) O dX0_add_31 rfl 0 rfl rfl ?_
    refine gfC_18_2 (pc' := 35) O dX0_add_32 rfl ?_
    refine a_aload_n (pc' := 36) O dX0_add_35 rfl 0 rfl rfl ?_
    refine gfC_18_4 (pc' := 39) O dX0_add_36 rfl ?_
    refine a_iload_n (pc' := 40) O dX0_add_39 rfl 3 rfl rfl ?_
    refine saC_21 (pc' := 41) O hf dX0_add_40 rfl (fun σ3 hf => ?_)
    refine a_aload_n (pc' := 42) O dX0_add_41 rfl 0 rfl rfl ?_
    refine gfC_18_3 (pc' := 45) O dX0_add_42 rfl ?_
    refine a_aload_n (pc' := 46) O dX0_add_45 rfl 0 rfl rfl ?_
    refine gfC_18_4 (pc' := 49) O dX0_add_46 rfl ?_
    refine a_iload (pc' := 51) O dX0_add_49 4 rfl rfl ?_
    refine saC_22 (pc' := 52) O hf dX0_add_51 rfl (fun σ4 hf => ?_)
    refine a_aload_n (pc' := 53) O dX0_add_52 rfl 0 rfl rfl ?_
    refine a_dup (pc' := 54) O dX0_add_53 rfl rfl ?_
    refine gfC_18_4 (pc' := 57) O dX0_add_54 rfl ?_
    refine a_iconst (pc' := 58) (v := 1) O dX0_add_57 (by decide) rfl ?_
    refine a_iadd (pc' := 59) O dX0_add_58 rfl ?_
    refine pfC_18_4 (pc' := 62) O hf dX0_add_59 rfl (fun σ5 hf => ?_)
    refine a_iconst (pc' := 63) (v := 1) O dX0_add_62 (by decide) rfl ?_
    exact a_zret (Or.inr rfl) O hf dX0_add_63
  · refine a_iconst (pc' := 10) (v := 0) O dX0_add_9 (by decide) rfl ?_
    exact a_zret (Or.inl rfl) O hf dX0_add_10
def rmX0_clear : Room := { frames := 0, cells := 0, slots := 0, locals := 0 }
def fX0_clear (σ : St) : Option St :=
  bS (sI σ 15 0) (fun σ1 => some σ1)
set_option maxRecDepth 100000 in
theorem ctX0_clear {E : ET} (hE : Dj (YC E)) (σ : St) (z : St) (hf : fX0_clear σ = some z) : Ct (YC E) yX0_clear cX0_clear 1 none rmX0_clear [.ref (E.2.2.2.2 18)] σ none z := by
  refine Ct.of hE (by decide) (Nat.le_of_ble_eq_true rfl) (fun X O => ?_)
  have O : Ok (YC E) X cX0_clear 1 RX0 none rmX0_clear none z := O
  show At (YC E) X 1 0 [(0, .ref (E.2.2.2.2 18))] [] σ
  unfold fX0_clear at hf
  refine a_aload_n (pc' := 1) O dX0_clear_0 rfl 0 rfl rfl ?_
  refine a_iconst (pc' := 2) (v := 0) O dX0_clear_1 (by decide) rfl ?_
  refine pfC_18_4 (pc' := 5) O hf dX0_clear_2 rfl (fun σ1 hf => ?_)
  exact a_vret O hf dX0_clear_5
def rmX3_burns : Room := { frames := 0, cells := 0, slots := 0, locals := 0 }
def fX3_burns (a0 : Int32) (σ : St) : Option Int32 :=
  if a0 < 0 then some 0 else (if 4 ≤ a0 then some 0 else (gIn a0 4 (some (σ.2.2 9 a0.toNatClampNeg))))
set_option maxRecDepth 100000 in
theorem ctX3_burns {E : ET} (hE : Dj (YC E)) (a0 : Int32) (σ : St) (z : Int32) (hf : fX3_burns a0 σ = some z) : Ct (YC E) yX3_burns cX3_burns 2 (some .int) rmX3_burns [.ref (E.2.2.2.2 8), .int a0] σ (some (.int z)) σ := by
  refine Ct.of hE (by decide) (Nat.le_of_ble_eq_true rfl) (fun X O => ?_)
  have O : Ok (YC E) X cX3_burns 2 RX3 (some .int) rmX3_burns (some (.int z)) σ := O
  show At (YC E) X 2 0 [(0, .ref (E.2.2.2.2 8)), (1, .int a0)] [] σ
  unfold fX3_burns at hf
  refine a_iload_n (pc' := 1) O dX3_burns_0 rfl 1 rfl rfl ?_
  refine a_if_lt (pc' := 4) (tgt := 22) O dX3_burns_1 (by decide) rfl hf (fun hf => ?_) (fun hf => ?_)
  · refine a_iconst (pc' := 23) (v := 0) O dX3_burns_22 (by decide) rfl ?_
    exact a_iretP O hf dX3_burns_23
  · refine a_iload_n (pc' := 5) O dX3_burns_4 rfl 1 rfl rfl ?_
    refine a_aload_n (pc' := 6) O dX3_burns_5 rfl 0 rfl rfl ?_
    refine gfC_8_0 (pc' := 9) O dX3_burns_6 rfl ?_
    refine alC_9 (pc' := 10) O dX3_burns_9 rfl ?_
    refine a_icmp_ge (pc' := 13) (tgt := 22) O dX3_burns_10 (by decide) rfl hf (fun hf => ?_) (fun hf => ?_)
    · refine a_iconst (pc' := 23) (v := 0) O dX3_burns_22 (by decide) rfl ?_
      exact a_iretP O hf dX3_burns_23
    · refine a_aload_n (pc' := 14) O dX3_burns_13 rfl 0 rfl rfl ?_
      refine gfC_8_0 (pc' := 17) O dX3_burns_14 rfl ?_
      refine a_iload_n (pc' := 18) O dX3_burns_17 rfl 1 rfl rfl ?_
      refine laC_9 (pc' := 19) O hf dX3_burns_18 rfl (fun hf => ?_)
      refine a_goto (tgt := 23) O dX3_burns_19 (by decide) ?_
      exact a_iretP O hf dX3_burns_23
def rmX1_figure : Room := { frames := 0, cells := 0, slots := 0, locals := 0 }
def fX1_figure (a0 : Int32) (a1 : Int32) (σ : St) : Option Int32 :=
  if a0 < 0 then some 0 else (if (σ.1 2) ≤ a0 then some 0 else (if a1 < 0 then some 0 else (if a1 ≤ 3 then gIn a0 16 (gIn a1 4 (some (σ.2.2 (28 + a0.toNatClampNeg) a1.toNatClampNeg))) else (some 0))))
set_option maxRecDepth 100000 in
theorem ctX1_figure {E : ET} (hE : Dj (YC E)) (a0 : Int32) (a1 : Int32) (σ : St) (z : Int32) (hf : fX1_figure a0 a1 σ = some z) : Ct (YC E) yX1_figure cX1_figure 3 (some .int) rmX1_figure [.ref (E.2.2.2.2 5), .int a0, .int a1] σ (some (.int z)) σ := by
  refine Ct.of hE (by decide) (Nat.le_of_ble_eq_true rfl) (fun X O => ?_)
  have O : Ok (YC E) X cX1_figure 3 RX1 (some .int) rmX1_figure (some (.int z)) σ := O
  show At (YC E) X 3 0 [(0, .ref (E.2.2.2.2 5)), (1, .int a0), (2, .int a1)] [] σ
  unfold fX1_figure at hf
  refine a_iload_n (pc' := 1) O dX1_figure_0 rfl 1 rfl rfl ?_
  refine a_if_lt (pc' := 4) (tgt := 21) O dX1_figure_1 (by decide) rfl hf (fun hf => ?_) (fun hf => ?_)
  · refine a_iconst (pc' := 22) (v := 0) O dX1_figure_21 (by decide) rfl ?_
    exact a_iretP O hf dX1_figure_22
  · refine a_iload_n (pc' := 5) O dX1_figure_4 rfl 1 rfl rfl ?_
    refine a_aload_n (pc' := 6) O dX1_figure_5 rfl 0 rfl rfl ?_
    refine gfC_5_1 (pc' := 9) O dX1_figure_6 rfl ?_
    refine a_icmp_ge (pc' := 12) (tgt := 21) O dX1_figure_9 (by decide) rfl hf (fun hf => ?_) (fun hf => ?_)
    · refine a_iconst (pc' := 22) (v := 0) O dX1_figure_21 (by decide) rfl ?_
      exact a_iretP O hf dX1_figure_22
    · refine a_iload_n (pc' := 13) O dX1_figure_12 rfl 2 rfl rfl ?_
      refine a_if_lt (pc' := 16) (tgt := 21) O dX1_figure_13 (by decide) rfl hf (fun hf => ?_) (fun hf => ?_)
      · refine a_iconst (pc' := 22) (v := 0) O dX1_figure_21 (by decide) rfl ?_
        exact a_iretP O hf dX1_figure_22
      · refine a_iload_n (pc' := 17) O dX1_figure_16 rfl 2 rfl rfl ?_
        refine a_iconst (pc' := 18) (v := 3) O dX1_figure_17 (by decide) rfl ?_
        refine a_icmp_le (pc' := 21) (tgt := 23) O dX1_figure_18 (by decide) rfl hf (fun hf => ?_) (fun hf => ?_)
        · refine a_aload_n (pc' := 24) O dX1_figure_23 rfl 0 rfl rfl ?_
          refine gfC_5_0 (pc' := 27) O dX1_figure_24 rfl ?_
          refine a_iload_n (pc' := 28) O dX1_figure_27 rfl 1 rfl rfl ?_
          refine lo_28 (pc' := 29) O hf dX1_figure_28 rfl (fun h1 hf => ?_)
          refine a_iload_n (pc' := 30) O dX1_figure_29 rfl 2 rfl rfl ?_
          refine lr_28 (pc' := 31) O h1 hf dX1_figure_30 rfl (fun hf => ?_)
          exact a_iretP O hf dX1_figure_31
        · refine a_iconst (pc' := 22) (v := 0) O dX1_figure_21 (by decide) rfl ?_
          exact a_iretP O hf dX1_figure_22
def rmX1_sum : Room := { frames := 1, cells := 0, slots := 0, locals := 22 }
def BX1_sum_5 (k5 : Int32 → Int32 → Int32 → Int32 → Option Int32) (σ : St) (x1 : Int32) (x2 : Int32) (x3 : Int32) (x4 : Int32) : Option Int32 :=
  if x2 ≤ x4 then some x3 else (if (σ.1 2) ≤ x4 then some x3 else ((fX1_figure x4 x1 σ).bind (fun z1 => bI (x3 + z1) (fun v3 => bI (x4 + 1) (fun v4 => k5 x1 x2 v3 v4)))))
set_option maxRecDepth 100000 in
theorem okBX1_sum_5 {E : ET} {X : XT} {z : Int32} {σ : St} (O : Ok (YC E) X cX1_sum 5 RX1 (some .int) rmX1_sum (some (.int z)) σ) (k5 : Int32 → Int32 → Int32 → Int32 → Option Int32) (hk5 : ∀ (x1 : Int32) (x2 : Int32) (x3 : Int32) (x4 : Int32), k5 x1 x2 x3 x4 = some z → At (YC E) X 5 5 [(0, .ref (E.2.2.2.2 5)), (1, .int x1), (2, .int x2), (3, .int x3), (4, .int x4)] [] σ) (x1 : Int32) (x2 : Int32) (x3 : Int32) (x4 : Int32) (hf : BX1_sum_5 k5 σ x1 x2 x3 x4 = some z) : At (YC E) X 5 5 [(0, .ref (E.2.2.2.2 5)), (1, .int x1), (2, .int x2), (3, .int x3), (4, .int x4)] [] σ := by
  have hE := O.2.2.2.2.2.2.2.2.2.1
  unfold BX1_sum_5 at hf
  refine a_iload (pc' := 7) O dX1_sum_5 4 rfl rfl ?_
  refine a_iload_n (pc' := 8) O dX1_sum_7 rfl 2 rfl rfl ?_
  refine a_icmp_ge (pc' := 11) (tgt := 36) O dX1_sum_8 (by decide) rfl hf (fun hf => ?_) (fun hf => ?_)
  · refine a_iload_n (pc' := 37) O dX1_sum_36 rfl 3 rfl rfl ?_
    exact a_iretP O hf dX1_sum_37
  · refine a_iload (pc' := 13) O dX1_sum_11 4 rfl rfl ?_
    refine a_aload_n (pc' := 14) O dX1_sum_13 rfl 0 rfl rfl ?_
    refine gfC_5_1 (pc' := 17) O dX1_sum_14 rfl ?_
    refine a_icmp_ge (pc' := 20) (tgt := 36) O dX1_sum_17 (by decide) rfl hf (fun hf => ?_) (fun hf => ?_)
    · refine a_iload_n (pc' := 37) O dX1_sum_36 rfl 3 rfl rfl ?_
      exact a_iretP O hf dX1_sum_37
    · refine a_iload_n (pc' := 21) O dX1_sum_20 rfl 3 rfl rfl ?_
      refine a_aload_n (pc' := 22) O dX1_sum_21 rfl 0 rfl rfl ?_
      refine a_iload (pc' := 24) O dX1_sum_22 4 rfl rfl ?_
      refine a_iload_n (pc' := 25) O dX1_sum_24 rfl 1 rfl rfl ?_
      obtain ⟨z1, h2, hf⟩ := bd_some hf
      refine a_callVI (pc' := 28) (n := 2) (As := [.int x4, .int x1]) (st := [.int x3]) (q0 := 5) O (ctX1_figure hE x4 x1 σ z1 h2) wm_398 wm_278 wm_279 wm_19 wm_280 (by decide +kernel) (by decide) (gC_5 E _) hc_1 rfl rfl rfl (Nat.le_of_ble_eq_true rfl) dX1_sum_25 rfl ?_
      refine a_iadd (pc' := 29) O dX1_sum_28 rfl ?_
      refine a_topi hf (fun v3 hf => ?_)
      refine a_istore_n (pc' := 30) (lv' := [(3, .int v3), (0, .ref (E.2.2.2.2 5)), (1, .int x1), (2, .int x2), (4, .int x4)]) O dX1_sum_29 rfl (by decide) rfl rfl ?_
      refine a_iincB (pc' := 33) (lv' := fun v4 => [(4, .int v4), (3, .int v3), (0, .ref (E.2.2.2.2 5)), (1, .int x1), (2, .int x2)]) (c0 := 1) O dX1_sum_30 4 rfl (by decide) (by decide) (fun _ => rfl) rfl hf (fun v4 hf => ?_)
      refine a_goto (tgt := 5) O dX1_sum_33 (by decide) ?_
      exact a_sub [2, 3, 4, 1, 0] rfl (hk5 x1 x2 v3 v4 hf)
def LX1_sum_5 (σ : St) : Nat → Int32 → Int32 → Int32 → Int32 → Option Int32
  | 0, _, _, _, _ => none
  | n + 1, x1, x2, x3, x4 => BX1_sum_5 (LX1_sum_5 σ n) σ x1 x2 x3 x4
theorem okLX1_sum_5 {E : ET} {X : XT} {z : Int32} {σ : St} (O : Ok (YC E) X cX1_sum 5 RX1 (some .int) rmX1_sum (some (.int z)) σ) : ∀ (n : Nat) (x1 : Int32) (x2 : Int32) (x3 : Int32) (x4 : Int32), LX1_sum_5 σ n x1 x2 x3 x4 = some z → At (YC E) X 5 5 [(0, .ref (E.2.2.2.2 5)), (1, .int x1), (2, .int x2), (3, .int x3), (4, .int x4)] [] σ := by
  intro n
  induction n with
  | zero =>
    intro x1 x2 x3 x4 hf
    rw [LX1_sum_5] at hf
    cases hf
  | succ n ih =>
    intro x1 x2 x3 x4 hf
    rw [LX1_sum_5] at hf
    exact okBX1_sum_5 O (LX1_sum_5 σ n) ih x1 x2 x3 x4 hf
def fX1_sum (a0 : Int32) (a1 : Int32) (σ : St) : Option Int32 :=
  LX1_sum_5 σ fu a0 a1 0 0
set_option maxRecDepth 100000 in
theorem ctX1_sum {E : ET} (hE : Dj (YC E)) (a0 : Int32) (a1 : Int32) (σ : St) (z : Int32) (hf : fX1_sum a0 a1 σ = some z) : Ct (YC E) yX1_sum cX1_sum 5 (some .int) rmX1_sum [.ref (E.2.2.2.2 5), .int a0, .int a1] σ (some (.int z)) σ := by
  refine Ct.of hE (by decide) (Nat.le_of_ble_eq_true rfl) (fun X O => ?_)
  have O : Ok (YC E) X cX1_sum 5 RX1 (some .int) rmX1_sum (some (.int z)) σ := O
  show At (YC E) X 5 0 [(0, .ref (E.2.2.2.2 5)), (1, .int a0), (2, .int a1)] [] σ
  unfold fX1_sum at hf
  refine a_iconst (pc' := 1) (v := 0) O dX1_sum_0 (by decide) rfl ?_
  refine a_istore_n (pc' := 2) (lv' := [(3, .int 0), (0, .ref (E.2.2.2.2 5)), (1, .int a0), (2, .int a1)]) O dX1_sum_1 rfl (by decide) rfl rfl ?_
  refine a_iconst (pc' := 3) (v := 0) O dX1_sum_2 (by decide) rfl ?_
  refine a_istore (pc' := 5) (lv' := [(4, .int 0), (3, .int 0), (0, .ref (E.2.2.2.2 5)), (1, .int a0), (2, .int a1)]) O dX1_sum_3 (by decide) rfl rfl ?_
  exact a_sub [2, 3, 4, 1, 0] rfl (okLX1_sum_5 O fu a0 a1 0 0 hf)
def rmX0_minutesTill : Room := { frames := 2, cells := 0, slots := 0, locals := 46 }
def fX0_minutesTill (a0 : Int32) (a1 : Int32) (σ : St) : Option Int32 :=
  gIn a0 6 (if (σ.2.2 22 a0.toNatClampNeg) = 0 then gIn a0 6 ((fX1_sum 0 (σ.2.2 19 a0.toNatClampNeg) σ).bind (fun z8 => some z8)) else ((fX1_sum 1 a1 σ).bind (fun z1 => gIn a0 6 ((fX1_sum 1 (σ.2.2 19 a0.toNatClampNeg) σ).bind (fun z3 => bI (z1 - z3) (fun v5 => (fX1_sum 0 a1 σ).bind (fun z6 => some (z6 + v5))))))))
set_option maxRecDepth 100000 in
theorem ctX0_minutesTill {E : ET} (hE : Dj (YC E)) (a0 : Int32) (a1 : Int32) (σ : St) (z : Int32) (hf : fX0_minutesTill a0 a1 σ = some z) : Ct (YC E) yX0_minutesTill cX0_minutesTill 5 (some .int) rmX0_minutesTill [.ref (E.2.2.2.2 18), .int a0, .int a1, .ref (E.2.2.2.2 5)] σ (some (.int z)) σ := by
  refine Ct.of hE (by decide) (Nat.le_of_ble_eq_true rfl) (fun X O => ?_)
  have O : Ok (YC E) X cX0_minutesTill 5 RX0 (some .int) rmX0_minutesTill (some (.int z)) σ := O
  show At (YC E) X 5 0 [(0, .ref (E.2.2.2.2 18)), (1, .int a0), (2, .int a1), (3, .ref (E.2.2.2.2 5))] [] σ
  unfold fX0_minutesTill at hf
  refine a_aload_n (pc' := 1) O dX0_minutesTill_0 rfl 0 rfl rfl ?_
  refine gfC_18_3 (pc' := 4) O dX0_minutesTill_1 rfl ?_
  refine a_iload_n (pc' := 5) O dX0_minutesTill_4 rfl 1 rfl rfl ?_
  refine laC_22 (pc' := 6) O hf dX0_minutesTill_5 rfl (fun hf => ?_)
  refine a_if_ne (pc' := 9) (tgt := 21) O dX0_minutesTill_6 (by decide) rfl hf (fun hf => ?_) (fun hf => ?_)
  · refine a_aload_n (pc' := 22) O dX0_minutesTill_21 rfl 3 rfl rfl ?_
    refine a_iconst (pc' := 23) (v := 1) O dX0_minutesTill_22 (by decide) rfl ?_
    refine a_iload_n (pc' := 24) O dX0_minutesTill_23 rfl 2 rfl rfl ?_
    obtain ⟨z1, h2, hf⟩ := bd_some hf
    refine a_callVI (pc' := 27) (n := 2) (As := [.int 1, .int a1]) (st := []) (q0 := 5) O (ctX1_sum hE 1 a1 σ z1 h2) wm_837 wm_501 wm_502 wm_19 wm_503 (by decide +kernel) (by decide) (gC_5 E _) hc_1 rfl rfl rfl (Nat.le_of_ble_eq_true rfl) dX0_minutesTill_24 rfl ?_
    refine a_aload_n (pc' := 28) O dX0_minutesTill_27 rfl 3 rfl rfl ?_
    refine a_iconst (pc' := 29) (v := 1) O dX0_minutesTill_28 (by decide) rfl ?_
    refine a_aload_n (pc' := 30) O dX0_minutesTill_29 rfl 0 rfl rfl ?_
    refine gfC_18_0 (pc' := 33) O dX0_minutesTill_30 rfl ?_
    refine a_iload_n (pc' := 34) O dX0_minutesTill_33 rfl 1 rfl rfl ?_
    refine laC_19 (pc' := 35) O hf dX0_minutesTill_34 rfl (fun hf => ?_)
    obtain ⟨z3, h4, hf⟩ := bd_some hf
    refine a_callVI (pc' := 38) (n := 2) (As := [.int 1, .int (σ.2.2 19 a0.toNatClampNeg)]) (st := [.int z1]) (q0 := 5) O (ctX1_sum hE 1 (σ.2.2 19 a0.toNatClampNeg) σ z3 h4) wm_837 wm_501 wm_502 wm_19 wm_503 (by decide +kernel) (by decide) (gC_5 E _) hc_1 rfl rfl rfl (Nat.le_of_ble_eq_true rfl) dX0_minutesTill_35 rfl ?_
    refine a_isub (pc' := 39) O dX0_minutesTill_38 rfl ?_
    refine a_topi hf (fun v5 hf => ?_)
    refine a_istore (pc' := 41) (lv' := [(4, .int v5), (0, .ref (E.2.2.2.2 18)), (1, .int a0), (2, .int a1), (3, .ref (E.2.2.2.2 5))]) O dX0_minutesTill_39 (by decide) rfl rfl ?_
    refine a_aload_n (pc' := 42) O dX0_minutesTill_41 rfl 4 rfl rfl ?_
    refine a_iconst (pc' := 43) (v := 0) O dX0_minutesTill_42 (by decide) rfl ?_
    refine a_iload_n (pc' := 44) O dX0_minutesTill_43 rfl 3 rfl rfl ?_
    obtain ⟨z6, h7, hf⟩ := bd_some hf
    refine a_callVI (pc' := 47) (n := 2) (As := [.int 0, .int a1]) (st := []) (q0 := 5) O (ctX1_sum hE 0 a1 σ z6 h7) wm_837 wm_501 wm_502 wm_19 wm_503 (by decide +kernel) (by decide) (gC_5 E _) hc_1 rfl rfl rfl (Nat.le_of_ble_eq_true rfl) dX0_minutesTill_44 rfl ?_
    refine a_iload (pc' := 49) O dX0_minutesTill_47 0 rfl rfl ?_
    refine a_iadd (pc' := 50) O dX0_minutesTill_49 rfl ?_
    exact a_iretP O hf dX0_minutesTill_50
  · refine a_aload_n (pc' := 10) O dX0_minutesTill_9 rfl 3 rfl rfl ?_
    refine a_iconst (pc' := 11) (v := 0) O dX0_minutesTill_10 (by decide) rfl ?_
    refine a_aload_n (pc' := 12) O dX0_minutesTill_11 rfl 0 rfl rfl ?_
    refine gfC_18_0 (pc' := 15) O dX0_minutesTill_12 rfl ?_
    refine a_iload_n (pc' := 16) O dX0_minutesTill_15 rfl 1 rfl rfl ?_
    refine laC_19 (pc' := 17) O hf dX0_minutesTill_16 rfl (fun hf => ?_)
    obtain ⟨z8, h9, hf⟩ := bd_some hf
    refine a_callVI (pc' := 20) (n := 2) (As := [.int 0, .int (σ.2.2 19 a0.toNatClampNeg)]) (st := []) (q0 := 5) O (ctX1_sum hE 0 (σ.2.2 19 a0.toNatClampNeg) σ z8 h9) wm_837 wm_501 wm_502 wm_19 wm_503 (by decide +kernel) (by decide) (gC_5 E _) hc_1 rfl rfl rfl (Nat.le_of_ble_eq_true rfl) dX0_minutesTill_17 rfl ?_
    exact a_iretP O hf dX0_minutesTill_20
def rmX0_allow : Room := { frames := 3, cells := 0, slots := 0, locals := 70 }
def BX0_allow_3 (k3 : Int32 → Int32 → Option Int32) (σ : St) (x1 : Int32) (x4 : Int32) : Option Int32 :=
  if (σ.1 15) ≤ x4 then some 1 else (gIn x4 6 (if x1 < (σ.2.2 19 x4.toNatClampNeg) then some 0 else (gIn x4 6 (gIn x4 6 ((fX3_burns (σ.2.2 20 x4.toNatClampNeg) σ).bind (fun z1 => (fX0_minutesTill x4 x1 σ).bind (fun z3 => if (σ.2.2 21 x4.toNatClampNeg) = (z1 - z3) then bI (x4 + 1) (fun v5 => k3 x1 v5) else (some 0))))))))
set_option maxRecDepth 100000 in
theorem okBX0_allow_3 {E : ET} {X : XT} {z : Int32} {σ : St} (O : Ok (YC E) X cX0_allow 5 RX0 (some .boolean) rmX0_allow (some (.int z)) σ) (k3 : Int32 → Int32 → Option Int32) (hk3 : ∀ (x1 : Int32) (x4 : Int32), k3 x1 x4 = some z → At (YC E) X 5 3 [(0, .ref (E.2.2.2.2 18)), (1, .int x1), (2, .ref (E.2.2.2.2 5)), (3, .ref (E.2.2.2.2 8)), (4, .int x4)] [] σ) (x1 : Int32) (x4 : Int32) (hf : BX0_allow_3 k3 σ x1 x4 = some z) : At (YC E) X 5 3 [(0, .ref (E.2.2.2.2 18)), (1, .int x1), (2, .ref (E.2.2.2.2 5)), (3, .ref (E.2.2.2.2 8)), (4, .int x4)] [] σ := by
  have hE := O.2.2.2.2.2.2.2.2.2.1
  unfold BX0_allow_3 at hf
  refine a_iload (pc' := 5) O dX0_allow_3 4 rfl rfl ?_
  refine a_aload_n (pc' := 6) O dX0_allow_5 rfl 0 rfl rfl ?_
  refine gfC_18_4 (pc' := 9) O dX0_allow_6 rfl ?_
  refine a_icmp_ge (pc' := 12) (tgt := 61) O dX0_allow_9 (by decide) rfl hf (fun hf => ?_) (fun hf => ?_)
  · refine a_iconst (pc' := 62) (v := 1) O dX0_allow_61 (by decide) rfl ?_
    exact a_zretP (Or.inr rfl) O hf dX0_allow_62
  · refine a_aload_n (pc' := 13) O dX0_allow_12 rfl 0 rfl rfl ?_
    refine gfC_18_0 (pc' := 16) O dX0_allow_13 rfl ?_
    refine a_iload (pc' := 18) O dX0_allow_16 4 rfl rfl ?_
    refine laC_19 (pc' := 19) O hf dX0_allow_18 rfl (fun hf => ?_)
    refine a_iload_n (pc' := 20) O dX0_allow_19 rfl 1 rfl rfl ?_
    refine a_icmp_gt (pc' := 23) (tgt := 53) O dX0_allow_20 (by decide) rfl hf (fun hf => ?_) (fun hf => ?_)
    · refine a_iconst (pc' := 54) (v := 0) O dX0_allow_53 (by decide) rfl ?_
      exact a_zretP (Or.inl rfl) O hf dX0_allow_54
    · refine a_aload_n (pc' := 24) O dX0_allow_23 rfl 0 rfl rfl ?_
      refine gfC_18_2 (pc' := 27) O dX0_allow_24 rfl ?_
      refine a_iload (pc' := 29) O dX0_allow_27 4 rfl rfl ?_
      refine laC_21 (pc' := 30) O hf dX0_allow_29 rfl (fun hf => ?_)
      refine a_aload_n (pc' := 31) O dX0_allow_30 rfl 3 rfl rfl ?_
      refine a_aload_n (pc' := 32) O dX0_allow_31 rfl 0 rfl rfl ?_
      refine gfC_18_1 (pc' := 35) O dX0_allow_32 rfl ?_
      refine a_iload (pc' := 37) O dX0_allow_35 4 rfl rfl ?_
      refine laC_20 (pc' := 38) O hf dX0_allow_37 rfl (fun hf => ?_)
      obtain ⟨z1, h2, hf⟩ := bd_some hf
      refine a_callVI (pc' := 41) (n := 1) (As := [.int (σ.2.2 20 x4.toNatClampNeg)]) (st := [.int (σ.2.2 21 x4.toNatClampNeg)]) (q0 := 8) O (ctX3_burns hE (σ.2.2 20 x4.toNatClampNeg) σ z1 h2) wm_832 wm_316 wm_317 wm_27 wm_318 (by decide +kernel) (by decide) (gC_8 E _) hc_3 rfl rfl rfl (Nat.le_of_ble_eq_true rfl) dX0_allow_38 rfl ?_
      refine a_aload_n (pc' := 42) O dX0_allow_41 rfl 0 rfl rfl ?_
      refine a_iload (pc' := 44) O dX0_allow_42 4 rfl rfl ?_
      refine a_iload_n (pc' := 45) O dX0_allow_44 rfl 1 rfl rfl ?_
      refine a_aload_n (pc' := 46) O dX0_allow_45 rfl 2 rfl rfl ?_
      obtain ⟨z3, h4, hf⟩ := bd_some hf
      refine a_callVI (pc' := 49) (n := 3) (As := [.int x4, .int x1, .ref (E.2.2.2.2 5)]) (st := [.int z1, .int (σ.2.2 21 x4.toNatClampNeg)]) (q0 := 18) O (ctX0_minutesTill hE x4 x1 σ z3 h4) wm_833 wm_834 wm_835 wm_43 wm_836 (by decide +kernel) (by decide) (gC_18 E _) hc_0 rfl rfl rfl (Nat.le_of_ble_eq_true rfl) dX0_allow_46 rfl ?_
      refine a_isub (pc' := 50) O dX0_allow_49 rfl ?_
      refine a_icmp_eq (pc' := 53) (tgt := 55) O dX0_allow_50 (by decide) rfl hf (fun hf => ?_) (fun hf => ?_)
      · refine a_iincB (pc' := 58) (lv' := fun v5 => [(4, .int v5), (0, .ref (E.2.2.2.2 18)), (1, .int x1), (2, .ref (E.2.2.2.2 5)), (3, .ref (E.2.2.2.2 8))]) (c0 := 1) O dX0_allow_55 4 rfl (by decide) (by decide) (fun _ => rfl) rfl hf (fun v5 hf => ?_)
        refine a_goto (tgt := 3) O dX0_allow_58 (by decide) ?_
        exact a_sub [1, 2, 3, 4, 0] rfl (hk3 x1 v5 hf)
      · refine a_iconst (pc' := 54) (v := 0) O dX0_allow_53 (by decide) rfl ?_
        exact a_zretP (Or.inl rfl) O hf dX0_allow_54
def LX0_allow_3 (σ : St) : Nat → Int32 → Int32 → Option Int32
  | 0, _, _ => none
  | n + 1, x1, x4 => BX0_allow_3 (LX0_allow_3 σ n) σ x1 x4
theorem okLX0_allow_3 {E : ET} {X : XT} {z : Int32} {σ : St} (O : Ok (YC E) X cX0_allow 5 RX0 (some .boolean) rmX0_allow (some (.int z)) σ) : ∀ (n : Nat) (x1 : Int32) (x4 : Int32), LX0_allow_3 σ n x1 x4 = some z → At (YC E) X 5 3 [(0, .ref (E.2.2.2.2 18)), (1, .int x1), (2, .ref (E.2.2.2.2 5)), (3, .ref (E.2.2.2.2 8)), (4, .int x4)] [] σ := by
  intro n
  induction n with
  | zero =>
    intro x1 x4 hf
    rw [LX0_allow_3] at hf
    cases hf
  | succ n ih =>
    intro x1 x4 hf
    rw [LX0_allow_3] at hf
    exact okBX0_allow_3 O (LX0_allow_3 σ n) ih x1 x4 hf
def fX0_allow (a0 : Int32) (σ : St) : Option Int32 :=
  LX0_allow_3 σ fu a0 0
set_option maxRecDepth 100000 in
theorem ctX0_allow {E : ET} (hE : Dj (YC E)) (a0 : Int32) (σ : St) (z : Int32) (hf : fX0_allow a0 σ = some z) : Ct (YC E) yX0_allow cX0_allow 5 (some .boolean) rmX0_allow [.ref (E.2.2.2.2 18), .int a0, .ref (E.2.2.2.2 5), .ref (E.2.2.2.2 8)] σ (some (.int z)) σ := by
  refine Ct.of hE (by decide) (Nat.le_of_ble_eq_true rfl) (fun X O => ?_)
  have O : Ok (YC E) X cX0_allow 5 RX0 (some .boolean) rmX0_allow (some (.int z)) σ := O
  show At (YC E) X 5 0 [(0, .ref (E.2.2.2.2 18)), (1, .int a0), (2, .ref (E.2.2.2.2 5)), (3, .ref (E.2.2.2.2 8))] [] σ
  unfold fX0_allow at hf
  refine a_iconst (pc' := 1) (v := 0) O dX0_allow_0 (by decide) rfl ?_
  refine a_istore (pc' := 3) (lv' := [(4, .int 0), (0, .ref (E.2.2.2.2 18)), (1, .int a0), (2, .ref (E.2.2.2.2 5)), (3, .ref (E.2.2.2.2 8))]) O dX0_allow_1 (by decide) rfl rfl ?_
  exact a_sub [1, 2, 3, 4, 0] rfl (okLX0_allow_3 O fu a0 0 hf)
def rmX1_size : Room := { frames := 0, cells := 0, slots := 0, locals := 0 }
def fX1_size (σ : St) : Option Int32 :=
  some (σ.1 2)
set_option maxRecDepth 100000 in
theorem ctX1_size {E : ET} (hE : Dj (YC E)) (σ : St) (z : Int32) (hf : fX1_size σ = some z) : Ct (YC E) yX1_size cX1_size 1 (some .int) rmX1_size [.ref (E.2.2.2.2 5)] σ (some (.int z)) σ := by
  refine Ct.of hE (by decide) (Nat.le_of_ble_eq_true rfl) (fun X O => ?_)
  have O : Ok (YC E) X cX1_size 1 RX1 (some .int) rmX1_size (some (.int z)) σ := O
  show At (YC E) X 1 0 [(0, .ref (E.2.2.2.2 5))] [] σ
  unfold fX1_size at hf
  refine a_aload_n (pc' := 1) O dX1_size_0 rfl 0 rfl rfl ?_
  refine gfC_5_1 (pc' := 4) O dX1_size_1 rfl ?_
  exact a_iretP O hf dX1_size_4
def rmX1_faultPlace : Room := { frames := 0, cells := 0, slots := 0, locals := 0 }
def fX1_faultPlace (σ : St) : Option Int32 :=
  some (σ.1 3)
set_option maxRecDepth 100000 in
theorem ctX1_faultPlace {E : ET} (hE : Dj (YC E)) (σ : St) (z : Int32) (hf : fX1_faultPlace σ = some z) : Ct (YC E) yX1_faultPlace cX1_faultPlace 1 (some .int) rmX1_faultPlace [.ref (E.2.2.2.2 5)] σ (some (.int z)) σ := by
  refine Ct.of hE (by decide) (Nat.le_of_ble_eq_true rfl) (fun X O => ?_)
  have O : Ok (YC E) X cX1_faultPlace 1 RX1 (some .int) rmX1_faultPlace (some (.int z)) σ := O
  show At (YC E) X 1 0 [(0, .ref (E.2.2.2.2 5))] [] σ
  unfold fX1_faultPlace at hf
  refine a_aload_n (pc' := 1) O dX1_faultPlace_0 rfl 0 rfl rfl ?_
  refine gfC_5_2 (pc' := 4) O dX1_faultPlace_1 rfl ?_
  exact a_iretP O hf dX1_faultPlace_4
def rmX7_length_1 : Room := { frames := 0, cells := 0, slots := 0, locals := 0 }
def fX7_length_1 (σ : St) : Option Int32 :=
  some (σ.1 0)
set_option maxRecDepth 100000 in
theorem ctX7_length_1 {E : ET} (hE : Dj (YC E)) (σ : St) (z : Int32) (hf : fX7_length_1 σ = some z) : Ct (YC E) yX7_length cX7_length 1 (some .int) rmX7_length_1 [.ref (E.2.2.2.2 1)] σ (some (.int z)) σ := by
  refine Ct.of hE (by decide) (Nat.le_of_ble_eq_true rfl) (fun X O => ?_)
  have O : Ok (YC E) X cX7_length 1 RX7 (some .int) rmX7_length_1 (some (.int z)) σ := O
  show At (YC E) X 1 0 [(0, .ref (E.2.2.2.2 1))] [] σ
  unfold fX7_length_1 at hf
  refine a_aload_n (pc' := 1) O dX7_length_0 rfl 0 rfl rfl ?_
  refine gfC_1_1 (pc' := 4) O dX7_length_1 rfl ?_
  exact a_iretP O hf dX7_length_4
def rmX7_length_3 : Room := { frames := 0, cells := 0, slots := 0, locals := 0 }
def fX7_length_3 (σ : St) : Option Int32 :=
  some (σ.1 1)
set_option maxRecDepth 100000 in
theorem ctX7_length_3 {E : ET} (hE : Dj (YC E)) (σ : St) (z : Int32) (hf : fX7_length_3 σ = some z) : Ct (YC E) yX7_length cX7_length 1 (some .int) rmX7_length_3 [.ref (E.2.2.2.2 3)] σ (some (.int z)) σ := by
  refine Ct.of hE (by decide) (Nat.le_of_ble_eq_true rfl) (fun X O => ?_)
  have O : Ok (YC E) X cX7_length 1 RX7 (some .int) rmX7_length_3 (some (.int z)) σ := O
  show At (YC E) X 1 0 [(0, .ref (E.2.2.2.2 3))] [] σ
  unfold fX7_length_3 at hf
  refine a_aload_n (pc' := 1) O dX7_length_0 rfl 0 rfl rfl ?_
  refine gfC_3_1 (pc' := 4) O dX7_length_1 rfl ?_
  exact a_iretP O hf dX7_length_4
def rmX7_at_1 : Room := { frames := 0, cells := 0, slots := 0, locals := 0 }
def fX7_at_1 (a0 : Int32) (σ : St) : Option Int32 :=
  if a0 < 0 then some (-1) else (if (σ.1 0) ≤ a0 then some (-1) else (gIn a0 79 (some (σ.2.2 2 a0.toNatClampNeg))))
set_option maxRecDepth 100000 in
theorem ctX7_at_1 {E : ET} (hE : Dj (YC E)) (a0 : Int32) (σ : St) (z : Int32) (hf : fX7_at_1 a0 σ = some z) : Ct (YC E) yX7_at cX7_at 2 (some .int) rmX7_at_1 [.ref (E.2.2.2.2 1), .int a0] σ (some (.int z)) σ := by
  refine Ct.of hE (by decide) (Nat.le_of_ble_eq_true rfl) (fun X O => ?_)
  have O : Ok (YC E) X cX7_at 2 RX7 (some .int) rmX7_at_1 (some (.int z)) σ := O
  show At (YC E) X 2 0 [(0, .ref (E.2.2.2.2 1)), (1, .int a0)] [] σ
  unfold fX7_at_1 at hf
  refine a_iload_n (pc' := 1) O dX7_at_0 rfl 1 rfl rfl ?_
  refine a_if_lt (pc' := 4) (tgt := 21) O dX7_at_1 (by decide) rfl hf (fun hf => ?_) (fun hf => ?_)
  · refine a_iconst (pc' := 22) (v := (-1)) O dX7_at_21 (by decide) rfl ?_
    exact a_iretP O hf dX7_at_22
  · refine a_iload_n (pc' := 5) O dX7_at_4 rfl 1 rfl rfl ?_
    refine a_aload_n (pc' := 6) O dX7_at_5 rfl 0 rfl rfl ?_
    refine gfC_1_1 (pc' := 9) O dX7_at_6 rfl ?_
    refine a_icmp_ge (pc' := 12) (tgt := 21) O dX7_at_9 (by decide) rfl hf (fun hf => ?_) (fun hf => ?_)
    · refine a_iconst (pc' := 22) (v := (-1)) O dX7_at_21 (by decide) rfl ?_
      exact a_iretP O hf dX7_at_22
    · refine a_aload_n (pc' := 13) O dX7_at_12 rfl 0 rfl rfl ?_
      refine gfC_1_0 (pc' := 16) O dX7_at_13 rfl ?_
      refine a_iload_n (pc' := 17) O dX7_at_16 rfl 1 rfl rfl ?_
      refine laC_2 (pc' := 18) O hf dX7_at_17 rfl (fun hf => ?_)
      refine a_goto (tgt := 22) O dX7_at_18 (by decide) ?_
      exact a_iretP O hf dX7_at_22
def rmX7_at_3 : Room := { frames := 0, cells := 0, slots := 0, locals := 0 }
def fX7_at_3 (a0 : Int32) (σ : St) : Option Int32 :=
  if a0 < 0 then some (-1) else (if (σ.1 1) ≤ a0 then some (-1) else (gIn a0 40 (some (σ.2.2 4 a0.toNatClampNeg))))
set_option maxRecDepth 100000 in
theorem ctX7_at_3 {E : ET} (hE : Dj (YC E)) (a0 : Int32) (σ : St) (z : Int32) (hf : fX7_at_3 a0 σ = some z) : Ct (YC E) yX7_at cX7_at 2 (some .int) rmX7_at_3 [.ref (E.2.2.2.2 3), .int a0] σ (some (.int z)) σ := by
  refine Ct.of hE (by decide) (Nat.le_of_ble_eq_true rfl) (fun X O => ?_)
  have O : Ok (YC E) X cX7_at 2 RX7 (some .int) rmX7_at_3 (some (.int z)) σ := O
  show At (YC E) X 2 0 [(0, .ref (E.2.2.2.2 3)), (1, .int a0)] [] σ
  unfold fX7_at_3 at hf
  refine a_iload_n (pc' := 1) O dX7_at_0 rfl 1 rfl rfl ?_
  refine a_if_lt (pc' := 4) (tgt := 21) O dX7_at_1 (by decide) rfl hf (fun hf => ?_) (fun hf => ?_)
  · refine a_iconst (pc' := 22) (v := (-1)) O dX7_at_21 (by decide) rfl ?_
    exact a_iretP O hf dX7_at_22
  · refine a_iload_n (pc' := 5) O dX7_at_4 rfl 1 rfl rfl ?_
    refine a_aload_n (pc' := 6) O dX7_at_5 rfl 0 rfl rfl ?_
    refine gfC_3_1 (pc' := 9) O dX7_at_6 rfl ?_
    refine a_icmp_ge (pc' := 12) (tgt := 21) O dX7_at_9 (by decide) rfl hf (fun hf => ?_) (fun hf => ?_)
    · refine a_iconst (pc' := 22) (v := (-1)) O dX7_at_21 (by decide) rfl ?_
      exact a_iretP O hf dX7_at_22
    · refine a_aload_n (pc' := 13) O dX7_at_12 rfl 0 rfl rfl ?_
      refine gfC_3_0 (pc' := 16) O dX7_at_13 rfl ?_
      refine a_iload_n (pc' := 17) O dX7_at_16 rfl 1 rfl rfl ?_
      refine laC_4 (pc' := 18) O hf dX7_at_17 rfl (fun hf => ?_)
      refine a_goto (tgt := 22) O dX7_at_18 (by decide) ?_
      exact a_iretP O hf dX7_at_22
def rmX1_accept : Room := { frames := 0, cells := 0, slots := 0, locals := 0 }
def fX1_accept (a0 : Int32) (a1 : Int32) (a2 : Int32) (σ : St) : Option (Int32 × St) :=
  if a0 < 0 then some (0, σ) else (if a0 < 16 then if a1 ≤ 3 then if a1 = 3 then gIn a0 16 (if a2 = 114 then gIn 3 4 (bS (sA σ (28 + a0.toNatClampNeg) (3 : Int32).toNatClampNeg 1) (fun σ7 => if a2 = 114 then some (1, σ7) else (if a2 = 46 then some (1, σ7) else (some (0, σ7))))) else (gIn 3 4 (bS (sA σ (28 + a0.toNatClampNeg) (3 : Int32).toNatClampNeg 0) (fun σ6 => if a2 = 114 then some (1, σ6) else (if a2 = 46 then some (1, σ6) else (some (0, σ6))))))) else (if a2 < 49 then some (0, σ) else (if a2 ≤ 57 then gIn a0 16 (gIn a1 4 (bS (sA σ (28 + a0.toNatClampNeg) a1.toNatClampNeg (a2 - 48)) (fun σ2 => if a1 = 2 then gIn a0 16 (gIn 2 4 (gIn a0 16 (gIn 1 4 (if (σ2.2.2 (28 + a0.toNatClampNeg) (2 : Int32).toNatClampNeg) < (σ2.2.2 (28 + a0.toNatClampNeg) (1 : Int32).toNatClampNeg) then some (0, σ2) else (some (1, σ2)))))) else (some (1, σ2))))) else (some (0, σ)))) else (if a2 = 59 then some (1, σ) else (some (0, σ))) else (some (0, σ)))
set_option maxRecDepth 100000 in
theorem ctX1_accept {E : ET} (hE : Dj (YC E)) (a0 : Int32) (a1 : Int32) (a2 : Int32) (σ : St) (z : Int32 × St) (hf : fX1_accept a0 a1 a2 σ = some z) : Ct (YC E) yX1_accept cX1_accept 4 (some .boolean) rmX1_accept [.ref (E.2.2.2.2 5), .int a0, .int a1, .int a2] σ (some (.int z.1)) z.2 := by
  refine Ct.of hE (by decide) (Nat.le_of_ble_eq_true rfl) (fun X O => ?_)
  have O : Ok (YC E) X cX1_accept 4 RX1 (some .boolean) rmX1_accept (some (.int z.1)) z.2 := O
  show At (YC E) X 4 0 [(0, .ref (E.2.2.2.2 5)), (1, .int a0), (2, .int a1), (3, .int a2)] [] σ
  unfold fX1_accept at hf
  refine a_iload_n (pc' := 1) O dX1_accept_0 rfl 1 rfl rfl ?_
  refine a_if_lt (pc' := 4) (tgt := 10) O dX1_accept_1 (by decide) rfl hf (fun hf => ?_) (fun hf => ?_)
  · refine a_iconst (pc' := 11) (v := 0) O dX1_accept_10 (by decide) rfl ?_
    exact a_zret (Or.inl rfl) O hf dX1_accept_11
  · refine a_iload_n (pc' := 5) O dX1_accept_4 rfl 1 rfl rfl ?_
    refine a_bipush (pc' := 7) (v := 16) O dX1_accept_5 (by decide) rfl ?_
    refine a_icmp_lt (pc' := 10) (tgt := 12) O dX1_accept_7 (by decide) rfl hf (fun hf => ?_) (fun hf => ?_)
    · refine a_iload_n (pc' := 13) O dX1_accept_12 rfl 2 rfl rfl ?_
      refine a_iconst (pc' := 14) (v := 3) O dX1_accept_13 (by decide) rfl ?_
      refine a_icmp_le (pc' := 17) (tgt := 29) O dX1_accept_14 (by decide) rfl hf (fun hf => ?_) (fun hf => ?_)
      · refine a_iload_n (pc' := 30) O dX1_accept_29 rfl 2 rfl rfl ?_
        refine a_iconst (pc' := 31) (v := 3) O dX1_accept_30 (by decide) rfl ?_
        refine a_icmp_ne (pc' := 34) (tgt := 71) O dX1_accept_31 (by decide) rfl hf (fun hf => ?_) (fun hf => ?_)
        · refine a_iload_n (pc' := 72) O dX1_accept_71 rfl 3 rfl rfl ?_
          refine a_bipush (pc' := 74) (v := 49) O dX1_accept_72 (by decide) rfl ?_
          refine a_icmp_lt (pc' := 77) (tgt := 83) O dX1_accept_74 (by decide) rfl hf (fun hf => ?_) (fun hf => ?_)
          · refine a_iconst (pc' := 84) (v := 0) O dX1_accept_83 (by decide) rfl ?_
            exact a_zret (Or.inl rfl) O hf dX1_accept_84
          · refine a_iload_n (pc' := 78) O dX1_accept_77 rfl 3 rfl rfl ?_
            refine a_bipush (pc' := 80) (v := 57) O dX1_accept_78 (by decide) rfl ?_
            refine a_icmp_le (pc' := 83) (tgt := 85) O dX1_accept_80 (by decide) rfl hf (fun hf => ?_) (fun hf => ?_)
            · refine a_aload_n (pc' := 86) O dX1_accept_85 rfl 0 rfl rfl ?_
              refine gfC_5_0 (pc' := 89) O dX1_accept_86 rfl ?_
              refine a_iload_n (pc' := 90) O dX1_accept_89 rfl 1 rfl rfl ?_
              refine lo_28 (pc' := 91) O hf dX1_accept_90 rfl (fun h1 hf => ?_)
              refine a_iload_n (pc' := 92) O dX1_accept_91 rfl 2 rfl rfl ?_
              refine a_iload_n (pc' := 93) O dX1_accept_92 rfl 3 rfl rfl ?_
              refine a_bipush (pc' := 95) (v := 48) O dX1_accept_93 (by decide) rfl ?_
              refine a_isub (pc' := 96) O dX1_accept_95 rfl ?_
              refine sw_28 (pc' := 97) O h1 hf dX1_accept_96 rfl (fun σ2 hf => ?_)
              refine a_iload_n (pc' := 98) O dX1_accept_97 rfl 2 rfl rfl ?_
              refine a_iconst (pc' := 99) (v := 2) O dX1_accept_98 (by decide) rfl ?_
              refine a_icmp_ne (pc' := 102) (tgt := 121) O dX1_accept_99 (by decide) rfl hf (fun hf => ?_) (fun hf => ?_)
              · refine a_iconst (pc' := 122) (v := 1) O dX1_accept_121 (by decide) rfl ?_
                refine a_goto (tgt := 126) O dX1_accept_122 (by decide) ?_
                exact a_zret (Or.inr rfl) O hf dX1_accept_126
              · refine a_aload_n (pc' := 103) O dX1_accept_102 rfl 0 rfl rfl ?_
                refine gfC_5_0 (pc' := 106) O dX1_accept_103 rfl ?_
                refine a_iload_n (pc' := 107) O dX1_accept_106 rfl 1 rfl rfl ?_
                refine lo_28 (pc' := 108) O hf dX1_accept_107 rfl (fun h3 hf => ?_)
                refine a_iconst (pc' := 109) (v := 2) O dX1_accept_108 (by decide) rfl ?_
                refine lr_28 (pc' := 110) O h3 hf dX1_accept_109 rfl (fun hf => ?_)
                refine a_aload_n (pc' := 111) O dX1_accept_110 rfl 0 rfl rfl ?_
                refine gfC_5_0 (pc' := 114) O dX1_accept_111 rfl ?_
                refine a_iload_n (pc' := 115) O dX1_accept_114 rfl 1 rfl rfl ?_
                refine lo_28 (pc' := 116) O hf dX1_accept_115 rfl (fun h4 hf => ?_)
                refine a_iconst (pc' := 117) (v := 1) O dX1_accept_116 (by decide) rfl ?_
                refine lr_28 (pc' := 118) O h4 hf dX1_accept_117 rfl (fun hf => ?_)
                refine a_icmp_lt (pc' := 121) (tgt := 125) O dX1_accept_118 (by decide) rfl hf (fun hf => ?_) (fun hf => ?_)
                · refine a_iconst (pc' := 126) (v := 0) O dX1_accept_125 (by decide) rfl ?_
                  exact a_zret (Or.inl rfl) O hf dX1_accept_126
                · refine a_iconst (pc' := 122) (v := 1) O dX1_accept_121 (by decide) rfl ?_
                  refine a_goto (tgt := 126) O dX1_accept_122 (by decide) ?_
                  exact a_zret (Or.inr rfl) O hf dX1_accept_126
            · refine a_iconst (pc' := 84) (v := 0) O dX1_accept_83 (by decide) rfl ?_
              exact a_zret (Or.inl rfl) O hf dX1_accept_84
        · refine a_aload_n (pc' := 35) O dX1_accept_34 rfl 0 rfl rfl ?_
          refine gfC_5_0 (pc' := 38) O dX1_accept_35 rfl ?_
          refine a_iload_n (pc' := 39) O dX1_accept_38 rfl 1 rfl rfl ?_
          refine lo_28 (pc' := 40) O hf dX1_accept_39 rfl (fun h5 hf => ?_)
          refine a_iconst (pc' := 41) (v := 3) O dX1_accept_40 (by decide) rfl ?_
          refine a_iload_n (pc' := 42) O dX1_accept_41 rfl 3 rfl rfl ?_
          refine a_bipush (pc' := 44) (v := 114) O dX1_accept_42 (by decide) rfl ?_
          refine a_icmp_ne (pc' := 47) (tgt := 51) O dX1_accept_44 (by decide) rfl hf (fun hf => ?_) (fun hf => ?_)
          · refine a_iconst (pc' := 52) (v := 0) O dX1_accept_51 (by decide) rfl ?_
            refine sw_28 (pc' := 53) O h5 hf dX1_accept_52 rfl (fun σ6 hf => ?_)
            refine a_iload_n (pc' := 54) O dX1_accept_53 rfl 3 rfl rfl ?_
            refine a_bipush (pc' := 56) (v := 114) O dX1_accept_54 (by decide) rfl ?_
            refine a_icmp_eq (pc' := 59) (tgt := 65) O dX1_accept_56 (by decide) rfl hf (fun hf => ?_) (fun hf => ?_)
            · refine a_iconst (pc' := 66) (v := 1) O dX1_accept_65 (by decide) rfl ?_
              refine a_goto (tgt := 70) O dX1_accept_66 (by decide) ?_
              exact a_zret (Or.inr rfl) O hf dX1_accept_70
            · refine a_iload_n (pc' := 60) O dX1_accept_59 rfl 3 rfl rfl ?_
              refine a_bipush (pc' := 62) (v := 46) O dX1_accept_60 (by decide) rfl ?_
              refine a_icmp_ne (pc' := 65) (tgt := 69) O dX1_accept_62 (by decide) rfl hf (fun hf => ?_) (fun hf => ?_)
              · refine a_iconst (pc' := 70) (v := 0) O dX1_accept_69 (by decide) rfl ?_
                exact a_zret (Or.inl rfl) O hf dX1_accept_70
              · refine a_iconst (pc' := 66) (v := 1) O dX1_accept_65 (by decide) rfl ?_
                refine a_goto (tgt := 70) O dX1_accept_66 (by decide) ?_
                exact a_zret (Or.inr rfl) O hf dX1_accept_70
          · refine a_iconst (pc' := 48) (v := 1) O dX1_accept_47 (by decide) rfl ?_
            refine a_goto (tgt := 52) O dX1_accept_48 (by decide) ?_
            refine sw_28 (pc' := 53) O h5 hf dX1_accept_52 rfl (fun σ7 hf => ?_)
            refine a_iload_n (pc' := 54) O dX1_accept_53 rfl 3 rfl rfl ?_
            refine a_bipush (pc' := 56) (v := 114) O dX1_accept_54 (by decide) rfl ?_
            refine a_icmp_eq (pc' := 59) (tgt := 65) O dX1_accept_56 (by decide) rfl hf (fun hf => ?_) (fun hf => ?_)
            · refine a_iconst (pc' := 66) (v := 1) O dX1_accept_65 (by decide) rfl ?_
              refine a_goto (tgt := 70) O dX1_accept_66 (by decide) ?_
              exact a_zret (Or.inr rfl) O hf dX1_accept_70
            · refine a_iload_n (pc' := 60) O dX1_accept_59 rfl 3 rfl rfl ?_
              refine a_bipush (pc' := 62) (v := 46) O dX1_accept_60 (by decide) rfl ?_
              refine a_icmp_ne (pc' := 65) (tgt := 69) O dX1_accept_62 (by decide) rfl hf (fun hf => ?_) (fun hf => ?_)
              · refine a_iconst (pc' := 70) (v := 0) O dX1_accept_69 (by decide) rfl ?_
                exact a_zret (Or.inl rfl) O hf dX1_accept_70
              · refine a_iconst (pc' := 66) (v := 1) O dX1_accept_65 (by decide) rfl ?_
                refine a_goto (tgt := 70) O dX1_accept_66 (by decide) ?_
                exact a_zret (Or.inr rfl) O hf dX1_accept_70
      · refine a_iload_n (pc' := 18) O dX1_accept_17 rfl 3 rfl rfl ?_
        refine a_bipush (pc' := 20) (v := 59) O dX1_accept_18 (by decide) rfl ?_
        refine a_icmp_ne (pc' := 23) (tgt := 27) O dX1_accept_20 (by decide) rfl hf (fun hf => ?_) (fun hf => ?_)
        · refine a_iconst (pc' := 28) (v := 0) O dX1_accept_27 (by decide) rfl ?_
          exact a_zret (Or.inl rfl) O hf dX1_accept_28
        · refine a_iconst (pc' := 24) (v := 1) O dX1_accept_23 (by decide) rfl ?_
          refine a_goto (tgt := 28) O dX1_accept_24 (by decide) ?_
          exact a_zret (Or.inr rfl) O hf dX1_accept_28
    · refine a_iconst (pc' := 11) (v := 0) O dX1_accept_10 (by decide) rfl ?_
      exact a_zret (Or.inl rfl) O hf dX1_accept_11
def rmX1_parse : Room := { frames := 1, cells := 0, slots := 0, locals := 23 }
def BX1_parse_52 (σ : St) (x2 : Int32) : Option St :=
  if x2 ≤ 0 then gNz 5 (bS (sI σ 2 ((x2 + 1) / 5)) (fun σ6 => some σ6)) else (gNz 5 (if (x2 - x2 / 5 * 5) = 4 then gNz 5 (bS (sI σ 2 ((x2 + 1) / 5)) (fun σ9 => some σ9)) else (bS (sI σ 3 x2) (fun σ10 => some σ10))))
set_option maxRecDepth 100000 in
theorem okBX1_parse_52 {E : ET} {X : XT} {z : St} (O : Ok (YC E) X cX1_parse 4 RX1 none rmX1_parse none z) (σ : St) (x2 : Int32) (hf : BX1_parse_52 σ x2 = some z) : At (YC E) X 4 52 [(0, .ref (E.2.2.2.2 5)), (2, .int x2)] [] σ := by
  have hE := O.2.2.2.2.2.2.2.2.2.1
  unfold BX1_parse_52 at hf
  refine a_iload_n (pc' := 53) O dX1_parse_52 rfl 1 rfl rfl ?_
  refine a_if_le (pc' := 56) (tgt := 69) O dX1_parse_53 (by decide) rfl hf (fun hf => ?_) (fun hf => ?_)
  · refine a_aload_n (pc' := 70) O dX1_parse_69 rfl 0 rfl rfl ?_
    refine a_iload_n (pc' := 71) O dX1_parse_70 rfl 1 rfl rfl ?_
    refine a_iconst (pc' := 72) (v := 1) O dX1_parse_71 (by decide) rfl ?_
    refine a_iadd (pc' := 73) O dX1_parse_72 rfl ?_
    refine a_iconst (pc' := 74) (v := 5) O dX1_parse_73 (by decide) rfl ?_
    obtain ⟨h5, hf⟩ := gNz_some hf
    refine a_idiv (pc' := 75) O dX1_parse_74 h5 rfl ?_
    refine pfC_5_1 (pc' := 78) O hf dX1_parse_75 rfl (fun σ6 hf => ?_)
    exact a_vret O hf dX1_parse_78
  · refine a_iload_n (pc' := 57) O dX1_parse_56 rfl 1 rfl rfl ?_
    refine a_iconst (pc' := 58) (v := 5) O dX1_parse_57 (by decide) rfl ?_
    obtain ⟨h7, hf⟩ := gNz_some hf
    refine a_irem (pc' := 59) O dX1_parse_58 h7 rfl ?_
    refine a_iconst (pc' := 60) (v := 4) O dX1_parse_59 (by decide) rfl ?_
    refine a_icmp_eq (pc' := 63) (tgt := 69) O dX1_parse_60 (by decide) rfl hf (fun hf => ?_) (fun hf => ?_)
    · refine a_aload_n (pc' := 70) O dX1_parse_69 rfl 0 rfl rfl ?_
      refine a_iload_n (pc' := 71) O dX1_parse_70 rfl 1 rfl rfl ?_
      refine a_iconst (pc' := 72) (v := 1) O dX1_parse_71 (by decide) rfl ?_
      refine a_iadd (pc' := 73) O dX1_parse_72 rfl ?_
      refine a_iconst (pc' := 74) (v := 5) O dX1_parse_73 (by decide) rfl ?_
      obtain ⟨h8, hf⟩ := gNz_some hf
      refine a_idiv (pc' := 75) O dX1_parse_74 h8 rfl ?_
      refine pfC_5_1 (pc' := 78) O hf dX1_parse_75 rfl (fun σ9 hf => ?_)
      exact a_vret O hf dX1_parse_78
    · refine a_aload_n (pc' := 64) O dX1_parse_63 rfl 0 rfl rfl ?_
      refine a_iload_n (pc' := 65) O dX1_parse_64 rfl 1 rfl rfl ?_
      refine pfC_5_2 (pc' := 68) O hf dX1_parse_65 rfl (fun σ10 hf => ?_)
      exact a_vret O hf dX1_parse_68
def BX1_parse_40 (σ : St) (x3 : Int32) : Option St :=
  bS (sI σ 3 x3) (fun σ18 => some σ18)
set_option maxRecDepth 100000 in
theorem okBX1_parse_40 {E : ET} {X : XT} {z : St} (O : Ok (YC E) X cX1_parse 4 RX1 none rmX1_parse none z) (σ : St) (x3 : Int32) (hf : BX1_parse_40 σ x3 = some z) : At (YC E) X 4 40 [(0, .ref (E.2.2.2.2 5)), (3, .int x3)] [] σ := by
  have hE := O.2.2.2.2.2.2.2.2.2.1
  unfold BX1_parse_40 at hf
  refine a_aload_n (pc' := 41) O dX1_parse_40 rfl 0 rfl rfl ?_
  refine a_iload_n (pc' := 42) O dX1_parse_41 rfl 1 rfl rfl ?_
  refine pfC_5_2 (pc' := 45) O hf dX1_parse_42 rfl (fun σ18 hf => ?_)
  exact a_vret O hf dX1_parse_45
def BX1_parse_17 (k17 : St → Int32 → Int32 → Option St) (σ : St) (x2 : Int32) (x3 : Int32) : Option St :=
  if x2 ≤ x3 then BX1_parse_52 σ x2 else (gNz 5 (gNz 5 ((fX7_at_1 x3 σ).bind (fun z13 => (fX1_accept (x3 / 5) (x3 - x3 / 5 * 5) z13 σ).bind (fun z15 => if z15.1 = 0 then BX1_parse_40 z15.2 x3 else (bI (x3 + 1) (fun v17 => k17 z15.2 x2 v17)))))))
set_option maxRecDepth 100000 in
theorem okBX1_parse_17 {E : ET} {X : XT} {z : St} (O : Ok (YC E) X cX1_parse 4 RX1 none rmX1_parse none z) (k17 : St → Int32 → Int32 → Option St) (hk17 : ∀ (σ : St) (x2 : Int32) (x3 : Int32), k17 σ x2 x3 = some z → At (YC E) X 4 17 [(0, .ref (E.2.2.2.2 5)), (1, .ref (E.2.2.2.2 1)), (2, .int x2), (3, .int x3)] [] σ) (σ : St) (x2 : Int32) (x3 : Int32) (hf : BX1_parse_17 k17 σ x2 x3 = some z) : At (YC E) X 4 17 [(0, .ref (E.2.2.2.2 5)), (1, .ref (E.2.2.2.2 1)), (2, .int x2), (3, .int x3)] [] σ := by
  have hE := O.2.2.2.2.2.2.2.2.2.1
  unfold BX1_parse_17 at hf
  refine a_iload_n (pc' := 18) O dX1_parse_17 rfl 3 rfl rfl ?_
  refine a_iload_n (pc' := 19) O dX1_parse_18 rfl 2 rfl rfl ?_
  refine a_icmp_ge (pc' := 22) (tgt := 52) O dX1_parse_19 (by decide) rfl hf (fun hf => ?_) (fun hf => ?_)
  · exact a_sub [0, 2] rfl (okBX1_parse_52 O σ x2 hf)
  · refine a_aload_n (pc' := 23) O dX1_parse_22 rfl 0 rfl rfl ?_
    refine a_iload_n (pc' := 24) O dX1_parse_23 rfl 3 rfl rfl ?_
    refine a_iconst (pc' := 25) (v := 5) O dX1_parse_24 (by decide) rfl ?_
    obtain ⟨h11, hf⟩ := gNz_some hf
    refine a_idiv (pc' := 26) O dX1_parse_25 h11 rfl ?_
    refine a_iload_n (pc' := 27) O dX1_parse_26 rfl 3 rfl rfl ?_
    refine a_iconst (pc' := 28) (v := 5) O dX1_parse_27 (by decide) rfl ?_
    obtain ⟨h12, hf⟩ := gNz_some hf
    refine a_irem (pc' := 29) O dX1_parse_28 h12 rfl ?_
    refine a_aload_n (pc' := 30) O dX1_parse_29 rfl 1 rfl rfl ?_
    refine a_iload_n (pc' := 31) O dX1_parse_30 rfl 3 rfl rfl ?_
    obtain ⟨z13, h14, hf⟩ := bd_some hf
    refine a_callVI (pc' := 34) (n := 1) (As := [.int x3]) (st := [.int (x3 - x3 / 5 * 5), .int (x3 / 5), .ref (E.2.2.2.2 5)]) (q0 := 1) O (ctX7_at_1 hE x3 σ z13 h14) wm_172 wm_173 wm_174 wm_14 wm_175 (by decide +kernel) (by decide) (gC_1 E _) hc_7 rfl rfl rfl (Nat.le_of_ble_eq_true rfl) dX1_parse_31 rfl ?_
    obtain ⟨z15, h16, hf⟩ := bd_some hf
    refine a_callVI (pc' := 37) (n := 3) (As := [.int (x3 / 5), .int (x3 - x3 / 5 * 5), .int z13]) (st := []) (q0 := 5) O (ctX1_accept hE (x3 / 5) (x3 - x3 / 5 * 5) z13 σ z15 h16) wm_176 wm_177 wm_178 wm_19 wm_179 (by decide +kernel) (by decide) (gC_5 E _) hc_1 rfl rfl rfl (Nat.le_of_ble_eq_true rfl) dX1_parse_34 rfl ?_
    refine a_if_ne (pc' := 40) (tgt := 46) O dX1_parse_37 (by decide) rfl hf (fun hf => ?_) (fun hf => ?_)
    · refine a_iincB (pc' := 49) (lv' := fun v17 => [(3, .int v17), (0, .ref (E.2.2.2.2 5)), (1, .ref (E.2.2.2.2 1)), (2, .int x2)]) (c0 := 1) O dX1_parse_46 3 rfl (by decide) (by decide) (fun _ => rfl) rfl hf (fun v17 hf => ?_)
      refine a_goto (tgt := 17) O dX1_parse_49 (by decide) ?_
      exact a_sub [1, 2, 3, 0] rfl (hk17 z15.2 x2 v17 hf)
    · exact a_sub [0, 3] rfl (okBX1_parse_40 O z15.2 x3 hf)
def LX1_parse_17 : Nat → St → Int32 → Int32 → Option St
  | 0, _, _, _ => none
  | n + 1, σ, x2, x3 => BX1_parse_17 (LX1_parse_17 n) σ x2 x3
theorem okLX1_parse_17 {E : ET} {X : XT} {z : St} (O : Ok (YC E) X cX1_parse 4 RX1 none rmX1_parse none z) : ∀ (n : Nat) (σ : St) (x2 : Int32) (x3 : Int32), LX1_parse_17 n σ x2 x3 = some z → At (YC E) X 4 17 [(0, .ref (E.2.2.2.2 5)), (1, .ref (E.2.2.2.2 1)), (2, .int x2), (3, .int x3)] [] σ := by
  intro n
  induction n with
  | zero =>
    intro σ x2 x3 hf
    rw [LX1_parse_17] at hf
    cases hf
  | succ n ih =>
    intro σ x2 x3 hf
    rw [LX1_parse_17] at hf
    exact okBX1_parse_17 O (LX1_parse_17 n) ih σ x2 x3 hf
def fX1_parse (σ : St) : Option St :=
  (fX7_length_1 σ).bind (fun z1 => bS (sI σ 2 0) (fun σ3 => bS (sI σ3 3 (-1)) (fun σ4 => LX1_parse_17 fu σ4 z1 0)))
set_option maxRecDepth 100000 in
theorem ctX1_parse {E : ET} (hE : Dj (YC E)) (σ : St) (z : St) (hf : fX1_parse σ = some z) : Ct (YC E) yX1_parse cX1_parse 4 none rmX1_parse [.ref (E.2.2.2.2 5), .ref (E.2.2.2.2 1)] σ none z := by
  refine Ct.of hE (by decide) (Nat.le_of_ble_eq_true rfl) (fun X O => ?_)
  have O : Ok (YC E) X cX1_parse 4 RX1 none rmX1_parse none z := O
  show At (YC E) X 4 0 [(0, .ref (E.2.2.2.2 5)), (1, .ref (E.2.2.2.2 1))] [] σ
  unfold fX1_parse at hf
  refine a_aload_n (pc' := 1) O dX1_parse_0 rfl 1 rfl rfl ?_
  obtain ⟨z1, h2, hf⟩ := bd_some hf
  refine a_callVI (pc' := 4) (n := 0) (As := []) (st := []) (q0 := 1) O (ctX7_length_1 hE σ z1 h2) wm_168 wm_169 wm_170 wm_14 wm_171 (by decide +kernel) (by decide) (gC_1 E _) hc_7 rfl rfl rfl (Nat.le_of_ble_eq_true rfl) dX1_parse_1 rfl ?_
  refine a_istore_n (pc' := 5) (lv' := [(2, .int z1), (0, .ref (E.2.2.2.2 5)), (1, .ref (E.2.2.2.2 1))]) O dX1_parse_4 rfl (by decide) rfl rfl ?_
  refine a_aload_n (pc' := 6) O dX1_parse_5 rfl 1 rfl rfl ?_
  refine a_iconst (pc' := 7) (v := 0) O dX1_parse_6 (by decide) rfl ?_
  refine pfC_5_1 (pc' := 10) O hf dX1_parse_7 rfl (fun σ3 hf => ?_)
  refine a_aload_n (pc' := 11) O dX1_parse_10 rfl 1 rfl rfl ?_
  refine a_iconst (pc' := 12) (v := (-1)) O dX1_parse_11 (by decide) rfl ?_
  refine pfC_5_2 (pc' := 15) O hf dX1_parse_12 rfl (fun σ4 hf => ?_)
  refine a_iconst (pc' := 16) (v := 0) O dX1_parse_15 (by decide) rfl ?_
  refine a_istore_n (pc' := 17) (lv' := [(3, .int 0), (2, .int z1), (0, .ref (E.2.2.2.2 5)), (1, .ref (E.2.2.2.2 1))]) O dX1_parse_16 rfl (by decide) rfl rfl ?_
  exact a_sub [2, 3, 1, 0] rfl (okLX1_parse_17 O fu σ4 z1 0 hf)
def rmX1_allIn : Room := { frames := 2, cells := 0, slots := 0, locals := 46 }
def fX1_allIn (σ : St) : Option Int32 :=
  (fX1_sum 0 (σ.1 2) σ).bind (fun z1 => some z1)
set_option maxRecDepth 100000 in
theorem ctX1_allIn {E : ET} (hE : Dj (YC E)) (σ : St) (z : Int32) (hf : fX1_allIn σ = some z) : Ct (YC E) yX1_allIn cX1_allIn 1 (some .int) rmX1_allIn [.ref (E.2.2.2.2 5)] σ (some (.int z)) σ := by
  refine Ct.of hE (by decide) (Nat.le_of_ble_eq_true rfl) (fun X O => ?_)
  have O : Ok (YC E) X cX1_allIn 1 RX1 (some .int) rmX1_allIn (some (.int z)) σ := O
  show At (YC E) X 1 0 [(0, .ref (E.2.2.2.2 5))] [] σ
  unfold fX1_allIn at hf
  refine a_aload_n (pc' := 1) O dX1_allIn_0 rfl 0 rfl rfl ?_
  refine a_iconst (pc' := 2) (v := 0) O dX1_allIn_1 (by decide) rfl ?_
  refine a_aload_n (pc' := 3) O dX1_allIn_2 rfl 0 rfl rfl ?_
  refine gfC_5_1 (pc' := 6) O dX1_allIn_3 rfl ?_
  obtain ⟨z1, h2, hf⟩ := bd_some hf
  refine a_callVI (pc' := 9) (n := 2) (As := [.int 0, .int (σ.1 2)]) (st := []) (q0 := 5) O (ctX1_sum hE 0 (σ.1 2) σ z1 h2) wm_500 wm_501 wm_502 wm_19 wm_503 (by decide +kernel) (by decide) (gC_5 E _) hc_1 rfl rfl rfl (Nat.le_of_ble_eq_true rfl) dX1_allIn_6 rfl ?_
  exact a_iretP O hf dX1_allIn_9
def rmX1_inMinutes : Room := { frames := 1, cells := 0, slots := 0, locals := 22 }
def fX1_inMinutes (a0 : Int32) (σ : St) : Option Int32 :=
  (fX1_figure a0 0 σ).bind (fun z1 => some z1)
set_option maxRecDepth 100000 in
theorem ctX1_inMinutes {E : ET} (hE : Dj (YC E)) (a0 : Int32) (σ : St) (z : Int32) (hf : fX1_inMinutes a0 σ = some z) : Ct (YC E) yX1_inMinutes cX1_inMinutes 2 (some .int) rmX1_inMinutes [.ref (E.2.2.2.2 5), .int a0] σ (some (.int z)) σ := by
  refine Ct.of hE (by decide) (Nat.le_of_ble_eq_true rfl) (fun X O => ?_)
  have O : Ok (YC E) X cX1_inMinutes 2 RX1 (some .int) rmX1_inMinutes (some (.int z)) σ := O
  show At (YC E) X 2 0 [(0, .ref (E.2.2.2.2 5)), (1, .int a0)] [] σ
  unfold fX1_inMinutes at hf
  refine a_aload_n (pc' := 1) O dX1_inMinutes_0 rfl 0 rfl rfl ?_
  refine a_iload_n (pc' := 2) O dX1_inMinutes_1 rfl 1 rfl rfl ?_
  refine a_iconst (pc' := 3) (v := 0) O dX1_inMinutes_2 (by decide) rfl ?_
  obtain ⟨z1, h2, hf⟩ := bd_some hf
  refine a_callVI (pc' := 6) (n := 2) (As := [.int a0, .int 0]) (st := []) (q0 := 5) O (ctX1_figure hE a0 0 σ z1 h2) wm_398 wm_278 wm_279 wm_19 wm_280 (by decide +kernel) (by decide) (gC_5 E _) hc_1 rfl rfl rfl (Nat.le_of_ble_eq_true rfl) dX1_inMinutes_3 rfl ?_
  exact a_iretP O hf dX1_inMinutes_6
def rmX1_outMinutes : Room := { frames := 1, cells := 0, slots := 0, locals := 22 }
def fX1_outMinutes (a0 : Int32) (a1 : Int32) (σ : St) : Option Int32 :=
  if 1 < a1 then (fX1_figure a0 2 σ).bind (fun z1 => some ((a1 - 1) * z1)) else ((fX1_figure a0 1 σ).bind (fun z3 => some z3))
set_option maxRecDepth 100000 in
theorem ctX1_outMinutes {E : ET} (hE : Dj (YC E)) (a0 : Int32) (a1 : Int32) (σ : St) (z : Int32) (hf : fX1_outMinutes a0 a1 σ = some z) : Ct (YC E) yX1_outMinutes cX1_outMinutes 3 (some .int) rmX1_outMinutes [.ref (E.2.2.2.2 5), .int a0, .int a1] σ (some (.int z)) σ := by
  refine Ct.of hE (by decide) (Nat.le_of_ble_eq_true rfl) (fun X O => ?_)
  have O : Ok (YC E) X cX1_outMinutes 3 RX1 (some .int) rmX1_outMinutes (some (.int z)) σ := O
  show At (YC E) X 3 0 [(0, .ref (E.2.2.2.2 5)), (1, .int a0), (2, .int a1)] [] σ
  unfold fX1_outMinutes at hf
  refine a_iload_n (pc' := 1) O dX1_outMinutes_0 rfl 2 rfl rfl ?_
  refine a_iconst (pc' := 2) (v := 1) O dX1_outMinutes_1 (by decide) rfl ?_
  refine a_icmp_gt (pc' := 5) (tgt := 14) O dX1_outMinutes_2 (by decide) rfl hf (fun hf => ?_) (fun hf => ?_)
  · refine a_iload_n (pc' := 15) O dX1_outMinutes_14 rfl 2 rfl rfl ?_
    refine a_iconst (pc' := 16) (v := 1) O dX1_outMinutes_15 (by decide) rfl ?_
    refine a_isub (pc' := 17) O dX1_outMinutes_16 rfl ?_
    refine a_aload_n (pc' := 18) O dX1_outMinutes_17 rfl 0 rfl rfl ?_
    refine a_iload_n (pc' := 19) O dX1_outMinutes_18 rfl 1 rfl rfl ?_
    refine a_iconst (pc' := 20) (v := 2) O dX1_outMinutes_19 (by decide) rfl ?_
    obtain ⟨z1, h2, hf⟩ := bd_some hf
    refine a_callVI (pc' := 23) (n := 2) (As := [.int a0, .int 2]) (st := [.int (a1 - 1)]) (q0 := 5) O (ctX1_figure hE a0 2 σ z1 h2) wm_398 wm_278 wm_279 wm_19 wm_280 (by decide +kernel) (by decide) (gC_5 E _) hc_1 rfl rfl rfl (Nat.le_of_ble_eq_true rfl) dX1_outMinutes_20 rfl ?_
    refine a_imul (pc' := 24) O dX1_outMinutes_23 rfl ?_
    exact a_iretP O hf dX1_outMinutes_24
  · refine a_aload_n (pc' := 6) O dX1_outMinutes_5 rfl 0 rfl rfl ?_
    refine a_iload_n (pc' := 7) O dX1_outMinutes_6 rfl 1 rfl rfl ?_
    refine a_iconst (pc' := 8) (v := 1) O dX1_outMinutes_7 (by decide) rfl ?_
    obtain ⟨z3, h4, hf⟩ := bd_some hf
    refine a_callVI (pc' := 11) (n := 2) (As := [.int a0, .int 1]) (st := []) (q0 := 5) O (ctX1_figure hE a0 1 σ z3 h4) wm_398 wm_278 wm_279 wm_19 wm_280 (by decide +kernel) (by decide) (gC_5 E _) hc_1 rfl rfl rfl (Nat.le_of_ble_eq_true rfl) dX1_outMinutes_8 rfl ?_
    refine a_goto (tgt := 24) O dX1_outMinutes_11 (by decide) ?_
    exact a_iretP O hf dX1_outMinutes_24
def rmX1_thereAndBack : Room := { frames := 2, cells := 0, slots := 0, locals := 44 }
def fX1_thereAndBack (a0 : Int32) (a1 : Int32) (σ : St) : Option Int32 :=
  if a1 = 0 then (fX1_inMinutes a0 σ).bind (fun z5 => some (z5 + 0)) else ((fX1_outMinutes a0 a1 σ).bind (fun z1 => (fX1_inMinutes a0 σ).bind (fun z3 => some (z3 + z1))))
set_option maxRecDepth 100000 in
theorem ctX1_thereAndBack {E : ET} (hE : Dj (YC E)) (a0 : Int32) (a1 : Int32) (σ : St) (z : Int32) (hf : fX1_thereAndBack a0 a1 σ = some z) : Ct (YC E) yX1_thereAndBack cX1_thereAndBack 4 (some .int) rmX1_thereAndBack [.ref (E.2.2.2.2 5), .int a0, .int a1] σ (some (.int z)) σ := by
  refine Ct.of hE (by decide) (Nat.le_of_ble_eq_true rfl) (fun X O => ?_)
  have O : Ok (YC E) X cX1_thereAndBack 4 RX1 (some .int) rmX1_thereAndBack (some (.int z)) σ := O
  show At (YC E) X 4 0 [(0, .ref (E.2.2.2.2 5)), (1, .int a0), (2, .int a1)] [] σ
  unfold fX1_thereAndBack at hf
  refine a_iload_n (pc' := 1) O dX1_thereAndBack_0 rfl 2 rfl rfl ?_
  refine a_if_ne (pc' := 4) (tgt := 8) O dX1_thereAndBack_1 (by decide) rfl hf (fun hf => ?_) (fun hf => ?_)
  · refine a_aload_n (pc' := 9) O dX1_thereAndBack_8 rfl 0 rfl rfl ?_
    refine a_iload_n (pc' := 10) O dX1_thereAndBack_9 rfl 1 rfl rfl ?_
    refine a_iload_n (pc' := 11) O dX1_thereAndBack_10 rfl 2 rfl rfl ?_
    obtain ⟨z1, h2, hf⟩ := bd_some hf
    refine a_callVI (pc' := 14) (n := 2) (As := [.int a0, .int a1]) (st := []) (q0 := 5) O (ctX1_outMinutes hE a0 a1 σ z1 h2) wm_394 wm_395 wm_396 wm_19 wm_397 (by decide +kernel) (by decide) (gC_5 E _) hc_1 rfl rfl rfl (Nat.le_of_ble_eq_true rfl) dX1_thereAndBack_11 rfl ?_
    refine a_istore_n (pc' := 15) (lv' := [(3, .int z1), (0, .ref (E.2.2.2.2 5)), (1, .int a0), (2, .int a1)]) O dX1_thereAndBack_14 rfl (by decide) rfl rfl ?_
    refine a_aload_n (pc' := 16) O dX1_thereAndBack_15 rfl 1 rfl rfl ?_
    refine a_iload_n (pc' := 17) O dX1_thereAndBack_16 rfl 2 rfl rfl ?_
    obtain ⟨z3, h4, hf⟩ := bd_some hf
    refine a_callVI (pc' := 20) (n := 1) (As := [.int a0]) (st := []) (q0 := 5) O (ctX1_inMinutes hE a0 σ z3 h4) wm_399 wm_400 wm_401 wm_19 wm_402 (by decide +kernel) (by decide) (gC_5 E _) hc_1 rfl rfl rfl (Nat.le_of_ble_eq_true rfl) dX1_thereAndBack_17 rfl ?_
    refine a_iload_n (pc' := 21) O dX1_thereAndBack_20 rfl 0 rfl rfl ?_
    refine a_iadd (pc' := 22) O dX1_thereAndBack_21 rfl ?_
    exact a_iretP O hf dX1_thereAndBack_22
  · refine a_iconst (pc' := 5) (v := 0) O dX1_thereAndBack_4 (by decide) rfl ?_
    refine a_goto (tgt := 14) O dX1_thereAndBack_5 (by decide) ?_
    refine a_istore_n (pc' := 15) (lv' := [(3, .int 0), (0, .ref (E.2.2.2.2 5)), (1, .int a0), (2, .int a1)]) O dX1_thereAndBack_14 rfl (by decide) rfl rfl ?_
    refine a_aload_n (pc' := 16) O dX1_thereAndBack_15 rfl 1 rfl rfl ?_
    refine a_iload_n (pc' := 17) O dX1_thereAndBack_16 rfl 2 rfl rfl ?_
    obtain ⟨z5, h6, hf⟩ := bd_some hf
    refine a_callVI (pc' := 20) (n := 1) (As := [.int a0]) (st := []) (q0 := 5) O (ctX1_inMinutes hE a0 σ z5 h6) wm_399 wm_400 wm_401 wm_19 wm_402 (by decide +kernel) (by decide) (gC_5 E _) hc_1 rfl rfl rfl (Nat.le_of_ble_eq_true rfl) dX1_thereAndBack_17 rfl ?_
    refine a_iload_n (pc' := 21) O dX1_thereAndBack_20 rfl 0 rfl rfl ?_
    refine a_iadd (pc' := 22) O dX1_thereAndBack_21 rfl ?_
    exact a_iretP O hf dX1_thereAndBack_22
def rmX2_commonDivisor : Room := { frames := 0, cells := 0, slots := 0, locals := 0 }
def BX2_commonDivisor_9 (k9 : Int64 → Int64 → Int32 → Option Int64) (x4 : Int64) (x6 : Int64) (x8 : Int32) : Option Int64 :=
  if 100 ≤ x8 then some x4 else (if x6 = 0 then some x4 else (gNl x6 (bL (x4 - x4 / x6 * x6) (fun v2 => bI (x8 + 1) (fun v3 => k9 x6 v2 v3)))))
set_option maxRecDepth 100000 in
theorem okBX2_commonDivisor_9 {E : ET} {X : XT} {z : Int64} {σ : St} (O : Ok (YC E) X cX2_commonDivisor 11 RX2 (some .long) rmX2_commonDivisor (some (.long z)) σ) (k9 : Int64 → Int64 → Int32 → Option Int64) (hk9 : ∀ (x4 : Int64) (x6 : Int64) (x8 : Int32), k9 x4 x6 x8 = some z → At (YC E) X 11 9 [(4, .long x4), (6, .long x6), (8, .int x8)] [] σ) (x4 : Int64) (x6 : Int64) (x8 : Int32) (hf : BX2_commonDivisor_9 k9 x4 x6 x8 = some z) : At (YC E) X 11 9 [(4, .long x4), (6, .long x6), (8, .int x8)] [] σ := by
  have hE := O.2.2.2.2.2.2.2.2.2.1
  unfold BX2_commonDivisor_9 at hf
  refine a_iload (pc' := 11) O dX2_commonDivisor_9 2 rfl rfl ?_
  refine a_bipush (pc' := 13) (v := 100) O dX2_commonDivisor_11 (by decide) rfl ?_
  refine a_icmp_ge (pc' := 16) (tgt := 44) O dX2_commonDivisor_13 (by decide) rfl hf (fun hf => ?_) (fun hf => ?_)
  · refine a_lload (pc' := 46) O dX2_commonDivisor_44 0 rfl rfl ?_
    exact a_lretP O hf dX2_commonDivisor_46
  · refine a_lload (pc' := 18) O dX2_commonDivisor_16 1 rfl rfl ?_
    refine a_lconst (pc' := 19) (v := 0) O dX2_commonDivisor_18 (by decide) rfl ?_
    refine a_lcmp_eq (pc' := 23) (pc1 := 20) (tgt := 44) O dX2_commonDivisor_19 rfl dX2_commonDivisor_20 (by decide) rfl hf (fun hf => ?_) (fun hf => ?_)
    · refine a_lload (pc' := 46) O dX2_commonDivisor_44 0 rfl rfl ?_
      exact a_lretP O hf dX2_commonDivisor_46
    · refine a_lload (pc' := 25) O dX2_commonDivisor_23 0 rfl rfl ?_
      refine a_lload (pc' := 27) O dX2_commonDivisor_25 1 rfl rfl ?_
      obtain ⟨h1, hf⟩ := gNl_some hf
      refine a_lrem (pc' := 28) O dX2_commonDivisor_27 h1 rfl ?_
      refine a_topl hf (fun v2 hf => ?_)
      refine a_lstore (pc' := 30) (lv' := [(9, .long v2), (4, .long x4), (6, .long x6), (8, .int x8)]) O dX2_commonDivisor_28 (by decide) rfl rfl ?_
      refine a_lload (pc' := 32) O dX2_commonDivisor_30 2 rfl rfl ?_
      refine a_lstore (pc' := 34) (lv' := [(4, .long x6), (9, .long v2), (6, .long x6), (8, .int x8)]) O dX2_commonDivisor_32 (by decide) rfl rfl ?_
      refine a_lload (pc' := 36) O dX2_commonDivisor_34 1 rfl rfl ?_
      refine a_lstore (pc' := 38) (lv' := [(6, .long v2), (4, .long x6), (9, .long v2), (8, .int x8)]) O dX2_commonDivisor_36 (by decide) rfl rfl ?_
      refine a_iincB (pc' := 41) (lv' := fun v3 => [(8, .int v3), (6, .long v2), (4, .long x6), (9, .long v2)]) (c0 := 1) O dX2_commonDivisor_38 3 rfl (by decide) (by decide) (fun _ => rfl) rfl hf (fun v3 hf => ?_)
      refine a_goto (tgt := 9) O dX2_commonDivisor_41 (by decide) ?_
      exact a_sub [2, 1, 0] rfl (hk9 x6 v2 v3 hf)
def LX2_commonDivisor_9 : Nat → Int64 → Int64 → Int32 → Option Int64
  | 0, _, _, _ => none
  | n + 1, x4, x6, x8 => BX2_commonDivisor_9 (LX2_commonDivisor_9 n) x4 x6 x8
theorem okLX2_commonDivisor_9 {E : ET} {X : XT} {z : Int64} {σ : St} (O : Ok (YC E) X cX2_commonDivisor 11 RX2 (some .long) rmX2_commonDivisor (some (.long z)) σ) : ∀ (n : Nat) (x4 : Int64) (x6 : Int64) (x8 : Int32), LX2_commonDivisor_9 n x4 x6 x8 = some z → At (YC E) X 11 9 [(4, .long x4), (6, .long x6), (8, .int x8)] [] σ := by
  intro n
  induction n with
  | zero =>
    intro x4 x6 x8 hf
    rw [LX2_commonDivisor_9] at hf
    cases hf
  | succ n ih =>
    intro x4 x6 x8 hf
    rw [LX2_commonDivisor_9] at hf
    exact okBX2_commonDivisor_9 O (LX2_commonDivisor_9 n) ih x4 x6 x8 hf
def fX2_commonDivisor (a0 : Int64) (a1 : Int64) : Option Int64 :=
  LX2_commonDivisor_9 fu a0 a1 0
set_option maxRecDepth 100000 in
theorem ctX2_commonDivisor {E : ET} (hE : Dj (YC E)) (a0 : Int64) (a1 : Int64) (σ : St) (z : Int64) (hf : fX2_commonDivisor a0 a1 = some z) : Ct (YC E) yX2_commonDivisor cX2_commonDivisor 11 (some .long) rmX2_commonDivisor [.long a0, .long a1] σ (some (.long z)) σ := by
  refine Ct.of hE (by decide) (Nat.le_of_ble_eq_true rfl) (fun X O => ?_)
  have O : Ok (YC E) X cX2_commonDivisor 11 RX2 (some .long) rmX2_commonDivisor (some (.long z)) σ := O
  show At (YC E) X 11 0 [(0, .long a0), (2, .long a1)] [] σ
  unfold fX2_commonDivisor at hf
  refine a_lload_n (pc' := 1) O dX2_commonDivisor_0 rfl 0 rfl rfl ?_
  refine a_lstore (pc' := 3) (lv' := [(4, .long a0), (0, .long a0), (2, .long a1)]) O dX2_commonDivisor_1 (by decide) rfl rfl ?_
  refine a_lload_n (pc' := 4) O dX2_commonDivisor_3 rfl 2 rfl rfl ?_
  refine a_lstore (pc' := 6) (lv' := [(6, .long a1), (4, .long a0), (0, .long a0), (2, .long a1)]) O dX2_commonDivisor_4 (by decide) rfl rfl ?_
  refine a_iconst (pc' := 7) (v := 0) O dX2_commonDivisor_6 (by decide) rfl ?_
  refine a_istore (pc' := 9) (lv' := [(8, .int 0), (6, .long a1), (4, .long a0), (0, .long a0), (2, .long a1)]) O dX2_commonDivisor_7 (by decide) rfl rfl ?_
  exact a_sub [2, 1, 0] rfl (okLX2_commonDivisor_9 O fu a0 a1 0 hf)
def rmX2_set : Room := { frames := 1, cells := 0, slots := 0, locals := 30 }
def fX2_set (a0 : Int64) (a1 : Int64) (σ : St) : Option St :=
  (fX2_commonDivisor a0 a1).bind (fun z1 => if 0 < z1 then gNl z1 (bS (sL σ 0 (a0 / z1)) (fun σ4 => gNl z1 (bS (sL σ4 1 (a1 / z1)) (fun σ6 => some σ6)))) else (bS (sL σ 0 0) (fun σ7 => bS (sL σ7 1 1) (fun σ8 => some σ8))))
set_option maxRecDepth 100000 in
theorem ctX2_set {E : ET} (hE : Dj (YC E)) (a0 : Int64) (a1 : Int64) (σ : St) (z : St) (hf : fX2_set a0 a1 σ = some z) : Ct (YC E) yX2_set cX2_set 7 none rmX2_set [.ref (E.2.2.2.2 27), .long a0, .long a1] σ none z := by
  refine Ct.of hE (by decide) (Nat.le_of_ble_eq_true rfl) (fun X O => ?_)
  have O : Ok (YC E) X cX2_set 7 RX2 none rmX2_set none z := O
  show At (YC E) X 7 0 [(0, .ref (E.2.2.2.2 27)), (1, .long a0), (3, .long a1)] [] σ
  unfold fX2_set at hf
  refine a_lload_n (pc' := 1) O dX2_set_0 rfl 1 rfl rfl ?_
  refine a_lload_n (pc' := 2) O dX2_set_1 rfl 2 rfl rfl ?_
  obtain ⟨z1, h2, hf⟩ := bd_some hf
  refine a_callSL (pc' := 5) (n := 2) (As := [.long a0, .long a1]) (st := []) O (ctX2_commonDivisor hE a0 a1 σ z1 h2) wm_407 wm_408 wm_51 wm_409 (by decide +kernel) (by decide) rfl rfl (Nat.le_of_ble_eq_true rfl) dX2_set_2 rfl ?_
  refine a_lstore (pc' := 7) (lv' := [(5, .long z1), (0, .ref (E.2.2.2.2 27)), (1, .long a0), (3, .long a1)]) O dX2_set_5 (by decide) rfl rfl ?_
  refine a_lload (pc' := 9) O dX2_set_7 0 rfl rfl ?_
  refine a_lconst (pc' := 10) (v := 0) O dX2_set_9 (by decide) rfl ?_
  refine a_lcmp_gt (pc' := 14) (pc1 := 11) (tgt := 25) O dX2_set_10 rfl dX2_set_11 (by decide) rfl hf (fun hf => ?_) (fun hf => ?_)
  · refine a_aload_n (pc' := 26) O dX2_set_25 rfl 1 rfl rfl ?_
    refine a_lload_n (pc' := 27) O dX2_set_26 rfl 2 rfl rfl ?_
    refine a_lload (pc' := 29) O dX2_set_27 0 rfl rfl ?_
    obtain ⟨h3, hf⟩ := gNl_some hf
    refine a_ldiv (pc' := 30) O dX2_set_29 h3 rfl ?_
    refine pfC_27_0 (pc' := 33) O hf dX2_set_30 rfl (fun σ4 hf => ?_)
    refine a_aload_n (pc' := 34) O dX2_set_33 rfl 1 rfl rfl ?_
    refine a_lload_n (pc' := 35) O dX2_set_34 rfl 3 rfl rfl ?_
    refine a_lload (pc' := 37) O dX2_set_35 0 rfl rfl ?_
    obtain ⟨h5, hf⟩ := gNl_some hf
    refine a_ldiv (pc' := 38) O dX2_set_37 h5 rfl ?_
    refine pfC_27_1 (pc' := 41) O hf dX2_set_38 rfl (fun σ6 hf => ?_)
    exact a_vret O hf dX2_set_41
  · refine a_aload_n (pc' := 15) O dX2_set_14 rfl 1 rfl rfl ?_
    refine a_lconst (pc' := 16) (v := 0) O dX2_set_15 (by decide) rfl ?_
    refine pfC_27_0 (pc' := 19) O hf dX2_set_16 rfl (fun σ7 hf => ?_)
    refine a_aload_n (pc' := 20) O dX2_set_19 rfl 1 rfl rfl ?_
    refine a_lconst (pc' := 21) (v := 1) O dX2_set_20 (by decide) rfl ?_
    refine pfC_27_1 (pc' := 24) O hf dX2_set_21 rfl (fun σ8 hf => ?_)
    exact a_vret O hf dX2_set_24
def rmX1_reach : Room := { frames := 3, cells := 0, slots := 0, locals := 67 }
def BX1_reach_67 (σ : St) : Option St :=
  (fX2_set ((σ.1 2).toInt64) 1 σ).bind (fun z2 => some z2)
set_option maxRecDepth 100000 in
theorem okBX1_reach_67 {E : ET} {X : XT} {z : St} (O : Ok (YC E) X cX1_reach 10 RX1 none rmX1_reach none z) (σ : St) (hf : BX1_reach_67 σ = some z) : At (YC E) X 10 67 [(0, .ref (E.2.2.2.2 5)), (1, .ref (E.2.2.2.2 27))] [] σ := by
  have hE := O.2.2.2.2.2.2.2.2.2.1
  unfold BX1_reach_67 at hf
  refine a_aload_n (pc' := 68) O dX1_reach_67 rfl 1 rfl rfl ?_
  refine a_aload_n (pc' := 69) O dX1_reach_68 rfl 0 rfl rfl ?_
  refine gfC_5_1 (pc' := 72) O dX1_reach_69 rfl ?_
  refine a_i2l (pc' := 73) O dX1_reach_72 rfl rfl ?_
  refine a_lconst (pc' := 74) (v := 1) O dX1_reach_73 (by decide) rfl ?_
  obtain ⟨z2, h3, hf⟩ := bd_some hf
  refine a_callVN (pc' := 77) (n := 2) (As := [.long ((σ.1 2).toInt64), .long 1]) (st := []) (q0 := 27) O (ctX2_set hE ((σ.1 2).toInt64) 1 σ z2 h3) wm_403 wm_404 wm_405 wm_51 wm_406 (by decide +kernel) (by decide) (gC_27 E _) hc_2 rfl rfl rfl (Nat.le_of_ble_eq_true rfl) dX1_reach_74 rfl ?_
  exact a_vret O hf dX1_reach_77
def BX1_reach_38 (σ : St) (x5 : Int64) (x7 : Int32) (x8 : Int64) : Option St :=
  (fX2_set (((x7.toInt64) * x8) + x5) x8 σ).bind (fun z9 => some z9)
set_option maxRecDepth 100000 in
theorem okBX1_reach_38 {E : ET} {X : XT} {z : St} (O : Ok (YC E) X cX1_reach 10 RX1 none rmX1_reach none z) (σ : St) (x5 : Int64) (x7 : Int32) (x8 : Int64) (hf : BX1_reach_38 σ x5 x7 x8 = some z) : At (YC E) X 10 38 [(1, .ref (E.2.2.2.2 27)), (5, .long x5), (7, .int x7), (8, .long x8)] [] σ := by
  have hE := O.2.2.2.2.2.2.2.2.2.1
  unfold BX1_reach_38 at hf
  refine a_aload_n (pc' := 39) O dX1_reach_38 rfl 0 rfl rfl ?_
  refine a_iload (pc' := 41) O dX1_reach_39 2 rfl rfl ?_
  refine a_i2l (pc' := 42) O dX1_reach_41 rfl rfl ?_
  refine a_lload (pc' := 44) O dX1_reach_42 3 rfl rfl ?_
  refine a_lmul (pc' := 45) O dX1_reach_44 rfl ?_
  refine a_lload (pc' := 47) O dX1_reach_45 1 rfl rfl ?_
  refine a_ladd (pc' := 48) O dX1_reach_47 rfl ?_
  refine a_lload (pc' := 50) O dX1_reach_48 3 rfl rfl ?_
  obtain ⟨z9, h10, hf⟩ := bd_some hf
  refine a_callVN (pc' := 53) (n := 2) (As := [.long (((x7.toInt64) * x8) + x5), .long x8]) (st := []) (q0 := 27) O (ctX2_set hE (((x7.toInt64) * x8) + x5) x8 σ z9 h10) wm_403 wm_404 wm_405 wm_51 wm_406 (by decide +kernel) (by decide) (gC_27 E _) hc_2 rfl rfl rfl (Nat.le_of_ble_eq_true rfl) dX1_reach_50 rfl ?_
  exact a_vret O hf dX1_reach_53
def BX1_reach_7 (k7 : St → Int32 → Int32 → Int64 → Int32 → Option St) (σ : St) (x3 : Int32) (x4 : Int32) (x5 : Int64) (x7 : Int32) : Option St :=
  if (σ.1 2) ≤ x7 then BX1_reach_67 σ else ((fX1_thereAndBack x7 x4 σ).bind (fun z4 => bL ((x3.toInt64) * (z4.toInt64)) (fun v6 => if v6 ≤ x5 then bL (x5 - v6) (fun v7 => bI (x7 + 1) (fun v8 => k7 σ x3 x4 v7 v8)) else (BX1_reach_38 σ x5 x7 v6))))
set_option maxRecDepth 100000 in
theorem okBX1_reach_7 {E : ET} {X : XT} {z : St} (O : Ok (YC E) X cX1_reach 10 RX1 none rmX1_reach none z) (k7 : St → Int32 → Int32 → Int64 → Int32 → Option St) (hk7 : ∀ (σ : St) (x3 : Int32) (x4 : Int32) (x5 : Int64) (x7 : Int32), k7 σ x3 x4 x5 x7 = some z → At (YC E) X 10 7 [(0, .ref (E.2.2.2.2 5)), (1, .ref (E.2.2.2.2 27)), (3, .int x3), (4, .int x4), (5, .long x5), (7, .int x7)] [] σ) (σ : St) (x3 : Int32) (x4 : Int32) (x5 : Int64) (x7 : Int32) (hf : BX1_reach_7 k7 σ x3 x4 x5 x7 = some z) : At (YC E) X 10 7 [(0, .ref (E.2.2.2.2 5)), (1, .ref (E.2.2.2.2 27)), (3, .int x3), (4, .int x4), (5, .long x5), (7, .int x7)] [] σ := by
  have hE := O.2.2.2.2.2.2.2.2.2.1
  unfold BX1_reach_7 at hf
  refine a_iload (pc' := 9) O dX1_reach_7 5 rfl rfl ?_
  refine a_aload_n (pc' := 10) O dX1_reach_9 rfl 0 rfl rfl ?_
  refine gfC_5_1 (pc' := 13) O dX1_reach_10 rfl ?_
  refine a_icmp_ge (pc' := 16) (tgt := 67) O dX1_reach_13 (by decide) rfl hf (fun hf => ?_) (fun hf => ?_)
  · exact a_sub [0, 1] rfl (okBX1_reach_67 O σ hf)
  · refine a_iload_n (pc' := 17) O dX1_reach_16 rfl 2 rfl rfl ?_
    refine a_i2l (pc' := 18) O dX1_reach_17 rfl rfl ?_
    refine a_aload_n (pc' := 19) O dX1_reach_18 rfl 0 rfl rfl ?_
    refine a_iload (pc' := 21) O dX1_reach_19 5 rfl rfl ?_
    refine a_iload (pc' := 23) O dX1_reach_21 3 rfl rfl ?_
    obtain ⟨z4, h5, hf⟩ := bd_some hf
    refine a_callVI (pc' := 26) (n := 2) (As := [.int x7, .int x4]) (st := [.long (x3.toInt64)]) (q0 := 5) O (ctX1_thereAndBack hE x7 x4 σ z4 h5) wm_390 wm_391 wm_392 wm_19 wm_393 (by decide +kernel) (by decide) (gC_5 E _) hc_1 rfl rfl rfl (Nat.le_of_ble_eq_true rfl) dX1_reach_23 rfl ?_
    refine a_i2l (pc' := 27) O dX1_reach_26 rfl rfl ?_
    refine a_lmul (pc' := 28) O dX1_reach_27 rfl ?_
    refine a_topl hf (fun v6 hf => ?_)
    refine a_lstore (pc' := 30) (lv' := [(8, .long v6), (0, .ref (E.2.2.2.2 5)), (1, .ref (E.2.2.2.2 27)), (3, .int x3), (4, .int x4), (5, .long x5), (7, .int x7)]) O dX1_reach_28 (by decide) rfl rfl ?_
    refine a_lload (pc' := 32) O dX1_reach_30 0 rfl rfl ?_
    refine a_lload (pc' := 34) O dX1_reach_32 5 rfl rfl ?_
    refine a_lcmp_le (pc' := 38) (pc1 := 35) (tgt := 54) O dX1_reach_34 rfl dX1_reach_35 (by decide) rfl hf (fun hf => ?_) (fun hf => ?_)
    · refine a_lload (pc' := 56) O dX1_reach_54 5 rfl rfl ?_
      refine a_lload (pc' := 58) O dX1_reach_56 0 rfl rfl ?_
      refine a_lsub (pc' := 59) O dX1_reach_58 rfl ?_
      refine a_topl hf (fun v7 hf => ?_)
      refine a_lstore (pc' := 61) (lv' := [(5, .long v7), (8, .long v6), (0, .ref (E.2.2.2.2 5)), (1, .ref (E.2.2.2.2 27)), (3, .int x3), (4, .int x4), (7, .int x7)]) O dX1_reach_59 (by decide) rfl rfl ?_
      refine a_iincB (pc' := 64) (lv' := fun v8 => [(7, .int v8), (5, .long v7), (8, .long v6), (0, .ref (E.2.2.2.2 5)), (1, .ref (E.2.2.2.2 27)), (3, .int x3), (4, .int x4)]) (c0 := 1) O dX1_reach_61 6 rfl (by decide) (by decide) (fun _ => rfl) rfl hf (fun v8 hf => ?_)
      refine a_goto (tgt := 7) O dX1_reach_64 (by decide) ?_
      exact a_sub [3, 4, 5, 6, 1, 0] rfl (hk7 σ x3 x4 v7 v8 hf)
    · exact a_sub [2, 5, 6, 0] rfl (okBX1_reach_38 O σ x5 x7 v6 hf)
def LX1_reach_7 : Nat → St → Int32 → Int32 → Int64 → Int32 → Option St
  | 0, _, _, _, _, _ => none
  | n + 1, σ, x3, x4, x5, x7 => BX1_reach_7 (LX1_reach_7 n) σ x3 x4 x5 x7
theorem okLX1_reach_7 {E : ET} {X : XT} {z : St} (O : Ok (YC E) X cX1_reach 10 RX1 none rmX1_reach none z) : ∀ (n : Nat) (σ : St) (x3 : Int32) (x4 : Int32) (x5 : Int64) (x7 : Int32), LX1_reach_7 n σ x3 x4 x5 x7 = some z → At (YC E) X 10 7 [(0, .ref (E.2.2.2.2 5)), (1, .ref (E.2.2.2.2 27)), (3, .int x3), (4, .int x4), (5, .long x5), (7, .int x7)] [] σ := by
  intro n
  induction n with
  | zero =>
    intro σ x3 x4 x5 x7 hf
    rw [LX1_reach_7] at hf
    cases hf
  | succ n ih =>
    intro σ x3 x4 x5 x7 hf
    rw [LX1_reach_7] at hf
    exact okBX1_reach_7 O (LX1_reach_7 n) ih σ x3 x4 x5 x7 hf
def fX1_reach (a1 : Int32) (a2 : Int32) (a3 : Int32) (σ : St) : Option St :=
  bL (a1.toInt64) (fun v1 => LX1_reach_7 fu σ a2 a3 v1 0)
set_option maxRecDepth 100000 in
theorem ctX1_reach {E : ET} (hE : Dj (YC E)) (a1 : Int32) (a2 : Int32) (a3 : Int32) (σ : St) (z : St) (hf : fX1_reach a1 a2 a3 σ = some z) : Ct (YC E) yX1_reach cX1_reach 10 none rmX1_reach [.ref (E.2.2.2.2 5), .ref (E.2.2.2.2 27), .int a1, .int a2, .int a3] σ none z := by
  refine Ct.of hE (by decide) (Nat.le_of_ble_eq_true rfl) (fun X O => ?_)
  have O : Ok (YC E) X cX1_reach 10 RX1 none rmX1_reach none z := O
  show At (YC E) X 10 0 [(0, .ref (E.2.2.2.2 5)), (1, .ref (E.2.2.2.2 27)), (2, .int a1), (3, .int a2), (4, .int a3)] [] σ
  unfold fX1_reach at hf
  refine a_iload_n (pc' := 1) O dX1_reach_0 rfl 2 rfl rfl ?_
  refine a_i2l (pc' := 2) O dX1_reach_1 rfl rfl ?_
  refine a_topl hf (fun v1 hf => ?_)
  refine a_lstore (pc' := 4) (lv' := [(5, .long v1), (0, .ref (E.2.2.2.2 5)), (1, .ref (E.2.2.2.2 27)), (2, .int a1), (3, .int a2), (4, .int a3)]) O dX1_reach_2 (by decide) rfl rfl ?_
  refine a_iconst (pc' := 5) (v := 0) O dX1_reach_4 (by decide) rfl ?_
  refine a_istore (pc' := 7) (lv' := [(7, .int 0), (5, .long v1), (0, .ref (E.2.2.2.2 5)), (1, .ref (E.2.2.2.2 27)), (2, .int a1), (3, .int a2), (4, .int a3)]) O dX1_reach_5 (by decide) rfl rfl ?_
  exact a_sub [2, 3, 5, 6, 1, 0] rfl (okLX1_reach_7 O fu σ a2 a3 v1 0 hf)
def rmX2_term : Room := { frames := 0, cells := 0, slots := 0, locals := 0 }
def fX2_term (a0 : Int32) (σ : St) : Option Int64 :=
  if a0 = 0 then some (σ.2.1 0) else (some (σ.2.1 1))
set_option maxRecDepth 100000 in
theorem ctX2_term {E : ET} (hE : Dj (YC E)) (a0 : Int32) (σ : St) (z : Int64) (hf : fX2_term a0 σ = some z) : Ct (YC E) yX2_term cX2_term 2 (some .long) rmX2_term [.ref (E.2.2.2.2 27), .int a0] σ (some (.long z)) σ := by
  refine Ct.of hE (by decide) (Nat.le_of_ble_eq_true rfl) (fun X O => ?_)
  have O : Ok (YC E) X cX2_term 2 RX2 (some .long) rmX2_term (some (.long z)) σ := O
  show At (YC E) X 2 0 [(0, .ref (E.2.2.2.2 27)), (1, .int a0)] [] σ
  unfold fX2_term at hf
  refine a_iload_n (pc' := 1) O dX2_term_0 rfl 1 rfl rfl ?_
  refine a_if_ne (pc' := 4) (tgt := 11) O dX2_term_1 (by decide) rfl hf (fun hf => ?_) (fun hf => ?_)
  · refine a_aload_n (pc' := 12) O dX2_term_11 rfl 0 rfl rfl ?_
    refine gfC_27_1 (pc' := 15) O dX2_term_12 rfl ?_
    exact a_lretP O hf dX2_term_15
  · refine a_aload_n (pc' := 5) O dX2_term_4 rfl 0 rfl rfl ?_
    refine gfC_27_0 (pc' := 8) O dX2_term_5 rfl ?_
    refine a_goto (tgt := 15) O dX2_term_8 (by decide) ?_
    exact a_lretP O hf dX2_term_15
def rmX1_isOutWithin : Room := { frames := 3, cells := 0, slots := 0, locals := 67 }
def BX1_isOutWithin_87 (σ : St) (x2 : Int32) (x4 : Int64) (x7 : Int64) : Option Int32 :=
  if (x4 * (x2.toInt64)) < x7 then some 0 else (some 1)
set_option maxRecDepth 100000 in
theorem okBX1_isOutWithin_87 {E : ET} {X : XT} {z : Int32} {σ : St} (O : Ok (YC E) X cX1_isOutWithin 10 RX1 (some .boolean) rmX1_isOutWithin (some (.int z)) σ) (x2 : Int32) (x4 : Int64) (x7 : Int64) (hf : BX1_isOutWithin_87 σ x2 x4 x7 = some z) : At (YC E) X 10 87 [(2, .int x2), (4, .long x4), (7, .long x7)] [] σ := by
  have hE := O.2.2.2.2.2.2.2.2.2.1
  unfold BX1_isOutWithin_87 at hf
  refine a_lload (pc' := 89) O dX1_isOutWithin_87 2 rfl rfl ?_
  refine a_lload (pc' := 91) O dX1_isOutWithin_89 1 rfl rfl ?_
  refine a_iload_n (pc' := 92) O dX1_isOutWithin_91 rfl 0 rfl rfl ?_
  refine a_i2l (pc' := 93) O dX1_isOutWithin_92 rfl rfl ?_
  refine a_lmul (pc' := 94) O dX1_isOutWithin_93 rfl ?_
  refine a_lcmp_gt (pc' := 98) (pc1 := 95) (tgt := 102) O dX1_isOutWithin_94 rfl dX1_isOutWithin_95 (by decide) rfl hf (fun hf => ?_) (fun hf => ?_)
  · refine a_iconst (pc' := 103) (v := 0) O dX1_isOutWithin_102 (by decide) rfl ?_
    exact a_zretP (Or.inl rfl) O hf dX1_isOutWithin_103
  · refine a_iconst (pc' := 99) (v := 1) O dX1_isOutWithin_98 (by decide) rfl ?_
    refine a_goto (tgt := 103) O dX1_isOutWithin_99 (by decide) ?_
    exact a_zretP (Or.inr rfl) O hf dX1_isOutWithin_103
def BX1_isOutWithin_49 (k49 : Int32 → Int32 → Int64 → Int32 → Int64 → Int32 → Option Int32) (σ : St) (x2 : Int32) (x3 : Int32) (x4 : Int64) (x6 : Int32) (x7 : Int64) (x9 : Int32) : Option Int32 :=
  if x6 ≤ x9 then BX1_isOutWithin_87 σ x2 x4 x7 else (if (σ.1 2) ≤ x9 then BX1_isOutWithin_87 σ x2 x4 x7 else ((fX1_thereAndBack x9 x3 σ).bind (fun z13 => bL (x7 + (x4 * (z13.toInt64))) (fun v15 => bI (x9 + 1) (fun v16 => k49 x2 x3 x4 x6 v15 v16)))))
set_option maxRecDepth 100000 in
theorem okBX1_isOutWithin_49 {E : ET} {X : XT} {z : Int32} {σ : St} (O : Ok (YC E) X cX1_isOutWithin 10 RX1 (some .boolean) rmX1_isOutWithin (some (.int z)) σ) (k49 : Int32 → Int32 → Int64 → Int32 → Int64 → Int32 → Option Int32) (hk49 : ∀ (x2 : Int32) (x3 : Int32) (x4 : Int64) (x6 : Int32) (x7 : Int64) (x9 : Int32), k49 x2 x3 x4 x6 x7 x9 = some z → At (YC E) X 10 49 [(0, .ref (E.2.2.2.2 5)), (2, .int x2), (3, .int x3), (4, .long x4), (6, .int x6), (7, .long x7), (9, .int x9)] [] σ) (x2 : Int32) (x3 : Int32) (x4 : Int64) (x6 : Int32) (x7 : Int64) (x9 : Int32) (hf : BX1_isOutWithin_49 k49 σ x2 x3 x4 x6 x7 x9 = some z) : At (YC E) X 10 49 [(0, .ref (E.2.2.2.2 5)), (2, .int x2), (3, .int x3), (4, .long x4), (6, .int x6), (7, .long x7), (9, .int x9)] [] σ := by
  have hE := O.2.2.2.2.2.2.2.2.2.1
  unfold BX1_isOutWithin_49 at hf
  refine a_iload (pc' := 51) O dX1_isOutWithin_49 6 rfl rfl ?_
  refine a_iload (pc' := 53) O dX1_isOutWithin_51 4 rfl rfl ?_
  refine a_icmp_ge (pc' := 56) (tgt := 87) O dX1_isOutWithin_53 (by decide) rfl hf (fun hf => ?_) (fun hf => ?_)
  · exact a_sub [1, 3, 5] rfl (okBX1_isOutWithin_87 O x2 x4 x7 hf)
  · refine a_iload (pc' := 58) O dX1_isOutWithin_56 6 rfl rfl ?_
    refine a_aload_n (pc' := 59) O dX1_isOutWithin_58 rfl 0 rfl rfl ?_
    refine gfC_5_1 (pc' := 62) O dX1_isOutWithin_59 rfl ?_
    refine a_icmp_ge (pc' := 65) (tgt := 87) O dX1_isOutWithin_62 (by decide) rfl hf (fun hf => ?_) (fun hf => ?_)
    · exact a_sub [1, 3, 5] rfl (okBX1_isOutWithin_87 O x2 x4 x7 hf)
    · refine a_lload (pc' := 67) O dX1_isOutWithin_65 5 rfl rfl ?_
      refine a_lload (pc' := 69) O dX1_isOutWithin_67 3 rfl rfl ?_
      refine a_aload_n (pc' := 70) O dX1_isOutWithin_69 rfl 0 rfl rfl ?_
      refine a_iload (pc' := 72) O dX1_isOutWithin_70 6 rfl rfl ?_
      refine a_iload_n (pc' := 73) O dX1_isOutWithin_72 rfl 2 rfl rfl ?_
      obtain ⟨z13, h14, hf⟩ := bd_some hf
      refine a_callVI (pc' := 76) (n := 2) (As := [.int x9, .int x3]) (st := [.long x4, .long x7]) (q0 := 5) O (ctX1_thereAndBack hE x9 x3 σ z13 h14) wm_390 wm_391 wm_392 wm_19 wm_393 (by decide +kernel) (by decide) (gC_5 E _) hc_1 rfl rfl rfl (Nat.le_of_ble_eq_true rfl) dX1_isOutWithin_73 rfl ?_
      refine a_i2l (pc' := 77) O dX1_isOutWithin_76 rfl rfl ?_
      refine a_lmul (pc' := 78) O dX1_isOutWithin_77 rfl ?_
      refine a_ladd (pc' := 79) O dX1_isOutWithin_78 rfl ?_
      refine a_topl hf (fun v15 hf => ?_)
      refine a_lstore (pc' := 81) (lv' := [(7, .long v15), (0, .ref (E.2.2.2.2 5)), (2, .int x2), (3, .int x3), (4, .long x4), (6, .int x6), (9, .int x9)]) O dX1_isOutWithin_79 (by decide) rfl rfl ?_
      refine a_iincB (pc' := 84) (lv' := fun v16 => [(9, .int v16), (7, .long v15), (0, .ref (E.2.2.2.2 5)), (2, .int x2), (3, .int x3), (4, .long x4), (6, .int x6)]) (c0 := 1) O dX1_isOutWithin_81 6 rfl (by decide) (by decide) (fun _ => rfl) rfl hf (fun v16 hf => ?_)
      refine a_goto (tgt := 49) O dX1_isOutWithin_84 (by decide) ?_
      exact a_sub [2, 3, 4, 5, 6, 1, 0] rfl (hk49 x2 x3 x4 x6 v15 v16 hf)
def LX1_isOutWithin_49 (σ : St) : Nat → Int32 → Int32 → Int64 → Int32 → Int64 → Int32 → Option Int32
  | 0, _, _, _, _, _, _ => none
  | n + 1, x2, x3, x4, x6, x7, x9 => BX1_isOutWithin_49 (LX1_isOutWithin_49 σ n) σ x2 x3 x4 x6 x7 x9
theorem okLX1_isOutWithin_49 {E : ET} {X : XT} {z : Int32} {σ : St} (O : Ok (YC E) X cX1_isOutWithin 10 RX1 (some .boolean) rmX1_isOutWithin (some (.int z)) σ) : ∀ (n : Nat) (x2 : Int32) (x3 : Int32) (x4 : Int64) (x6 : Int32) (x7 : Int64) (x9 : Int32), LX1_isOutWithin_49 σ n x2 x3 x4 x6 x7 x9 = some z → At (YC E) X 10 49 [(0, .ref (E.2.2.2.2 5)), (2, .int x2), (3, .int x3), (4, .long x4), (6, .int x6), (7, .long x7), (9, .int x9)] [] σ := by
  intro n
  induction n with
  | zero =>
    intro x2 x3 x4 x6 x7 x9 hf
    rw [LX1_isOutWithin_49] at hf
    cases hf
  | succ n ih =>
    intro x2 x3 x4 x6 x7 x9 hf
    rw [LX1_isOutWithin_49] at hf
    exact okBX1_isOutWithin_49 O (LX1_isOutWithin_49 σ n) ih x2 x3 x4 x6 x7 x9 hf
def fX1_isOutWithin (a1 : Int32) (a2 : Int32) (σ : St) : Option Int32 :=
  (fX2_term 1 σ).bind (fun z1 => if 0 < z1 then (fX2_term 0 σ).bind (fun z3 => gNl z1 (bI ((z3 / z1).toInt32) (fun v6 => (fX2_term 0 σ).bind (fun z7 => gNl z1 ((fX1_thereAndBack v6 a2 σ).bind (fun z10 => bL ((z7 - z7 / z1 * z1) * (z10.toInt64)) (fun v12 => LX1_isOutWithin_49 σ fu a1 a2 z1 v6 v12 0))))))) else (some 0))
set_option maxRecDepth 100000 in
theorem ctX1_isOutWithin {E : ET} (hE : Dj (YC E)) (a1 : Int32) (a2 : Int32) (σ : St) (z : Int32) (hf : fX1_isOutWithin a1 a2 σ = some z) : Ct (YC E) yX1_isOutWithin cX1_isOutWithin 10 (some .boolean) rmX1_isOutWithin [.ref (E.2.2.2.2 5), .ref (E.2.2.2.2 27), .int a1, .int a2] σ (some (.int z)) σ := by
  refine Ct.of hE (by decide) (Nat.le_of_ble_eq_true rfl) (fun X O => ?_)
  have O : Ok (YC E) X cX1_isOutWithin 10 RX1 (some .boolean) rmX1_isOutWithin (some (.int z)) σ := O
  show At (YC E) X 10 0 [(0, .ref (E.2.2.2.2 5)), (1, .ref (E.2.2.2.2 27)), (2, .int a1), (3, .int a2)] [] σ
  unfold fX1_isOutWithin at hf
  refine a_aload_n (pc' := 1) O dX1_isOutWithin_0 rfl 1 rfl rfl ?_
  refine a_iconst (pc' := 2) (v := 1) O dX1_isOutWithin_1 (by decide) rfl ?_
  obtain ⟨z1, h2, hf⟩ := bd_some hf
  refine a_callVL (pc' := 5) (n := 1) (As := [.int 1]) (st := []) (q0 := 27) O (ctX2_term hE 1 σ z1 h2) wm_482 wm_411 wm_412 wm_51 wm_413 (by decide +kernel) (by decide) (gC_27 E _) hc_2 rfl rfl rfl (Nat.le_of_ble_eq_true rfl) dX1_isOutWithin_2 rfl ?_
  refine a_lstore (pc' := 7) (lv' := [(4, .long z1), (0, .ref (E.2.2.2.2 5)), (1, .ref (E.2.2.2.2 27)), (2, .int a1), (3, .int a2)]) O dX1_isOutWithin_5 (by decide) rfl rfl ?_
  refine a_lload (pc' := 9) O dX1_isOutWithin_7 0 rfl rfl ?_
  refine a_lconst (pc' := 10) (v := 0) O dX1_isOutWithin_9 (by decide) rfl ?_
  refine a_lcmp_gt (pc' := 14) (pc1 := 11) (tgt := 16) O dX1_isOutWithin_10 rfl dX1_isOutWithin_11 (by decide) rfl hf (fun hf => ?_) (fun hf => ?_)
  · refine a_aload_n (pc' := 17) O dX1_isOutWithin_16 rfl 2 rfl rfl ?_
    refine a_iconst (pc' := 18) (v := 0) O dX1_isOutWithin_17 (by decide) rfl ?_
    obtain ⟨z3, h4, hf⟩ := bd_some hf
    refine a_callVL (pc' := 21) (n := 1) (As := [.int 0]) (st := []) (q0 := 27) O (ctX2_term hE 0 σ z3 h4) wm_482 wm_411 wm_412 wm_51 wm_413 (by decide +kernel) (by decide) (gC_27 E _) hc_2 rfl rfl rfl (Nat.le_of_ble_eq_true rfl) dX1_isOutWithin_18 rfl ?_
    refine a_lload (pc' := 23) O dX1_isOutWithin_21 0 rfl rfl ?_
    obtain ⟨h5, hf⟩ := gNl_some hf
    refine a_ldiv (pc' := 24) O dX1_isOutWithin_23 h5 rfl ?_
    refine a_l2i (pc' := 25) O dX1_isOutWithin_24 rfl rfl ?_
    refine a_topi hf (fun v6 hf => ?_)
    refine a_istore (pc' := 27) (lv' := [(6, .int v6), (4, .long z1), (0, .ref (E.2.2.2.2 5)), (1, .ref (E.2.2.2.2 27)), (2, .int a1), (3, .int a2)]) O dX1_isOutWithin_25 (by decide) rfl rfl ?_
    refine a_aload_n (pc' := 28) O dX1_isOutWithin_27 rfl 3 rfl rfl ?_
    refine a_iconst (pc' := 29) (v := 0) O dX1_isOutWithin_28 (by decide) rfl ?_
    obtain ⟨z7, h8, hf⟩ := bd_some hf
    refine a_callVL (pc' := 32) (n := 1) (As := [.int 0]) (st := []) (q0 := 27) O (ctX2_term hE 0 σ z7 h8) wm_482 wm_411 wm_412 wm_51 wm_413 (by decide +kernel) (by decide) (gC_27 E _) hc_2 rfl rfl rfl (Nat.le_of_ble_eq_true rfl) dX1_isOutWithin_29 rfl ?_
    refine a_lload (pc' := 34) O dX1_isOutWithin_32 1 rfl rfl ?_
    obtain ⟨h9, hf⟩ := gNl_some hf
    refine a_lrem (pc' := 35) O dX1_isOutWithin_34 h9 rfl ?_
    refine a_aload_n (pc' := 36) O dX1_isOutWithin_35 rfl 2 rfl rfl ?_
    refine a_iload (pc' := 38) O dX1_isOutWithin_36 0 rfl rfl ?_
    refine a_iload_n (pc' := 39) O dX1_isOutWithin_38 rfl 5 rfl rfl ?_
    obtain ⟨z10, h11, hf⟩ := bd_some hf
    refine a_callVI (pc' := 42) (n := 2) (As := [.int v6, .int a2]) (st := [.long (z7 - z7 / z1 * z1)]) (q0 := 5) O (ctX1_thereAndBack hE v6 a2 σ z10 h11) wm_390 wm_391 wm_392 wm_19 wm_393 (by decide +kernel) (by decide) (gC_5 E _) hc_1 rfl rfl rfl (Nat.le_of_ble_eq_true rfl) dX1_isOutWithin_39 rfl ?_
    refine a_i2l (pc' := 43) O dX1_isOutWithin_42 rfl rfl ?_
    refine a_lmul (pc' := 44) O dX1_isOutWithin_43 rfl ?_
    refine a_topl hf (fun v12 hf => ?_)
    refine a_lstore (pc' := 46) (lv' := [(7, .long v12), (6, .int v6), (4, .long z1), (0, .ref (E.2.2.2.2 5)), (1, .ref (E.2.2.2.2 27)), (2, .int a1), (3, .int a2)]) O dX1_isOutWithin_44 (by decide) rfl rfl ?_
    refine a_iconst (pc' := 47) (v := 0) O dX1_isOutWithin_46 (by decide) rfl ?_
    refine a_istore (pc' := 49) (lv' := [(9, .int 0), (7, .long v12), (6, .int v6), (4, .long z1), (0, .ref (E.2.2.2.2 5)), (1, .ref (E.2.2.2.2 27)), (2, .int a1), (3, .int a2)]) O dX1_isOutWithin_47 (by decide) rfl rfl ?_
    exact a_sub [4, 6, 7, 3, 2, 1, 0] rfl (okLX1_isOutWithin_49 O fu a1 a2 z1 v6 v12 0 hf)
  · refine a_iconst (pc' := 15) (v := 0) O dX1_isOutWithin_14 (by decide) rfl ?_
    exact a_zretP (Or.inl rfl) O hf dX1_isOutWithin_15
def rmX3_party : Room := { frames := 0, cells := 0, slots := 0, locals := 0 }
def fX3_party (σ : St) : Option Int32 :=
  some (σ.1 6)
set_option maxRecDepth 100000 in
theorem ctX3_party {E : ET} (hE : Dj (YC E)) (σ : St) (z : Int32) (hf : fX3_party σ = some z) : Ct (YC E) yX3_party cX3_party 1 (some .int) rmX3_party [.ref (E.2.2.2.2 8)] σ (some (.int z)) σ := by
  refine Ct.of hE (by decide) (Nat.le_of_ble_eq_true rfl) (fun X O => ?_)
  have O : Ok (YC E) X cX3_party 1 RX3 (some .int) rmX3_party (some (.int z)) σ := O
  show At (YC E) X 1 0 [(0, .ref (E.2.2.2.2 8))] [] σ
  unfold fX3_party at hf
  refine a_aload_n (pc' := 1) O dX3_party_0 rfl 0 rfl rfl ?_
  refine gfC_8_1 (pc' := 4) O dX3_party_1 rfl ?_
  exact a_iretP O hf dX3_party_4
def rmX3_setParty : Room := { frames := 0, cells := 0, slots := 0, locals := 0 }
def fX3_setParty (a0 : Int32) (σ : St) : Option St :=
  bS (sI σ 6 a0) (fun σ1 => some σ1)
set_option maxRecDepth 100000 in
theorem ctX3_setParty {E : ET} (hE : Dj (YC E)) (a0 : Int32) (σ : St) (z : St) (hf : fX3_setParty a0 σ = some z) : Ct (YC E) yX3_setParty cX3_setParty 2 none rmX3_setParty [.ref (E.2.2.2.2 8), .int a0] σ none z := by
  refine Ct.of hE (by decide) (Nat.le_of_ble_eq_true rfl) (fun X O => ?_)
  have O : Ok (YC E) X cX3_setParty 2 RX3 none rmX3_setParty none z := O
  show At (YC E) X 2 0 [(0, .ref (E.2.2.2.2 8)), (1, .int a0)] [] σ
  unfold fX3_setParty at hf
  refine a_aload_n (pc' := 1) O dX3_setParty_0 rfl 0 rfl rfl ?_
  refine a_iload_n (pc' := 2) O dX3_setParty_1 rfl 1 rfl rfl ?_
  refine pfC_8_1 (pc' := 5) O hf dX3_setParty_2 rfl (fun σ1 hf => ?_)
  exact a_vret O hf dX3_setParty_5
def rmX3_setBurns : Room := { frames := 0, cells := 0, slots := 0, locals := 0 }
def fX3_setBurns (a0 : Int32) (a1 : Int32) (σ : St) : Option St :=
  if a0 < 0 then some σ else (if 4 ≤ a0 then some σ else (gIn a0 4 (bS (sA σ 9 a0.toNatClampNeg a1) (fun σ1 => some σ1))))
set_option maxRecDepth 100000 in
theorem ctX3_setBurns {E : ET} (hE : Dj (YC E)) (a0 : Int32) (a1 : Int32) (σ : St) (z : St) (hf : fX3_setBurns a0 a1 σ = some z) : Ct (YC E) yX3_setBurns cX3_setBurns 3 none rmX3_setBurns [.ref (E.2.2.2.2 8), .int a0, .int a1] σ none z := by
  refine Ct.of hE (by decide) (Nat.le_of_ble_eq_true rfl) (fun X O => ?_)
  have O : Ok (YC E) X cX3_setBurns 3 RX3 none rmX3_setBurns none z := O
  show At (YC E) X 3 0 [(0, .ref (E.2.2.2.2 8)), (1, .int a0), (2, .int a1)] [] σ
  unfold fX3_setBurns at hf
  refine a_iload_n (pc' := 1) O dX3_setBurns_0 rfl 1 rfl rfl ?_
  refine a_if_lt (pc' := 4) (tgt := 20) O dX3_setBurns_1 (by decide) rfl hf (fun hf => ?_) (fun hf => ?_)
  · exact a_vret O hf dX3_setBurns_20
  · refine a_iload_n (pc' := 5) O dX3_setBurns_4 rfl 1 rfl rfl ?_
    refine a_aload_n (pc' := 6) O dX3_setBurns_5 rfl 0 rfl rfl ?_
    refine gfC_8_0 (pc' := 9) O dX3_setBurns_6 rfl ?_
    refine alC_9 (pc' := 10) O dX3_setBurns_9 rfl ?_
    refine a_icmp_ge (pc' := 13) (tgt := 20) O dX3_setBurns_10 (by decide) rfl hf (fun hf => ?_) (fun hf => ?_)
    · exact a_vret O hf dX3_setBurns_20
    · refine a_aload_n (pc' := 14) O dX3_setBurns_13 rfl 0 rfl rfl ?_
      refine gfC_8_0 (pc' := 17) O dX3_setBurns_14 rfl ?_
      refine a_iload_n (pc' := 18) O dX3_setBurns_17 rfl 1 rfl rfl ?_
      refine a_iload_n (pc' := 19) O dX3_setBurns_18 rfl 2 rfl rfl ?_
      refine saC_9 (pc' := 20) O hf dX3_setBurns_19 rfl (fun σ1 hf => ?_)
      exact a_vret O hf dX3_setBurns_20
def rmX3_leastBurn : Room := { frames := 1, cells := 0, slots := 0, locals := 21 }
def BX3_leastBurn_8 (k8 : Int32 → Int32 → Option Int32) (σ : St) (x1 : Int32) (x2 : Int32) : Option Int32 :=
  if (σ.1 6) ≤ x2 then some x1 else ((fX3_burns x2 σ).bind (fun z3 => bI (if z3 < x1 then z3 else x1) (fun v5 => bI (x2 + 1) (fun v6 => k8 v5 v6))))
set_option maxRecDepth 100000 in
theorem okBX3_leastBurn_8 {E : ET} {X : XT} {z : Int32} {σ : St} (O : Ok (YC E) X cX3_leastBurn 3 RX3 (some .int) rmX3_leastBurn (some (.int z)) σ) (k8 : Int32 → Int32 → Option Int32) (hk8 : ∀ (x1 : Int32) (x2 : Int32), k8 x1 x2 = some z → At (YC E) X 3 8 [(0, .ref (E.2.2.2.2 8)), (1, .int x1), (2, .int x2)] [] σ) (x1 : Int32) (x2 : Int32) (hf : BX3_leastBurn_8 k8 σ x1 x2 = some z) : At (YC E) X 3 8 [(0, .ref (E.2.2.2.2 8)), (1, .int x1), (2, .int x2)] [] σ := by
  have hE := O.2.2.2.2.2.2.2.2.2.1
  unfold BX3_leastBurn_8 at hf
  refine a_iload_n (pc' := 9) O dX3_leastBurn_8 rfl 2 rfl rfl ?_
  refine a_aload_n (pc' := 10) O dX3_leastBurn_9 rfl 0 rfl rfl ?_
  refine gfC_8_1 (pc' := 13) O dX3_leastBurn_10 rfl ?_
  refine a_icmp_ge (pc' := 16) (tgt := 32) O dX3_leastBurn_13 (by decide) rfl hf (fun hf => ?_) (fun hf => ?_)
  · refine a_iload_n (pc' := 33) O dX3_leastBurn_32 rfl 1 rfl rfl ?_
    exact a_iretP O hf dX3_leastBurn_33
  · refine a_iload_n (pc' := 17) O dX3_leastBurn_16 rfl 1 rfl rfl ?_
    refine a_aload_n (pc' := 18) O dX3_leastBurn_17 rfl 0 rfl rfl ?_
    refine a_iload_n (pc' := 19) O dX3_leastBurn_18 rfl 2 rfl rfl ?_
    obtain ⟨z3, h4, hf⟩ := bd_some hf
    refine a_callVI (pc' := 22) (n := 1) (As := [.int x2]) (st := [.int x1]) (q0 := 8) O (ctX3_burns hE x2 σ z3 h4) wm_446 wm_316 wm_317 wm_27 wm_318 (by decide +kernel) (by decide) (gC_8 E _) hc_3 rfl rfl rfl (Nat.le_of_ble_eq_true rfl) dX3_leastBurn_19 rfl ?_
    refine a_mmin (pc' := 25) O wm_445 wm_333 wm_60 wm_334 (by decide) (by decide) (Nat.le_of_ble_eq_true rfl) dX3_leastBurn_22 rfl ?_
    refine a_topi hf (fun v5 hf => ?_)
    refine a_istore_n (pc' := 26) (lv' := [(1, .int v5), (0, .ref (E.2.2.2.2 8)), (2, .int x2)]) O dX3_leastBurn_25 rfl (by decide) rfl rfl ?_
    refine a_iincB (pc' := 29) (lv' := fun v6 => [(2, .int v6), (1, .int v5), (0, .ref (E.2.2.2.2 8))]) (c0 := 1) O dX3_leastBurn_26 2 rfl (by decide) (by decide) (fun _ => rfl) rfl hf (fun v6 hf => ?_)
    refine a_goto (tgt := 8) O dX3_leastBurn_29 (by decide) ?_
    exact a_sub [2, 1, 0] rfl (hk8 v5 v6 hf)
def LX3_leastBurn_8 (σ : St) : Nat → Int32 → Int32 → Option Int32
  | 0, _, _ => none
  | n + 1, x1, x2 => BX3_leastBurn_8 (LX3_leastBurn_8 σ n) σ x1 x2
theorem okLX3_leastBurn_8 {E : ET} {X : XT} {z : Int32} {σ : St} (O : Ok (YC E) X cX3_leastBurn 3 RX3 (some .int) rmX3_leastBurn (some (.int z)) σ) : ∀ (n : Nat) (x1 : Int32) (x2 : Int32), LX3_leastBurn_8 σ n x1 x2 = some z → At (YC E) X 3 8 [(0, .ref (E.2.2.2.2 8)), (1, .int x1), (2, .int x2)] [] σ := by
  intro n
  induction n with
  | zero =>
    intro x1 x2 hf
    rw [LX3_leastBurn_8] at hf
    cases hf
  | succ n ih =>
    intro x1 x2 hf
    rw [LX3_leastBurn_8] at hf
    exact okBX3_leastBurn_8 O (LX3_leastBurn_8 σ n) ih x1 x2 hf
def fX3_leastBurn (σ : St) : Option Int32 :=
  (fX3_burns 0 σ).bind (fun z1 => LX3_leastBurn_8 σ fu z1 1)
set_option maxRecDepth 100000 in
theorem ctX3_leastBurn {E : ET} (hE : Dj (YC E)) (σ : St) (z : Int32) (hf : fX3_leastBurn σ = some z) : Ct (YC E) yX3_leastBurn cX3_leastBurn 3 (some .int) rmX3_leastBurn [.ref (E.2.2.2.2 8)] σ (some (.int z)) σ := by
  refine Ct.of hE (by decide) (Nat.le_of_ble_eq_true rfl) (fun X O => ?_)
  have O : Ok (YC E) X cX3_leastBurn 3 RX3 (some .int) rmX3_leastBurn (some (.int z)) σ := O
  show At (YC E) X 3 0 [(0, .ref (E.2.2.2.2 8))] [] σ
  unfold fX3_leastBurn at hf
  refine a_aload_n (pc' := 1) O dX3_leastBurn_0 rfl 0 rfl rfl ?_
  refine a_iconst (pc' := 2) (v := 0) O dX3_leastBurn_1 (by decide) rfl ?_
  obtain ⟨z1, h2, hf⟩ := bd_some hf
  refine a_callVI (pc' := 5) (n := 1) (As := [.int 0]) (st := []) (q0 := 8) O (ctX3_burns hE 0 σ z1 h2) wm_446 wm_316 wm_317 wm_27 wm_318 (by decide +kernel) (by decide) (gC_8 E _) hc_3 rfl rfl rfl (Nat.le_of_ble_eq_true rfl) dX3_leastBurn_2 rfl ?_
  refine a_istore_n (pc' := 6) (lv' := [(1, .int z1), (0, .ref (E.2.2.2.2 8))]) O dX3_leastBurn_5 rfl (by decide) rfl rfl ?_
  refine a_iconst (pc' := 7) (v := 1) O dX3_leastBurn_6 (by decide) rfl ?_
  refine a_istore_n (pc' := 8) (lv' := [(2, .int 1), (1, .int z1), (0, .ref (E.2.2.2.2 8))]) O dX3_leastBurn_7 rfl (by decide) rfl rfl ?_
  exact a_sub [2, 1, 0] rfl (okLX3_leastBurn_8 O fu z1 1 hf)
def rmX3_toALight : Room := { frames := 0, cells := 0, slots := 0, locals := 0 }
def fX3_toALight (a0 : Int32) (σ : St) : Option Int32 :=
  if 0 < a0 then gNz a0 (some ((((σ.1 6) + a0) - 1) / a0)) else (some (σ.1 6))
set_option maxRecDepth 100000 in
theorem ctX3_toALight {E : ET} (hE : Dj (YC E)) (a0 : Int32) (σ : St) (z : Int32) (hf : fX3_toALight a0 σ = some z) : Ct (YC E) yX3_toALight cX3_toALight 2 (some .int) rmX3_toALight [.ref (E.2.2.2.2 8), .int a0] σ (some (.int z)) σ := by
  refine Ct.of hE (by decide) (Nat.le_of_ble_eq_true rfl) (fun X O => ?_)
  have O : Ok (YC E) X cX3_toALight 2 RX3 (some .int) rmX3_toALight (some (.int z)) σ := O
  show At (YC E) X 2 0 [(0, .ref (E.2.2.2.2 8)), (1, .int a0)] [] σ
  unfold fX3_toALight at hf
  refine a_iload_n (pc' := 1) O dX3_toALight_0 rfl 1 rfl rfl ?_
  refine a_if_gt (pc' := 4) (tgt := 11) O dX3_toALight_1 (by decide) rfl hf (fun hf => ?_) (fun hf => ?_)
  · refine a_aload_n (pc' := 12) O dX3_toALight_11 rfl 0 rfl rfl ?_
    refine gfC_8_1 (pc' := 15) O dX3_toALight_12 rfl ?_
    refine a_iload_n (pc' := 16) O dX3_toALight_15 rfl 1 rfl rfl ?_
    refine a_iadd (pc' := 17) O dX3_toALight_16 rfl ?_
    refine a_iconst (pc' := 18) (v := 1) O dX3_toALight_17 (by decide) rfl ?_
    refine a_isub (pc' := 19) O dX3_toALight_18 rfl ?_
    refine a_iload_n (pc' := 20) O dX3_toALight_19 rfl 1 rfl rfl ?_
    obtain ⟨h1, hf⟩ := gNz_some hf
    refine a_idiv (pc' := 21) O dX3_toALight_20 h1 rfl ?_
    exact a_iretP O hf dX3_toALight_21
  · refine a_aload_n (pc' := 5) O dX3_toALight_4 rfl 0 rfl rfl ?_
    refine gfC_8_1 (pc' := 8) O dX3_toALight_5 rfl ?_
    refine a_goto (tgt := 21) O dX3_toALight_8 (by decide) ?_
    exact a_iretP O hf dX3_toALight_21
def rmX4_size : Room := { frames := 0, cells := 0, slots := 0, locals := 0 }
def fX4_size (σ : St) : Option Int32 :=
  some (σ.1 4)
set_option maxRecDepth 100000 in
theorem ctX4_size {E : ET} (hE : Dj (YC E)) (σ : St) (z : Int32) (hf : fX4_size σ = some z) : Ct (YC E) yX4_size cX4_size 1 (some .int) rmX4_size [.ref (E.2.2.2.2 7)] σ (some (.int z)) σ := by
  refine Ct.of hE (by decide) (Nat.le_of_ble_eq_true rfl) (fun X O => ?_)
  have O : Ok (YC E) X cX4_size 1 RX4 (some .int) rmX4_size (some (.int z)) σ := O
  show At (YC E) X 1 0 [(0, .ref (E.2.2.2.2 7))] [] σ
  unfold fX4_size at hf
  refine a_aload_n (pc' := 1) O dX4_size_0 rfl 0 rfl rfl ?_
  refine gfC_7_0 (pc' := 4) O dX4_size_1 rfl ?_
  exact a_iretP O hf dX4_size_4
def rmX4_faultPlace : Room := { frames := 0, cells := 0, slots := 0, locals := 0 }
def fX4_faultPlace (σ : St) : Option Int32 :=
  some (σ.1 5)
set_option maxRecDepth 100000 in
theorem ctX4_faultPlace {E : ET} (hE : Dj (YC E)) (σ : St) (z : Int32) (hf : fX4_faultPlace σ = some z) : Ct (YC E) yX4_faultPlace cX4_faultPlace 1 (some .int) rmX4_faultPlace [.ref (E.2.2.2.2 7)] σ (some (.int z)) σ := by
  refine Ct.of hE (by decide) (Nat.le_of_ble_eq_true rfl) (fun X O => ?_)
  have O : Ok (YC E) X cX4_faultPlace 1 RX4 (some .int) rmX4_faultPlace (some (.int z)) σ := O
  show At (YC E) X 1 0 [(0, .ref (E.2.2.2.2 7))] [] σ
  unfold fX4_faultPlace at hf
  refine a_aload_n (pc' := 1) O dX4_faultPlace_0 rfl 0 rfl rfl ?_
  refine gfC_7_1 (pc' := 4) O dX4_faultPlace_1 rfl ?_
  exact a_iretP O hf dX4_faultPlace_4
def rmX4_isGoerFigure : Room := { frames := 0, cells := 0, slots := 0, locals := 0 }
def fX4_isGoerFigure (a0 : Int32) : Option Int32 :=
  if a0 < 48 then some 0 else (if 51 < a0 then some 0 else (some 1))
set_option maxRecDepth 100000 in
theorem ctX4_isGoerFigure {E : ET} (hE : Dj (YC E)) (a0 : Int32) (σ : St) (z : Int32) (hf : fX4_isGoerFigure a0 = some z) : Ct (YC E) yX4_isGoerFigure cX4_isGoerFigure 1 (some .boolean) rmX4_isGoerFigure [.int a0] σ (some (.int z)) σ := by
  refine Ct.of hE (by decide) (Nat.le_of_ble_eq_true rfl) (fun X O => ?_)
  have O : Ok (YC E) X cX4_isGoerFigure 1 RX4 (some .boolean) rmX4_isGoerFigure (some (.int z)) σ := O
  show At (YC E) X 1 0 [(0, .int a0)] [] σ
  unfold fX4_isGoerFigure at hf
  refine a_iload_n (pc' := 1) O dX4_isGoerFigure_0 rfl 0 rfl rfl ?_
  refine a_bipush (pc' := 3) (v := 48) O dX4_isGoerFigure_1 (by decide) rfl ?_
  refine a_icmp_lt (pc' := 6) (tgt := 16) O dX4_isGoerFigure_3 (by decide) rfl hf (fun hf => ?_) (fun hf => ?_)
  · refine a_iconst (pc' := 17) (v := 0) O dX4_isGoerFigure_16 (by decide) rfl ?_
    exact a_zretP (Or.inl rfl) O hf dX4_isGoerFigure_17
  · refine a_iload_n (pc' := 7) O dX4_isGoerFigure_6 rfl 0 rfl rfl ?_
    refine a_bipush (pc' := 9) (v := 51) O dX4_isGoerFigure_7 (by decide) rfl ?_
    refine a_icmp_gt (pc' := 12) (tgt := 16) O dX4_isGoerFigure_9 (by decide) rfl hf (fun hf => ?_) (fun hf => ?_)
    · refine a_iconst (pc' := 17) (v := 0) O dX4_isGoerFigure_16 (by decide) rfl ?_
      exact a_zretP (Or.inl rfl) O hf dX4_isGoerFigure_17
    · refine a_iconst (pc' := 13) (v := 1) O dX4_isGoerFigure_12 (by decide) rfl ?_
      refine a_goto (tgt := 17) O dX4_isGoerFigure_13 (by decide) ?_
      exact a_zretP (Or.inr rfl) O hf dX4_isGoerFigure_17
def rmX4_isAct : Room := { frames := 0, cells := 0, slots := 0, locals := 0 }
def fX4_isAct (a0 : Int32) : Option Int32 :=
  if a0 = 43 then some 1 else (if a0 = 45 then some 1 else (if a0 = 117 then some 1 else (if a0 = 120 then some 1 else (some 0))))
set_option maxRecDepth 100000 in
theorem ctX4_isAct {E : ET} (hE : Dj (YC E)) (a0 : Int32) (σ : St) (z : Int32) (hf : fX4_isAct a0 = some z) : Ct (YC E) yX4_isAct cX4_isAct 1 (some .boolean) rmX4_isAct [.int a0] σ (some (.int z)) σ := by
  refine Ct.of hE (by decide) (Nat.le_of_ble_eq_true rfl) (fun X O => ?_)
  have O : Ok (YC E) X cX4_isAct 1 RX4 (some .boolean) rmX4_isAct (some (.int z)) σ := O
  show At (YC E) X 1 0 [(0, .int a0)] [] σ
  unfold fX4_isAct at hf
  refine a_iload_n (pc' := 1) O dX4_isAct_0 rfl 0 rfl rfl ?_
  refine a_bipush (pc' := 3) (v := 43) O dX4_isAct_1 (by decide) rfl ?_
  refine a_icmp_eq (pc' := 6) (tgt := 24) O dX4_isAct_3 (by decide) rfl hf (fun hf => ?_) (fun hf => ?_)
  · refine a_iconst (pc' := 25) (v := 1) O dX4_isAct_24 (by decide) rfl ?_
    refine a_goto (tgt := 29) O dX4_isAct_25 (by decide) ?_
    exact a_zretP (Or.inr rfl) O hf dX4_isAct_29
  · refine a_iload_n (pc' := 7) O dX4_isAct_6 rfl 0 rfl rfl ?_
    refine a_bipush (pc' := 9) (v := 45) O dX4_isAct_7 (by decide) rfl ?_
    refine a_icmp_eq (pc' := 12) (tgt := 24) O dX4_isAct_9 (by decide) rfl hf (fun hf => ?_) (fun hf => ?_)
    · refine a_iconst (pc' := 25) (v := 1) O dX4_isAct_24 (by decide) rfl ?_
      refine a_goto (tgt := 29) O dX4_isAct_25 (by decide) ?_
      exact a_zretP (Or.inr rfl) O hf dX4_isAct_29
    · refine a_iload_n (pc' := 13) O dX4_isAct_12 rfl 0 rfl rfl ?_
      refine a_bipush (pc' := 15) (v := 117) O dX4_isAct_13 (by decide) rfl ?_
      refine a_icmp_eq (pc' := 18) (tgt := 24) O dX4_isAct_15 (by decide) rfl hf (fun hf => ?_) (fun hf => ?_)
      · refine a_iconst (pc' := 25) (v := 1) O dX4_isAct_24 (by decide) rfl ?_
        refine a_goto (tgt := 29) O dX4_isAct_25 (by decide) ?_
        exact a_zretP (Or.inr rfl) O hf dX4_isAct_29
      · refine a_iload_n (pc' := 19) O dX4_isAct_18 rfl 0 rfl rfl ?_
        refine a_bipush (pc' := 21) (v := 120) O dX4_isAct_19 (by decide) rfl ?_
        refine a_icmp_ne (pc' := 24) (tgt := 28) O dX4_isAct_21 (by decide) rfl hf (fun hf => ?_) (fun hf => ?_)
        · refine a_iconst (pc' := 29) (v := 0) O dX4_isAct_28 (by decide) rfl ?_
          exact a_zretP (Or.inl rfl) O hf dX4_isAct_29
        · refine a_iconst (pc' := 25) (v := 1) O dX4_isAct_24 (by decide) rfl ?_
          refine a_goto (tgt := 29) O dX4_isAct_25 (by decide) ?_
          exact a_zretP (Or.inr rfl) O hf dX4_isAct_29
