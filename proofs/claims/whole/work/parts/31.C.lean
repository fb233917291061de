def rmX4_parse : Room := { frames := 1, cells := 0, slots := 0, locals := 21 }
def BX4_parse_87 (σ : St) (x2 : Int32) (x3 : Int32) : Option St :=
  if x3 = 0 then bS (sI σ 4 x2) (fun σ5 => some σ5) else (bS (sI σ 5 x2) (fun σ6 => some σ6))
set_option maxRecDepth 100000 in
theorem okBX4_parse_87 {E : ET} {X : XT} {z : St} (O : Ok (YC E) X cX4_parse 6 RX4 none rmX4_parse none z) (σ : St) (x2 : Int32) (x3 : Int32) (hf : BX4_parse_87 σ x2 x3 = some z) : At (YC E) X 6 87 [(0, .ref (E.2.2.2.2 7)), (2, .int x2), (3, .int x3)] [] σ := by
  have hE := O.2.2.2.2.2.2.2.2.2.1
  unfold BX4_parse_87 at hf
  refine a_iload_n (pc' := 88) O dX4_parse_87 rfl 2 rfl rfl ?_
  refine a_if_eq (pc' := 91) (tgt := 97) O dX4_parse_88 (by decide) rfl hf (fun hf => ?_) (fun hf => ?_)
  · refine a_aload_n (pc' := 98) O dX4_parse_97 rfl 0 rfl rfl ?_
    refine a_iload_n (pc' := 99) O dX4_parse_98 rfl 1 rfl rfl ?_
    refine pfC_7_0 (pc' := 102) O hf dX4_parse_99 rfl (fun σ5 hf => ?_)
    exact a_vret O hf dX4_parse_102
  · refine a_aload_n (pc' := 92) O dX4_parse_91 rfl 0 rfl rfl ?_
    refine a_iload_n (pc' := 93) O dX4_parse_92 rfl 1 rfl rfl ?_
    refine pfC_7_1 (pc' := 96) O hf dX4_parse_93 rfl (fun σ6 hf => ?_)
    exact a_vret O hf dX4_parse_96
def BX4_parse_64 (k20 : St → Int32 → Int32 → Int32 → Option St) (σ : St) (x2 : Int32) (x3 : Int32) (x4 : Int32) (x5 : Int32) : Option St :=
  if x3 = 0 then if x5 = 120 then bI (x4 + 1) (fun v13 => k20 σ x2 1 v13) else (bI (x4 + 1) (fun v12 => k20 σ x2 0 v12)) else (bI (x4 + 1) (fun v11 => k20 σ x2 0 v11))
set_option maxRecDepth 100000 in
theorem okBX4_parse_64 {E : ET} {X : XT} {z : St} (O : Ok (YC E) X cX4_parse 6 RX4 none rmX4_parse none z) (k20 : St → Int32 → Int32 → Int32 → Option St) (hk20 : ∀ (σ : St) (x2 : Int32) (x3 : Int32) (x4 : Int32), k20 σ x2 x3 x4 = some z → At (YC E) X 6 20 [(0, .ref (E.2.2.2.2 7)), (1, .ref (E.2.2.2.2 3)), (2, .int x2), (3, .int x3), (4, .int x4)] [] σ) (σ : St) (x2 : Int32) (x3 : Int32) (x4 : Int32) (x5 : Int32) (hf : BX4_parse_64 k20 σ x2 x3 x4 x5 = some z) : At (YC E) X 6 64 [(0, .ref (E.2.2.2.2 7)), (1, .ref (E.2.2.2.2 3)), (2, .int x2), (3, .int x3), (4, .int x4), (5, .int x5)] [] σ := by
  have hE := O.2.2.2.2.2.2.2.2.2.1
  unfold BX4_parse_64 at hf
  refine a_iload_n (pc' := 65) O dX4_parse_64 rfl 3 rfl rfl ?_
  refine a_if_ne (pc' := 68) (tgt := 79) O dX4_parse_65 (by decide) rfl hf (fun hf => ?_) (fun hf => ?_)
  · refine a_iconst (pc' := 80) (v := 0) O dX4_parse_79 (by decide) rfl ?_
    refine a_istore_n (pc' := 81) (lv' := [(3, .int 0), (0, .ref (E.2.2.2.2 7)), (1, .ref (E.2.2.2.2 3)), (2, .int x2), (4, .int x4), (5, .int x5)]) O dX4_parse_80 rfl (by decide) rfl rfl ?_
    refine a_iincB (pc' := 84) (lv' := fun v11 => [(4, .int v11), (3, .int 0), (0, .ref (E.2.2.2.2 7)), (1, .ref (E.2.2.2.2 3)), (2, .int x2), (5, .int x5)]) (c0 := 1) O dX4_parse_81 4 rfl (by decide) (by decide) (fun _ => rfl) rfl hf (fun v11 hf => ?_)
    refine a_goto (tgt := 20) O dX4_parse_84 (by decide) ?_
    exact a_sub [2, 3, 4, 1, 0] rfl (hk20 σ x2 0 v11 hf)
  · refine a_iload (pc' := 70) O dX4_parse_68 5 rfl rfl ?_
    refine a_bipush (pc' := 72) (v := 120) O dX4_parse_70 (by decide) rfl ?_
    refine a_icmp_ne (pc' := 75) (tgt := 79) O dX4_parse_72 (by decide) rfl hf (fun hf => ?_) (fun hf => ?_)
    · refine a_iconst (pc' := 80) (v := 0) O dX4_parse_79 (by decide) rfl ?_
      refine a_istore_n (pc' := 81) (lv' := [(3, .int 0), (0, .ref (E.2.2.2.2 7)), (1, .ref (E.2.2.2.2 3)), (2, .int x2), (4, .int x4), (5, .int x5)]) O dX4_parse_80 rfl (by decide) rfl rfl ?_
      refine a_iincB (pc' := 84) (lv' := fun v12 => [(4, .int v12), (3, .int 0), (0, .ref (E.2.2.2.2 7)), (1, .ref (E.2.2.2.2 3)), (2, .int x2), (5, .int x5)]) (c0 := 1) O dX4_parse_81 4 rfl (by decide) (by decide) (fun _ => rfl) rfl hf (fun v12 hf => ?_)
      refine a_goto (tgt := 20) O dX4_parse_84 (by decide) ?_
      exact a_sub [2, 3, 4, 1, 0] rfl (hk20 σ x2 0 v12 hf)
    · refine a_iconst (pc' := 76) (v := 1) O dX4_parse_75 (by decide) rfl ?_
      refine a_goto (tgt := 80) O dX4_parse_76 (by decide) ?_
      refine a_istore_n (pc' := 81) (lv' := [(3, .int 1), (0, .ref (E.2.2.2.2 7)), (1, .ref (E.2.2.2.2 3)), (2, .int x2), (4, .int x4), (5, .int x5)]) O dX4_parse_80 rfl (by decide) rfl rfl ?_
      refine a_iincB (pc' := 84) (lv' := fun v13 => [(4, .int v13), (3, .int 1), (0, .ref (E.2.2.2.2 7)), (1, .ref (E.2.2.2.2 3)), (2, .int x2), (5, .int x5)]) (c0 := 1) O dX4_parse_81 4 rfl (by decide) (by decide) (fun _ => rfl) rfl hf (fun v13 hf => ?_)
      refine a_goto (tgt := 20) O dX4_parse_84 (by decide) ?_
      exact a_sub [2, 3, 4, 1, 0] rfl (hk20 σ x2 1 v13 hf)
def BX4_parse_57 (σ : St) (x4 : Int32) : Option St :=
  bS (sI σ 5 x4) (fun σ14 => some σ14)
set_option maxRecDepth 100000 in
theorem okBX4_parse_57 {E : ET} {X : XT} {z : St} (O : Ok (YC E) X cX4_parse 6 RX4 none rmX4_parse none z) (σ : St) (x4 : Int32) (hf : BX4_parse_57 σ x4 = some z) : At (YC E) X 6 57 [(0, .ref (E.2.2.2.2 7)), (4, .int x4)] [] σ := by
  have hE := O.2.2.2.2.2.2.2.2.2.1
  unfold BX4_parse_57 at hf
  refine a_aload_n (pc' := 58) O dX4_parse_57 rfl 0 rfl rfl ?_
  refine a_iload (pc' := 60) O dX4_parse_58 1 rfl rfl ?_
  refine pfC_7_1 (pc' := 63) O hf dX4_parse_60 rfl (fun σ14 hf => ?_)
  exact a_vret O hf dX4_parse_63
def BX4_parse_46 (σ : St) (x4 : Int32) : Option St :=
  BX4_parse_57 σ x4
set_option maxRecDepth 100000 in
theorem okBX4_parse_46 {E : ET} {X : XT} {z : St} (O : Ok (YC E) X cX4_parse 6 RX4 none rmX4_parse none z) (σ : St) (x4 : Int32) (hf : BX4_parse_46 σ x4 = some z) : At (YC E) X 6 46 [(0, .ref (E.2.2.2.2 7)), (4, .int x4)] [] σ := by
  have hE := O.2.2.2.2.2.2.2.2.2.1
  unfold BX4_parse_46 at hf
  refine a_goto (tgt := 57) O dX4_parse_46 (by decide) ?_
  exact a_sub [0, 1] rfl (okBX4_parse_57 O σ x4 hf)
def BX4_parse_20 (k20 : St → Int32 → Int32 → Int32 → Option St) (σ : St) (x2 : Int32) (x3 : Int32) (x4 : Int32) : Option St :=
  if x2 ≤ x4 then BX4_parse_87 σ x2 x3 else ((fX7_at_3 x4 σ).bind (fun z7 => if x3 = 0 then (fX4_isAct z7).bind (fun z9 => if z9 = 0 then BX4_parse_57 σ x4 else (BX4_parse_64 k20 σ x2 x3 x4 z7)) else ((fX4_isGoerFigure z7).bind (fun z15 => if z15 = 0 then BX4_parse_46 σ x4 else (BX4_parse_64 k20 σ x2 x3 x4 z7)))))
set_option maxRecDepth 100000 in
theorem okBX4_parse_20 {E : ET} {X : XT} {z : St} (O : Ok (YC E) X cX4_parse 6 RX4 none rmX4_parse none z) (k20 : St → Int32 → Int32 → Int32 → Option St) (hk20 : ∀ (σ : St) (x2 : Int32) (x3 : Int32) (x4 : Int32), k20 σ x2 x3 x4 = some z → At (YC E) X 6 20 [(0, .ref (E.2.2.2.2 7)), (1, .ref (E.2.2.2.2 3)), (2, .int x2), (3, .int x3), (4, .int x4)] [] σ) (σ : St) (x2 : Int32) (x3 : Int32) (x4 : Int32) (hf : BX4_parse_20 k20 σ x2 x3 x4 = some z) : At (YC E) X 6 20 [(0, .ref (E.2.2.2.2 7)), (1, .ref (E.2.2.2.2 3)), (2, .int x2), (3, .int x3), (4, .int x4)] [] σ := by
  have hE := O.2.2.2.2.2.2.2.2.2.1
  unfold BX4_parse_20 at hf
  refine a_iload (pc' := 22) O dX4_parse_20 4 rfl rfl ?_
  refine a_iload_n (pc' := 23) O dX4_parse_22 rfl 2 rfl rfl ?_
  refine a_icmp_ge (pc' := 26) (tgt := 87) O dX4_parse_23 (by decide) rfl hf (fun hf => ?_) (fun hf => ?_)
  · exact a_sub [0, 2, 3] rfl (okBX4_parse_87 O σ x2 x3 hf)
  · refine a_aload_n (pc' := 27) O dX4_parse_26 rfl 1 rfl rfl ?_
    refine a_iload (pc' := 29) O dX4_parse_27 4 rfl rfl ?_
    obtain ⟨z7, h8, hf⟩ := bd_some hf
    refine a_callVI (pc' := 32) (n := 1) (As := [.int x4]) (st := []) (q0 := 3) O (ctX7_at_3 hE x4 σ z7 h8) wm_185 wm_173 wm_174 wm_14 wm_175 (by decide +kernel) (by decide) (gC_3 E _) hc_7 rfl rfl rfl (Nat.le_of_ble_eq_true rfl) dX4_parse_29 rfl ?_
    refine a_istore (pc' := 34) (lv' := [(5, .int z7), (0, .ref (E.2.2.2.2 7)), (1, .ref (E.2.2.2.2 3)), (2, .int x2), (3, .int x3), (4, .int x4)]) O dX4_parse_32 (by decide) rfl rfl ?_
    refine a_iload_n (pc' := 35) O dX4_parse_34 rfl 4 rfl rfl ?_
    refine a_if_eq (pc' := 38) (tgt := 49) O dX4_parse_35 (by decide) rfl hf (fun hf => ?_) (fun hf => ?_)
    · refine a_iload (pc' := 51) O dX4_parse_49 0 rfl rfl ?_
      obtain ⟨z9, h10, hf⟩ := bd_some hf
      refine a_callSI (pc' := 54) (n := 1) (As := [.int z7]) (st := []) O (ctX4_isAct hE z7 σ z9 h10) wm_189 wm_190 wm_23 wm_191 (by decide +kernel) (by decide) rfl rfl (Nat.le_of_ble_eq_true rfl) dX4_parse_51 rfl ?_
      refine a_if_ne (pc' := 57) (tgt := 64) O dX4_parse_54 (by decide) rfl hf (fun hf => ?_) (fun hf => ?_)
      · exact a_sub [1, 2, 3, 4, 5, 0] rfl (okBX4_parse_64 O k20 hk20 σ x2 x3 x4 z7 hf)
      · exact a_sub [1, 5] rfl (okBX4_parse_57 O σ x4 hf)
    · refine a_iload (pc' := 40) O dX4_parse_38 0 rfl rfl ?_
      obtain ⟨z15, h16, hf⟩ := bd_some hf
      refine a_callSI (pc' := 43) (n := 1) (As := [.int z7]) (st := []) O (ctX4_isGoerFigure hE z7 σ z15 h16) wm_186 wm_187 wm_23 wm_188 (by decide +kernel) (by decide) rfl rfl (Nat.le_of_ble_eq_true rfl) dX4_parse_40 rfl ?_
      refine a_if_ne (pc' := 46) (tgt := 64) O dX4_parse_43 (by decide) rfl hf (fun hf => ?_) (fun hf => ?_)
      · exact a_sub [1, 2, 3, 4, 5, 0] rfl (okBX4_parse_64 O k20 hk20 σ x2 x3 x4 z7 hf)
      · exact a_sub [1, 5] rfl (okBX4_parse_46 O σ x4 hf)
def LX4_parse_20 : Nat → St → Int32 → Int32 → Int32 → Option St
  | 0, _, _, _, _ => none
  | n + 1, σ, x2, x3, x4 => BX4_parse_20 (LX4_parse_20 n) σ x2 x3 x4
theorem okLX4_parse_20 {E : ET} {X : XT} {z : St} (O : Ok (YC E) X cX4_parse 6 RX4 none rmX4_parse none z) : ∀ (n : Nat) (σ : St) (x2 : Int32) (x3 : Int32) (x4 : Int32), LX4_parse_20 n σ x2 x3 x4 = some z → At (YC E) X 6 20 [(0, .ref (E.2.2.2.2 7)), (1, .ref (E.2.2.2.2 3)), (2, .int x2), (3, .int x3), (4, .int x4)] [] σ := by
  intro n
  induction n with
  | zero =>
    intro σ x2 x3 x4 hf
    rw [LX4_parse_20] at hf
    cases hf
  | succ n ih =>
    intro σ x2 x3 x4 hf
    rw [LX4_parse_20] at hf
    exact okBX4_parse_20 O (LX4_parse_20 n) ih σ x2 x3 x4 hf
def fX4_parse (σ : St) : Option St :=
  (fX7_length_3 σ).bind (fun z1 => bS (sI σ 4 0) (fun σ3 => bS (sI σ3 5 (-1)) (fun σ4 => LX4_parse_20 fu σ4 z1 0 0)))
set_option maxRecDepth 100000 in
theorem ctX4_parse {E : ET} (hE : Dj (YC E)) (σ : St) (z : St) (hf : fX4_parse σ = some z) : Ct (YC E) yX4_parse cX4_parse 6 none rmX4_parse [.ref (E.2.2.2.2 7), .ref (E.2.2.2.2 3)] σ none z := by
  refine Ct.of hE (by decide) (Nat.le_of_ble_eq_true rfl) (fun X O => ?_)
  have O : Ok (YC E) X cX4_parse 6 RX4 none rmX4_parse none z := O
  show At (YC E) X 6 0 [(0, .ref (E.2.2.2.2 7)), (1, .ref (E.2.2.2.2 3))] [] σ
  unfold fX4_parse at hf
  refine a_aload_n (pc' := 1) O dX4_parse_0 rfl 1 rfl rfl ?_
  obtain ⟨z1, h2, hf⟩ := bd_some hf
  refine a_callVI (pc' := 4) (n := 0) (As := []) (st := []) (q0 := 3) O (ctX7_length_3 hE σ z1 h2) wm_184 wm_169 wm_170 wm_14 wm_171 (by decide +kernel) (by decide) (gC_3 E _) hc_7 rfl rfl rfl (Nat.le_of_ble_eq_true rfl) dX4_parse_1 rfl ?_
  refine a_istore_n (pc' := 5) (lv' := [(2, .int z1), (0, .ref (E.2.2.2.2 7)), (1, .ref (E.2.2.2.2 3))]) O dX4_parse_4 rfl (by decide) rfl rfl ?_
  refine a_iconst (pc' := 6) (v := 0) O dX4_parse_5 (by decide) rfl ?_
  refine a_istore_n (pc' := 7) (lv' := [(3, .int 0), (2, .int z1), (0, .ref (E.2.2.2.2 7)), (1, .ref (E.2.2.2.2 3))]) O dX4_parse_6 rfl (by decide) rfl rfl ?_
  refine a_aload_n (pc' := 8) O dX4_parse_7 rfl 2 rfl rfl ?_
  refine a_iconst (pc' := 9) (v := 0) O dX4_parse_8 (by decide) rfl ?_
  refine pfC_7_0 (pc' := 12) O hf dX4_parse_9 rfl (fun σ3 hf => ?_)
  refine a_aload_n (pc' := 13) O dX4_parse_12 rfl 2 rfl rfl ?_
  refine a_iconst (pc' := 14) (v := (-1)) O dX4_parse_13 (by decide) rfl ?_
  refine pfC_7_1 (pc' := 17) O hf dX4_parse_14 rfl (fun σ4 hf => ?_)
  refine a_iconst (pc' := 18) (v := 0) O dX4_parse_17 (by decide) rfl ?_
  refine a_istore (pc' := 20) (lv' := [(4, .int 0), (3, .int 0), (2, .int z1), (0, .ref (E.2.2.2.2 7)), (1, .ref (E.2.2.2.2 3))]) O dX4_parse_18 (by decide) rfl rfl ?_
  exact a_sub [3, 4, 2, 1, 0] rfl (okLX4_parse_20 O fu σ4 z1 0 0 hf)
def rmX5_exists : Room := { frames := 0, cells := 0, slots := 0, locals := 0 }
def fX5_exists (a0 : Int32) : Option Int32 :=
  if a0 < 0 then some 0 else (if 4 ≤ a0 then some 0 else (some 1))
set_option maxRecDepth 100000 in
theorem ctX5_exists {E : ET} (hE : Dj (YC E)) (a0 : Int32) (σ : St) (z : Int32) (hf : fX5_exists a0 = some z) : Ct (YC E) yX5_exists cX5_exists 1 (some .boolean) rmX5_exists [.int a0] σ (some (.int z)) σ := by
  refine Ct.of hE (by decide) (Nat.le_of_ble_eq_true rfl) (fun X O => ?_)
  have O : Ok (YC E) X cX5_exists 1 RX5 (some .boolean) rmX5_exists (some (.int z)) σ := O
  show At (YC E) X 1 0 [(0, .int a0)] [] σ
  unfold fX5_exists at hf
  refine a_iload_n (pc' := 1) O dX5_exists_0 rfl 0 rfl rfl ?_
  refine a_if_lt (pc' := 4) (tgt := 13) O dX5_exists_1 (by decide) rfl hf (fun hf => ?_) (fun hf => ?_)
  · refine a_iconst (pc' := 14) (v := 0) O dX5_exists_13 (by decide) rfl ?_
    exact a_zretP (Or.inl rfl) O hf dX5_exists_14
  · refine a_iload_n (pc' := 5) O dX5_exists_4 rfl 0 rfl rfl ?_
    refine a_iconst (pc' := 6) (v := 4) O dX5_exists_5 (by decide) rfl ?_
    refine a_icmp_ge (pc' := 9) (tgt := 13) O dX5_exists_6 (by decide) rfl hf (fun hf => ?_) (fun hf => ?_)
    · refine a_iconst (pc' := 14) (v := 0) O dX5_exists_13 (by decide) rfl ?_
      exact a_zretP (Or.inl rfl) O hf dX5_exists_14
    · refine a_iconst (pc' := 10) (v := 1) O dX5_exists_9 (by decide) rfl ?_
      refine a_goto (tgt := 14) O dX5_exists_10 (by decide) ?_
      exact a_zretP (Or.inr rfl) O hf dX5_exists_14
def rmX5_isForm : Room := { frames := 0, cells := 0, slots := 0, locals := 0 }
def fX5_isForm (a0 : Int32) : Option Int32 :=
  if a0 < 0 then some 0 else (if 2 < a0 then some 0 else (some 1))
set_option maxRecDepth 100000 in
theorem ctX5_isForm {E : ET} (hE : Dj (YC E)) (a0 : Int32) (σ : St) (z : Int32) (hf : fX5_isForm a0 = some z) : Ct (YC E) yX5_isForm cX5_isForm 1 (some .boolean) rmX5_isForm [.int a0] σ (some (.int z)) σ := by
  refine Ct.of hE (by decide) (Nat.le_of_ble_eq_true rfl) (fun X O => ?_)
  have O : Ok (YC E) X cX5_isForm 1 RX5 (some .boolean) rmX5_isForm (some (.int z)) σ := O
  show At (YC E) X 1 0 [(0, .int a0)] [] σ
  unfold fX5_isForm at hf
  refine a_iload_n (pc' := 1) O dX5_isForm_0 rfl 0 rfl rfl ?_
  refine a_if_lt (pc' := 4) (tgt := 13) O dX5_isForm_1 (by decide) rfl hf (fun hf => ?_) (fun hf => ?_)
  · refine a_iconst (pc' := 14) (v := 0) O dX5_isForm_13 (by decide) rfl ?_
    exact a_zretP (Or.inl rfl) O hf dX5_isForm_14
  · refine a_iload_n (pc' := 5) O dX5_isForm_4 rfl 0 rfl rfl ?_
    refine a_iconst (pc' := 6) (v := 2) O dX5_isForm_5 (by decide) rfl ?_
    refine a_icmp_gt (pc' := 9) (tgt := 13) O dX5_isForm_6 (by decide) rfl hf (fun hf => ?_) (fun hf => ?_)
    · refine a_iconst (pc' := 14) (v := 0) O dX5_isForm_13 (by decide) rfl ?_
      exact a_zretP (Or.inl rfl) O hf dX5_isForm_14
    · refine a_iconst (pc' := 10) (v := 1) O dX5_isForm_9 (by decide) rfl ?_
      refine a_goto (tgt := 14) O dX5_isForm_10 (by decide) ?_
      exact a_zretP (Or.inr rfl) O hf dX5_isForm_14
def rmX5_latestFinding : Room := { frames := 0, cells := 0, slots := 0, locals := 0 }
def fX5_latestFinding (σ : St) : Option Int32 :=
  some (σ.1 16)
set_option maxRecDepth 100000 in
theorem ctX5_latestFinding {E : ET} (hE : Dj (YC E)) (σ : St) (z : Int32) (hf : fX5_latestFinding σ = some z) : Ct (YC E) yX5_latestFinding cX5_latestFinding 1 (some .int) rmX5_latestFinding [.ref (E.2.2.2.2 23)] σ (some (.int z)) σ := by
  refine Ct.of hE (by decide) (Nat.le_of_ble_eq_true rfl) (fun X O => ?_)
  have O : Ok (YC E) X cX5_latestFinding 1 RX5 (some .int) rmX5_latestFinding (some (.int z)) σ := O
  show At (YC E) X 1 0 [(0, .ref (E.2.2.2.2 23))] [] σ
  unfold fX5_latestFinding at hf
  refine a_aload_n (pc' := 1) O dX5_latestFinding_0 rfl 0 rfl rfl ?_
  refine gfC_23_3 (pc' := 4) O dX5_latestFinding_1 rfl ?_
  exact a_iretP O hf dX5_latestFinding_4
def rmX5_found : Room := { frames := 0, cells := 0, slots := 0, locals := 0 }
def fX5_found (a0 : Int32) (σ : St) : Option (Int32 × St) :=
  bS (sI σ 16 a0) (fun σ1 => some (((-10) - a0), σ1))
set_option maxRecDepth 100000 in
theorem ctX5_found {E : ET} (hE : Dj (YC E)) (a0 : Int32) (σ : St) (z : Int32 × St) (hf : fX5_found a0 σ = some z) : Ct (YC E) yX5_found cX5_found 2 (some .int) rmX5_found [.ref (E.2.2.2.2 23), .int a0] σ (some (.int z.1)) z.2 := by
  refine Ct.of hE (by decide) (Nat.le_of_ble_eq_true rfl) (fun X O => ?_)
  have O : Ok (YC E) X cX5_found 2 RX5 (some .int) rmX5_found (some (.int z.1)) z.2 := O
  show At (YC E) X 2 0 [(0, .ref (E.2.2.2.2 23)), (1, .int a0)] [] σ
  unfold fX5_found at hf
  refine a_aload_n (pc' := 1) O dX5_found_0 rfl 0 rfl rfl ?_
  refine a_iload_n (pc' := 2) O dX5_found_1 rfl 1 rfl rfl ?_
  refine pfC_23_3 (pc' := 5) O hf dX5_found_2 rfl (fun σ1 hf => ?_)
  refine a_bipush (pc' := 7) (v := (-10)) O dX5_found_5 (by decide) rfl ?_
  refine a_iload_n (pc' := 8) O dX5_found_7 rfl 1 rfl rfl ?_
  refine a_isub (pc' := 9) O dX5_found_8 rfl ?_
  exact a_iret O hf dX5_found_9
def rmX5_isLost : Room := { frames := 1, cells := 0, slots := 0, locals := 20 }
def fX5_isLost (a0 : Int32) (σ : St) : Option Int32 :=
  (fX5_exists a0).bind (fun z1 => if z1 = 0 then some 1 else (gIn a0 4 (if (σ.2.2 26 a0.toNatClampNeg) = (-1) then some 1 else (some 0))))
set_option maxRecDepth 100000 in
theorem ctX5_isLost {E : ET} (hE : Dj (YC E)) (a0 : Int32) (σ : St) (z : Int32) (hf : fX5_isLost a0 σ = some z) : Ct (YC E) yX5_isLost cX5_isLost 2 (some .boolean) rmX5_isLost [.ref (E.2.2.2.2 23), .int a0] σ (some (.int z)) σ := by
  refine Ct.of hE (by decide) (Nat.le_of_ble_eq_true rfl) (fun X O => ?_)
  have O : Ok (YC E) X cX5_isLost 2 RX5 (some .boolean) rmX5_isLost (some (.int z)) σ := O
  show At (YC E) X 2 0 [(0, .ref (E.2.2.2.2 23)), (1, .int a0)] [] σ
  unfold fX5_isLost at hf
  refine a_iload_n (pc' := 1) O dX5_isLost_0 rfl 1 rfl rfl ?_
  obtain ⟨z1, h2, hf⟩ := bd_some hf
  refine a_callSI (pc' := 4) (n := 1) (As := [.int a0]) (st := []) O (ctX5_exists hE a0 σ z1 h2) wm_342 wm_336 wm_47 wm_337 (by decide +kernel) (by decide) rfl rfl (Nat.le_of_ble_eq_true rfl) dX5_isLost_1 rfl ?_
  refine a_if_eq (pc' := 7) (tgt := 17) O dX5_isLost_4 (by decide) rfl hf (fun hf => ?_) (fun hf => ?_)
  · refine a_iconst (pc' := 18) (v := 1) O dX5_isLost_17 (by decide) rfl ?_
    refine a_goto (tgt := 22) O dX5_isLost_18 (by decide) ?_
    exact a_zretP (Or.inr rfl) O hf dX5_isLost_22
  · refine a_aload_n (pc' := 8) O dX5_isLost_7 rfl 0 rfl rfl ?_
    refine gfC_23_2 (pc' := 11) O dX5_isLost_8 rfl ?_
    refine a_iload_n (pc' := 12) O dX5_isLost_11 rfl 1 rfl rfl ?_
    refine laC_26 (pc' := 13) O hf dX5_isLost_12 rfl (fun hf => ?_)
    refine a_iconst (pc' := 14) (v := (-1)) O dX5_isLost_13 (by decide) rfl ?_
    refine a_icmp_ne (pc' := 17) (tgt := 21) O dX5_isLost_14 (by decide) rfl hf (fun hf => ?_) (fun hf => ?_)
    · refine a_iconst (pc' := 22) (v := 0) O dX5_isLost_21 (by decide) rfl ?_
      exact a_zretP (Or.inl rfl) O hf dX5_isLost_22
    · refine a_iconst (pc' := 18) (v := 1) O dX5_isLost_17 (by decide) rfl ?_
      refine a_goto (tgt := 22) O dX5_isLost_18 (by decide) ?_
      exact a_zretP (Or.inr rfl) O hf dX5_isLost_22
def rmX5_size : Room := { frames := 2, cells := 0, slots := 0, locals := 41 }
def fX5_size (a0 : Int32) (σ : St) : Option Int32 :=
  (fX5_isLost a0 σ).bind (fun z1 => if z1 = 0 then gIn a0 4 (some (σ.2.2 26 a0.toNatClampNeg)) else (some 0))
set_option maxRecDepth 100000 in
theorem ctX5_size {E : ET} (hE : Dj (YC E)) (a0 : Int32) (σ : St) (z : Int32) (hf : fX5_size a0 σ = some z) : Ct (YC E) yX5_size cX5_size 2 (some .int) rmX5_size [.ref (E.2.2.2.2 23), .int a0] σ (some (.int z)) σ := by
  refine Ct.of hE (by decide) (Nat.le_of_ble_eq_true rfl) (fun X O => ?_)
  have O : Ok (YC E) X cX5_size 2 RX5 (some .int) rmX5_size (some (.int z)) σ := O
  show At (YC E) X 2 0 [(0, .ref (E.2.2.2.2 23)), (1, .int a0)] [] σ
  unfold fX5_size at hf
  refine a_aload_n (pc' := 1) O dX5_size_0 rfl 0 rfl rfl ?_
  refine a_iload_n (pc' := 2) O dX5_size_1 rfl 1 rfl rfl ?_
  obtain ⟨z1, h2, hf⟩ := bd_some hf
  refine a_callVI (pc' := 5) (n := 1) (As := [.int a0]) (st := []) (q0 := 23) O (ctX5_isLost hE a0 σ z1 h2) wm_351 wm_339 wm_340 wm_47 wm_341 (by decide +kernel) (by decide) (gC_23 E _) hc_5 rfl rfl rfl (Nat.le_of_ble_eq_true rfl) dX5_size_2 rfl ?_
  refine a_if_eq (pc' := 8) (tgt := 12) O dX5_size_5 (by decide) rfl hf (fun hf => ?_) (fun hf => ?_)
  · refine a_aload_n (pc' := 13) O dX5_size_12 rfl 0 rfl rfl ?_
    refine gfC_23_2 (pc' := 16) O dX5_size_13 rfl ?_
    refine a_iload_n (pc' := 17) O dX5_size_16 rfl 1 rfl rfl ?_
    refine laC_26 (pc' := 18) O hf dX5_size_17 rfl (fun hf => ?_)
    exact a_iretP O hf dX5_size_18
  · refine a_iconst (pc' := 9) (v := 0) O dX5_size_8 (by decide) rfl ?_
    refine a_goto (tgt := 18) O dX5_size_9 (by decide) ?_
    exact a_iretP O hf dX5_size_18
def rmX5_alike : Room := { frames := 1, cells := 0, slots := 0, locals := 20 }
def fX5_alike (a0 : Int32) (a1 : Int32) (σ : St) : Option Int32 :=
  (fX5_exists a0).bind (fun z1 => if z1 = 0 then some 0 else ((fX5_exists a1).bind (fun z3 => if z3 = 0 then some 0 else (gIn a0 4 (gIn a1 4 (if (σ.2.2 25 a0.toNatClampNeg) = (σ.2.2 25 a1.toNatClampNeg) then some 1 else (some 0)))))))
set_option maxRecDepth 100000 in
theorem ctX5_alike {E : ET} (hE : Dj (YC E)) (a0 : Int32) (a1 : Int32) (σ : St) (z : Int32) (hf : fX5_alike a0 a1 σ = some z) : Ct (YC E) yX5_alike cX5_alike 3 (some .boolean) rmX5_alike [.ref (E.2.2.2.2 23), .int a0, .int a1] σ (some (.int z)) σ := by
  refine Ct.of hE (by decide) (Nat.le_of_ble_eq_true rfl) (fun X O => ?_)
  have O : Ok (YC E) X cX5_alike 3 RX5 (some .boolean) rmX5_alike (some (.int z)) σ := O
  show At (YC E) X 3 0 [(0, .ref (E.2.2.2.2 23)), (1, .int a0), (2, .int a1)] [] σ
  unfold fX5_alike at hf
  refine a_iload_n (pc' := 1) O dX5_alike_0 rfl 1 rfl rfl ?_
  obtain ⟨z1, h2, hf⟩ := bd_some hf
  refine a_callSI (pc' := 4) (n := 1) (As := [.int a0]) (st := []) O (ctX5_exists hE a0 σ z1 h2) wm_342 wm_336 wm_47 wm_337 (by decide +kernel) (by decide) rfl rfl (Nat.le_of_ble_eq_true rfl) dX5_alike_1 rfl ?_
  refine a_if_eq (pc' := 7) (tgt := 33) O dX5_alike_4 (by decide) rfl hf (fun hf => ?_) (fun hf => ?_)
  · refine a_iconst (pc' := 34) (v := 0) O dX5_alike_33 (by decide) rfl ?_
    exact a_zretP (Or.inl rfl) O hf dX5_alike_34
  · refine a_iload_n (pc' := 8) O dX5_alike_7 rfl 2 rfl rfl ?_
    obtain ⟨z3, h4, hf⟩ := bd_some hf
    refine a_callSI (pc' := 11) (n := 1) (As := [.int a1]) (st := []) O (ctX5_exists hE a1 σ z3 h4) wm_342 wm_336 wm_47 wm_337 (by decide +kernel) (by decide) rfl rfl (Nat.le_of_ble_eq_true rfl) dX5_alike_8 rfl ?_
    refine a_if_eq (pc' := 14) (tgt := 33) O dX5_alike_11 (by decide) rfl hf (fun hf => ?_) (fun hf => ?_)
    · refine a_iconst (pc' := 34) (v := 0) O dX5_alike_33 (by decide) rfl ?_
      exact a_zretP (Or.inl rfl) O hf dX5_alike_34
    · refine a_aload_n (pc' := 15) O dX5_alike_14 rfl 0 rfl rfl ?_
      refine gfC_23_1 (pc' := 18) O dX5_alike_15 rfl ?_
      refine a_iload_n (pc' := 19) O dX5_alike_18 rfl 1 rfl rfl ?_
      refine laC_25 (pc' := 20) O hf dX5_alike_19 rfl (fun hf => ?_)
      refine a_aload_n (pc' := 21) O dX5_alike_20 rfl 0 rfl rfl ?_
      refine gfC_23_1 (pc' := 24) O dX5_alike_21 rfl ?_
      refine a_iload_n (pc' := 25) O dX5_alike_24 rfl 2 rfl rfl ?_
      refine laC_25 (pc' := 26) O hf dX5_alike_25 rfl (fun hf => ?_)
      refine a_icmp_ne (pc' := 29) (tgt := 33) O dX5_alike_26 (by decide) rfl hf (fun hf => ?_) (fun hf => ?_)
      · refine a_iconst (pc' := 34) (v := 0) O dX5_alike_33 (by decide) rfl ?_
        exact a_zretP (Or.inl rfl) O hf dX5_alike_34
      · refine a_iconst (pc' := 30) (v := 1) O dX5_alike_29 (by decide) rfl ?_
        refine a_goto (tgt := 34) O dX5_alike_30 (by decide) ?_
        exact a_zretP (Or.inr rfl) O hf dX5_alike_34
def rmX5_holds : Room := { frames := 3, cells := 0, slots := 0, locals := 62 }
def fX5_holds (a0 : Int32) (a1 : Int32) (a2 : Int32) (σ : St) : Option Int32 :=
  if a1 < 0 then some 0 else (if a2 < 0 then some 0 else ((fX5_size a0 σ).bind (fun z1 => if (z1.toInt64) < ((a1.toInt64) + (a2.toInt64)) then some 0 else (some 1))))
set_option maxRecDepth 100000 in
theorem ctX5_holds {E : ET} (hE : Dj (YC E)) (a0 : Int32) (a1 : Int32) (a2 : Int32) (σ : St) (z : Int32) (hf : fX5_holds a0 a1 a2 σ = some z) : Ct (YC E) yX5_holds cX5_holds 4 (some .boolean) rmX5_holds [.ref (E.2.2.2.2 23), .int a0, .int a1, .int a2] σ (some (.int z)) σ := by
  refine Ct.of hE (by decide) (Nat.le_of_ble_eq_true rfl) (fun X O => ?_)
  have O : Ok (YC E) X cX5_holds 4 RX5 (some .boolean) rmX5_holds (some (.int z)) σ := O
  show At (YC E) X 4 0 [(0, .ref (E.2.2.2.2 23)), (1, .int a0), (2, .int a1), (3, .int a2)] [] σ
  unfold fX5_holds at hf
  refine a_iload_n (pc' := 1) O dX5_holds_0 rfl 2 rfl rfl ?_
  refine a_if_lt (pc' := 4) (tgt := 27) O dX5_holds_1 (by decide) rfl hf (fun hf => ?_) (fun hf => ?_)
  · refine a_iconst (pc' := 28) (v := 0) O dX5_holds_27 (by decide) rfl ?_
    exact a_zretP (Or.inl rfl) O hf dX5_holds_28
  · refine a_iload_n (pc' := 5) O dX5_holds_4 rfl 3 rfl rfl ?_
    refine a_if_lt (pc' := 8) (tgt := 27) O dX5_holds_5 (by decide) rfl hf (fun hf => ?_) (fun hf => ?_)
    · refine a_iconst (pc' := 28) (v := 0) O dX5_holds_27 (by decide) rfl ?_
      exact a_zretP (Or.inl rfl) O hf dX5_holds_28
    · refine a_iload_n (pc' := 9) O dX5_holds_8 rfl 2 rfl rfl ?_
      refine a_i2l (pc' := 10) O dX5_holds_9 rfl rfl ?_
      refine a_iload_n (pc' := 11) O dX5_holds_10 rfl 3 rfl rfl ?_
      refine a_i2l (pc' := 12) O dX5_holds_11 rfl rfl ?_
      refine a_ladd (pc' := 13) O dX5_holds_12 rfl ?_
      refine a_aload_n (pc' := 14) O dX5_holds_13 rfl 0 rfl rfl ?_
      refine a_iload_n (pc' := 15) O dX5_holds_14 rfl 1 rfl rfl ?_
      obtain ⟨z1, h2, hf⟩ := bd_some hf
      refine a_callVI (pc' := 18) (n := 1) (As := [.int a0]) (st := [.long ((a1.toInt64) + (a2.toInt64))]) (q0 := 23) O (ctX5_size hE a0 σ z1 h2) wm_360 wm_348 wm_349 wm_47 wm_350 (by decide +kernel) (by decide) (gC_23 E _) hc_5 rfl rfl rfl (Nat.le_of_ble_eq_true rfl) dX5_holds_15 rfl ?_
      refine a_i2l (pc' := 19) O dX5_holds_18 rfl rfl ?_
      refine a_lcmp_gt (pc' := 23) (pc1 := 20) (tgt := 27) O dX5_holds_19 rfl dX5_holds_20 (by decide) rfl hf (fun hf => ?_) (fun hf => ?_)
      · refine a_iconst (pc' := 28) (v := 0) O dX5_holds_27 (by decide) rfl ?_
        exact a_zretP (Or.inl rfl) O hf dX5_holds_28
      · refine a_iconst (pc' := 24) (v := 1) O dX5_holds_23 (by decide) rfl ?_
        refine a_goto (tgt := 28) O dX5_holds_24 (by decide) ?_
        exact a_zretP (Or.inr rfl) O hf dX5_holds_28
def rmX5_make : Room := { frames := 1, cells := 0, slots := 0, locals := 20 }
def BX5_make_34 (σ : St) (x1 : Int32) (x2 : Int32) (x3 : Int32) : Option St :=
  gIn x1 4 (bS (sA σ 25 x1.toNatClampNeg x2) (fun σ3 => gIn x1 4 (bS (sA σ3 26 x1.toNatClampNeg x3) (fun σ4 => some σ4))))
set_option maxRecDepth 100000 in
theorem okBX5_make_34 {E : ET} {X : XT} {z : St} (O : Ok (YC E) X cX5_make 5 RX5 none rmX5_make none z) (σ : St) (x1 : Int32) (x2 : Int32) (x3 : Int32) (hf : BX5_make_34 σ x1 x2 x3 = some z) : At (YC E) X 5 34 [(0, .ref (E.2.2.2.2 23)), (1, .int x1), (2, .int x2), (3, .int x3)] [] σ := by
  have hE := O.2.2.2.2.2.2.2.2.2.1
  unfold BX5_make_34 at hf
  refine a_aload_n (pc' := 35) O dX5_make_34 rfl 0 rfl rfl ?_
  refine gfC_23_1 (pc' := 38) O dX5_make_35 rfl ?_
  refine a_iload_n (pc' := 39) O dX5_make_38 rfl 1 rfl rfl ?_
  refine a_iload_n (pc' := 40) O dX5_make_39 rfl 2 rfl rfl ?_
  refine saC_25 (pc' := 41) O hf dX5_make_40 rfl (fun σ3 hf => ?_)
  refine a_aload_n (pc' := 42) O dX5_make_41 rfl 0 rfl rfl ?_
  refine gfC_23_2 (pc' := 45) O dX5_make_42 rfl ?_
  refine a_iload_n (pc' := 46) O dX5_make_45 rfl 1 rfl rfl ?_
  refine a_iload_n (pc' := 47) O dX5_make_46 rfl 3 rfl rfl ?_
  refine saC_26 (pc' := 48) O hf dX5_make_47 rfl (fun σ4 hf => ?_)
  exact a_vret O hf dX5_make_48
def BX5_make_11 (k11 : St → Int32 → Int32 → Int32 → Int32 → Option St) (σ : St) (x1 : Int32) (x2 : Int32) (x3 : Int32) (x4 : Int32) : Option St :=
  if 60 ≤ x4 then BX5_make_34 σ x1 x2 x3 else (gIn x1 4 (gIn x4 60 (bS (sA σ (44 + x1.toNatClampNeg) x4.toNatClampNeg 0) (fun σ6 => bI (x4 + 1) (fun v7 => k11 σ6 x1 x2 x3 v7)))))
set_option maxRecDepth 100000 in
theorem okBX5_make_11 {E : ET} {X : XT} {z : St} (O : Ok (YC E) X cX5_make 5 RX5 none rmX5_make none z) (k11 : St → Int32 → Int32 → Int32 → Int32 → Option St) (hk11 : ∀ (σ : St) (x1 : Int32) (x2 : Int32) (x3 : Int32) (x4 : Int32), k11 σ x1 x2 x3 x4 = some z → At (YC E) X 5 11 [(0, .ref (E.2.2.2.2 23)), (1, .int x1), (2, .int x2), (3, .int x3), (4, .int x4)] [] σ) (σ : St) (x1 : Int32) (x2 : Int32) (x3 : Int32) (x4 : Int32) (hf : BX5_make_11 k11 σ x1 x2 x3 x4 = some z) : At (YC E) X 5 11 [(0, .ref (E.2.2.2.2 23)), (1, .int x1), (2, .int x2), (3, .int x3), (4, .int x4)] [] σ := by
  have hE := O.2.2.2.2.2.2.2.2.2.1
  unfold BX5_make_11 at hf
  refine a_iload (pc' := 13) O dX5_make_11 4 rfl rfl ?_
  refine a_bipush (pc' := 15) (v := 60) O dX5_make_13 (by decide) rfl ?_
  refine a_icmp_ge (pc' := 18) (tgt := 34) O dX5_make_15 (by decide) rfl hf (fun hf => ?_) (fun hf => ?_)
  · exact a_sub [0, 1, 2, 3] rfl (okBX5_make_34 O σ x1 x2 x3 hf)
  · refine a_aload_n (pc' := 19) O dX5_make_18 rfl 0 rfl rfl ?_
    refine gfC_23_0 (pc' := 22) O dX5_make_19 rfl ?_
    refine a_iload_n (pc' := 23) O dX5_make_22 rfl 1 rfl rfl ?_
    refine lo_44 (pc' := 24) O hf dX5_make_23 rfl (fun h5 hf => ?_)
    refine a_iload (pc' := 26) O dX5_make_24 4 rfl rfl ?_
    refine a_iconst (pc' := 27) (v := 0) O dX5_make_26 (by decide) rfl ?_
    refine sw_44 (pc' := 28) O h5 hf dX5_make_27 rfl (fun σ6 hf => ?_)
    refine a_iincB (pc' := 31) (lv' := fun v7 => [(4, .int v7), (0, .ref (E.2.2.2.2 23)), (1, .int x1), (2, .int x2), (3, .int x3)]) (c0 := 1) O dX5_make_28 4 rfl (by decide) (by decide) (fun _ => rfl) rfl hf (fun v7 hf => ?_)
    refine a_goto (tgt := 11) O dX5_make_31 (by decide) ?_
    exact a_sub [1, 2, 3, 4, 0] rfl (hk11 σ6 x1 x2 x3 v7 hf)
def LX5_make_11 : Nat → St → Int32 → Int32 → Int32 → Int32 → Option St
  | 0, _, _, _, _, _ => none
  | n + 1, σ, x1, x2, x3, x4 => BX5_make_11 (LX5_make_11 n) σ x1 x2 x3 x4
theorem okLX5_make_11 {E : ET} {X : XT} {z : St} (O : Ok (YC E) X cX5_make 5 RX5 none rmX5_make none z) : ∀ (n : Nat) (σ : St) (x1 : Int32) (x2 : Int32) (x3 : Int32) (x4 : Int32), LX5_make_11 n σ x1 x2 x3 x4 = some z → At (YC E) X 5 11 [(0, .ref (E.2.2.2.2 23)), (1, .int x1), (2, .int x2), (3, .int x3), (4, .int x4)] [] σ := by
  intro n
  induction n with
  | zero =>
    intro σ x1 x2 x3 x4 hf
    rw [LX5_make_11] at hf
    cases hf
  | succ n ih =>
    intro σ x1 x2 x3 x4 hf
    rw [LX5_make_11] at hf
    exact okBX5_make_11 O (LX5_make_11 n) ih σ x1 x2 x3 x4 hf
def fX5_make (a0 : Int32) (a1 : Int32) (a2 : Int32) (σ : St) : Option St :=
  (fX5_exists a0).bind (fun z1 => if z1 = 0 then some σ else (LX5_make_11 fu σ a0 a1 a2 0))
set_option maxRecDepth 100000 in
theorem ctX5_make {E : ET} (hE : Dj (YC E)) (a0 : Int32) (a1 : Int32) (a2 : Int32) (σ : St) (z : St) (hf : fX5_make a0 a1 a2 σ = some z) : Ct (YC E) yX5_make cX5_make 5 none rmX5_make [.ref (E.2.2.2.2 23), .int a0, .int a1, .int a2] σ none z := by
  refine Ct.of hE (by decide) (Nat.le_of_ble_eq_true rfl) (fun X O => ?_)
  have O : Ok (YC E) X cX5_make 5 RX5 none rmX5_make none z := O
  show At (YC E) X 5 0 [(0, .ref (E.2.2.2.2 23)), (1, .int a0), (2, .int a1), (3, .int a2)] [] σ
  unfold fX5_make at hf
  refine a_iload_n (pc' := 1) O dX5_make_0 rfl 1 rfl rfl ?_
  obtain ⟨z1, h2, hf⟩ := bd_some hf
  refine a_callSI (pc' := 4) (n := 1) (As := [.int a0]) (st := []) O (ctX5_exists hE a0 σ z1 h2) wm_342 wm_336 wm_47 wm_337 (by decide +kernel) (by decide) rfl rfl (Nat.le_of_ble_eq_true rfl) dX5_make_1 rfl ?_
  refine a_if_ne (pc' := 7) (tgt := 8) O dX5_make_4 (by decide) rfl hf (fun hf => ?_) (fun hf => ?_)
  · refine a_iconst (pc' := 9) (v := 0) O dX5_make_8 (by decide) rfl ?_
    refine a_istore (pc' := 11) (lv' := [(4, .int 0), (0, .ref (E.2.2.2.2 23)), (1, .int a0), (2, .int a1), (3, .int a2)]) O dX5_make_9 (by decide) rfl rfl ?_
    exact a_sub [1, 2, 3, 4, 0] rfl (okLX5_make_11 O fu σ a0 a1 a2 0 hf)
  · exact a_vret O hf dX5_make_7
def rmX5_drop : Room := { frames := 1, cells := 0, slots := 0, locals := 20 }
def fX5_drop (a0 : Int32) (σ : St) : Option St :=
  (fX5_exists a0).bind (fun z1 => if z1 = 0 then some σ else (gIn a0 4 (bS (sA σ 26 a0.toNatClampNeg (-1)) (fun σ3 => some σ3))))
set_option maxRecDepth 100000 in
theorem ctX5_drop {E : ET} (hE : Dj (YC E)) (a0 : Int32) (σ : St) (z : St) (hf : fX5_drop a0 σ = some z) : Ct (YC E) yX5_drop cX5_drop 2 none rmX5_drop [.ref (E.2.2.2.2 23), .int a0] σ none z := by
  refine Ct.of hE (by decide) (Nat.le_of_ble_eq_true rfl) (fun X O => ?_)
  have O : Ok (YC E) X cX5_drop 2 RX5 none rmX5_drop none z := O
  show At (YC E) X 2 0 [(0, .ref (E.2.2.2.2 23)), (1, .int a0)] [] σ
  unfold fX5_drop at hf
  refine a_iload_n (pc' := 1) O dX5_drop_0 rfl 1 rfl rfl ?_
  obtain ⟨z1, h2, hf⟩ := bd_some hf
  refine a_callSI (pc' := 4) (n := 1) (As := [.int a0]) (st := []) O (ctX5_exists hE a0 σ z1 h2) wm_342 wm_336 wm_47 wm_337 (by decide +kernel) (by decide) rfl rfl (Nat.le_of_ble_eq_true rfl) dX5_drop_1 rfl ?_
  refine a_if_eq (pc' := 7) (tgt := 14) O dX5_drop_4 (by decide) rfl hf (fun hf => ?_) (fun hf => ?_)
  · exact a_vret O hf dX5_drop_14
  · refine a_aload_n (pc' := 8) O dX5_drop_7 rfl 0 rfl rfl ?_
    refine gfC_23_2 (pc' := 11) O dX5_drop_8 rfl ?_
    refine a_iload_n (pc' := 12) O dX5_drop_11 rfl 1 rfl rfl ?_
    refine a_iconst (pc' := 13) (v := (-1)) O dX5_drop_12 (by decide) rfl ?_
    refine saC_26 (pc' := 14) O hf dX5_drop_13 rfl (fun σ3 hf => ?_)
    exact a_vret O hf dX5_drop_14
def rmX5_look : Room := { frames := 4, cells := 0, slots := 0, locals := 85 }
def fX5_look (a0 : Int32) (a1 : Int32) (a2 : Int32) (σ : St) : Option (Int32 × St) :=
  (fX5_exists a0).bind (fun z1 => if z1 = 0 then some ((-2), σ) else ((fX5_isForm a1).bind (fun z3 => if z3 = 0 then some ((-2), σ) else ((fX5_isLost a0 σ).bind (fun z5 => if z5 = 0 then gIn a0 4 (if (σ.2.2 25 a0.toNatClampNeg) = a1 then (fX5_holds a0 a2 1 σ).bind (fun z7 => if z7 = 0 then (fX5_found 2 σ).bind (fun z9 => some (z9.1, z9.2)) else (some (0, σ))) else ((fX5_found 3 σ).bind (fun z11 => some (z11.1, z11.2)))) else ((fX5_found 1 σ).bind (fun z13 => some (z13.1, z13.2))))))))
set_option maxRecDepth 100000 in
theorem ctX5_look {E : ET} (hE : Dj (YC E)) (a0 : Int32) (a1 : Int32) (a2 : Int32) (σ : St) (z : Int32 × St) (hf : fX5_look a0 a1 a2 σ = some z) : Ct (YC E) yX5_look cX5_look 4 (some .int) rmX5_look [.ref (E.2.2.2.2 23), .int a0, .int a1, .int a2] σ (some (.int z.1)) z.2 := by
  refine Ct.of hE (by decide) (Nat.le_of_ble_eq_true rfl) (fun X O => ?_)
  have O : Ok (YC E) X cX5_look 4 RX5 (some .int) rmX5_look (some (.int z.1)) z.2 := O
  show At (YC E) X 4 0 [(0, .ref (E.2.2.2.2 23)), (1, .int a0), (2, .int a1), (3, .int a2)] [] σ
  unfold fX5_look at hf
  refine a_iload_n (pc' := 1) O dX5_look_0 rfl 1 rfl rfl ?_
  obtain ⟨z1, h2, hf⟩ := bd_some hf
  refine a_callSI (pc' := 4) (n := 1) (As := [.int a0]) (st := []) O (ctX5_exists hE a0 σ z1 h2) wm_342 wm_336 wm_47 wm_337 (by decide +kernel) (by decide) rfl rfl (Nat.le_of_ble_eq_true rfl) dX5_look_1 rfl ?_
  refine a_if_eq (pc' := 7) (tgt := 14) O dX5_look_4 (by decide) rfl hf (fun hf => ?_) (fun hf => ?_)
  · refine a_bipush (pc' := 16) (v := (-2)) O dX5_look_14 (by decide) rfl ?_
    exact a_iret O hf dX5_look_16
  · refine a_iload_n (pc' := 8) O dX5_look_7 rfl 2 rfl rfl ?_
    obtain ⟨z3, h4, hf⟩ := bd_some hf
    refine a_callSI (pc' := 11) (n := 1) (As := [.int a1]) (st := []) O (ctX5_isForm hE a1 σ z3 h4) wm_889 wm_859 wm_47 wm_860 (by decide +kernel) (by decide) rfl rfl (Nat.le_of_ble_eq_true rfl) dX5_look_8 rfl ?_
    refine a_if_ne (pc' := 14) (tgt := 17) O dX5_look_11 (by decide) rfl hf (fun hf => ?_) (fun hf => ?_)
    · refine a_aload_n (pc' := 18) O dX5_look_17 rfl 0 rfl rfl ?_
      refine a_iload_n (pc' := 19) O dX5_look_18 rfl 1 rfl rfl ?_
      obtain ⟨z5, h6, hf⟩ := bd_some hf
      refine a_callVI (pc' := 22) (n := 1) (As := [.int a0]) (st := []) (q0 := 23) O (ctX5_isLost hE a0 σ z5 h6) wm_351 wm_339 wm_340 wm_47 wm_341 (by decide +kernel) (by decide) (gC_23 E _) hc_5 rfl rfl rfl (Nat.le_of_ble_eq_true rfl) dX5_look_19 rfl ?_
      refine a_if_eq (pc' := 25) (tgt := 31) O dX5_look_22 (by decide) rfl hf (fun hf => ?_) (fun hf => ?_)
      · refine a_aload_n (pc' := 32) O dX5_look_31 rfl 0 rfl rfl ?_
        refine gfC_23_1 (pc' := 35) O dX5_look_32 rfl ?_
        refine a_iload_n (pc' := 36) O dX5_look_35 rfl 1 rfl rfl ?_
        refine laC_25 (pc' := 37) O hf dX5_look_36 rfl (fun hf => ?_)
        refine a_iload_n (pc' := 38) O dX5_look_37 rfl 2 rfl rfl ?_
        refine a_icmp_eq (pc' := 41) (tgt := 47) O dX5_look_38 (by decide) rfl hf (fun hf => ?_) (fun hf => ?_)
        · refine a_aload_n (pc' := 48) O dX5_look_47 rfl 0 rfl rfl ?_
          refine a_iload_n (pc' := 49) O dX5_look_48 rfl 1 rfl rfl ?_
          refine a_iload_n (pc' := 50) O dX5_look_49 rfl 3 rfl rfl ?_
          refine a_iconst (pc' := 51) (v := 1) O dX5_look_50 (by decide) rfl ?_
          obtain ⟨z7, h8, hf⟩ := bd_some hf
          refine a_callVI (pc' := 54) (n := 3) (As := [.int a0, .int a2, .int 1]) (st := []) (q0 := 23) O (ctX5_holds hE a0 a2 1 σ z7 h8) wm_356 wm_357 wm_358 wm_47 wm_359 (by decide +kernel) (by decide) (gC_23 E _) hc_5 rfl rfl rfl (Nat.le_of_ble_eq_true rfl) dX5_look_51 rfl ?_
          refine a_if_eq (pc' := 57) (tgt := 61) O dX5_look_54 (by decide) rfl hf (fun hf => ?_) (fun hf => ?_)
          · refine a_aload_n (pc' := 62) O dX5_look_61 rfl 0 rfl rfl ?_
            refine a_iconst (pc' := 63) (v := 2) O dX5_look_62 (by decide) rfl ?_
            obtain ⟨z9, h10, hf⟩ := bd_some hf
            refine a_callVI (pc' := 66) (n := 1) (As := [.int 2]) (st := []) (q0 := 23) O (ctX5_found hE 2 σ z9 h10) wm_890 wm_344 wm_345 wm_47 wm_346 (by decide +kernel) (by decide) (gC_23 E _) hc_5 rfl rfl rfl (Nat.le_of_ble_eq_true rfl) dX5_look_63 rfl ?_
            exact a_iret O hf dX5_look_66
          · refine a_iconst (pc' := 58) (v := 0) O dX5_look_57 (by decide) rfl ?_
            refine a_goto (tgt := 66) O dX5_look_58 (by decide) ?_
            exact a_iret O hf dX5_look_66
        · refine a_aload_n (pc' := 42) O dX5_look_41 rfl 0 rfl rfl ?_
          refine a_iconst (pc' := 43) (v := 3) O dX5_look_42 (by decide) rfl ?_
          obtain ⟨z11, h12, hf⟩ := bd_some hf
          refine a_callVI (pc' := 46) (n := 1) (As := [.int 3]) (st := []) (q0 := 23) O (ctX5_found hE 3 σ z11 h12) wm_890 wm_344 wm_345 wm_47 wm_346 (by decide +kernel) (by decide) (gC_23 E _) hc_5 rfl rfl rfl (Nat.le_of_ble_eq_true rfl) dX5_look_43 rfl ?_
          exact a_iret O hf dX5_look_46
      · refine a_aload_n (pc' := 26) O dX5_look_25 rfl 0 rfl rfl ?_
        refine a_iconst (pc' := 27) (v := 1) O dX5_look_26 (by decide) rfl ?_
        obtain ⟨z13, h14, hf⟩ := bd_some hf
        refine a_callVI (pc' := 30) (n := 1) (As := [.int 1]) (st := []) (q0 := 23) O (ctX5_found hE 1 σ z13 h14) wm_890 wm_344 wm_345 wm_47 wm_346 (by decide +kernel) (by decide) (gC_23 E _) hc_5 rfl rfl rfl (Nat.le_of_ble_eq_true rfl) dX5_look_27 rfl ?_
        exact a_iret O hf dX5_look_30
    · refine a_bipush (pc' := 16) (v := (-2)) O dX5_look_14 (by decide) rfl ?_
      exact a_iret O hf dX5_look_16
def rmX5_item : Room := { frames := 4, cells := 0, slots := 0, locals := 85 }
def fX5_item (a0 : Int32) (a1 : Int32) (σ : St) : Option Int32 :=
  (fX5_holds a0 a1 1 σ).bind (fun z1 => if z1 = 0 then some 0 else (gIn a0 4 (gIn a1 60 (some (σ.2.2 (44 + a0.toNatClampNeg) a1.toNatClampNeg)))))
set_option maxRecDepth 100000 in
theorem ctX5_item {E : ET} (hE : Dj (YC E)) (a0 : Int32) (a1 : Int32) (σ : St) (z : Int32) (hf : fX5_item a0 a1 σ = some z) : Ct (YC E) yX5_item cX5_item 3 (some .int) rmX5_item [.ref (E.2.2.2.2 23), .int a0, .int a1] σ (some (.int z)) σ := by
  refine Ct.of hE (by decide) (Nat.le_of_ble_eq_true rfl) (fun X O => ?_)
  have O : Ok (YC E) X cX5_item 3 RX5 (some .int) rmX5_item (some (.int z)) σ := O
  show At (YC E) X 3 0 [(0, .ref (E.2.2.2.2 23)), (1, .int a0), (2, .int a1)] [] σ
  unfold fX5_item at hf
  refine a_aload_n (pc' := 1) O dX5_item_0 rfl 0 rfl rfl ?_
  refine a_iload_n (pc' := 2) O dX5_item_1 rfl 1 rfl rfl ?_
  refine a_iload_n (pc' := 3) O dX5_item_2 rfl 2 rfl rfl ?_
  refine a_iconst (pc' := 4) (v := 1) O dX5_item_3 (by decide) rfl ?_
  obtain ⟨z1, h2, hf⟩ := bd_some hf
  refine a_callVI (pc' := 7) (n := 3) (As := [.int a0, .int a1, .int 1]) (st := []) (q0 := 23) O (ctX5_holds hE a0 a1 1 σ z1 h2) wm_356 wm_357 wm_358 wm_47 wm_359 (by decide +kernel) (by decide) (gC_23 E _) hc_5 rfl rfl rfl (Nat.le_of_ble_eq_true rfl) dX5_item_4 rfl ?_
  refine a_if_eq (pc' := 10) (tgt := 21) O dX5_item_7 (by decide) rfl hf (fun hf => ?_) (fun hf => ?_)
  · refine a_iconst (pc' := 22) (v := 0) O dX5_item_21 (by decide) rfl ?_
    exact a_iretP O hf dX5_item_22
  · refine a_aload_n (pc' := 11) O dX5_item_10 rfl 0 rfl rfl ?_
    refine gfC_23_0 (pc' := 14) O dX5_item_11 rfl ?_
    refine a_iload_n (pc' := 15) O dX5_item_14 rfl 1 rfl rfl ?_
    refine lo_44 (pc' := 16) O hf dX5_item_15 rfl (fun h3 hf => ?_)
    refine a_iload_n (pc' := 17) O dX5_item_16 rfl 2 rfl rfl ?_
    refine lr_44 (pc' := 18) O h3 hf dX5_item_17 rfl (fun hf => ?_)
    refine a_goto (tgt := 22) O dX5_item_18 (by decide) ?_
    exact a_iretP O hf dX5_item_22
def rmX5_cut : Room := { frames := 0, cells := 0, slots := 0, locals := 0 }
def fX5_cut (a0 : Int32) (a1 : Int32) : Option Int32 :=
  if a0 = 0 then some (a1.toInt8.toInt32) else (if a0 = 1 then some (a1.toInt16.toInt32) else (some a1))
set_option maxRecDepth 100000 in
theorem ctX5_cut {E : ET} (hE : Dj (YC E)) (a0 : Int32) (a1 : Int32) (σ : St) (z : Int32) (hf : fX5_cut a0 a1 = some z) : Ct (YC E) yX5_cut cX5_cut 2 (some .int) rmX5_cut [.int a0, .int a1] σ (some (.int z)) σ := by
  refine Ct.of hE (by decide) (Nat.le_of_ble_eq_true rfl) (fun X O => ?_)
  have O : Ok (YC E) X cX5_cut 2 RX5 (some .int) rmX5_cut (some (.int z)) σ := O
  show At (YC E) X 2 0 [(0, .int a0), (1, .int a1)] [] σ
  unfold fX5_cut at hf
  refine a_iload_n (pc' := 1) O dX5_cut_0 rfl 0 rfl rfl ?_
  refine a_if_ne (pc' := 4) (tgt := 7) O dX5_cut_1 (by decide) rfl hf (fun hf => ?_) (fun hf => ?_)
  · refine a_iload_n (pc' := 8) O dX5_cut_7 rfl 0 rfl rfl ?_
    refine a_iconst (pc' := 9) (v := 1) O dX5_cut_8 (by decide) rfl ?_
    refine a_icmp_ne (pc' := 12) (tgt := 17) O dX5_cut_9 (by decide) rfl hf (fun hf => ?_) (fun hf => ?_)
    · refine a_iload_n (pc' := 18) O dX5_cut_17 rfl 1 rfl rfl ?_
      exact a_iretP O hf dX5_cut_18
    · refine a_iload_n (pc' := 13) O dX5_cut_12 rfl 1 rfl rfl ?_
      refine a_i2s (pc' := 14) O dX5_cut_13 rfl rfl ?_
      refine a_goto (tgt := 18) O dX5_cut_14 (by decide) ?_
      exact a_iretP O hf dX5_cut_18
  · refine a_iload_n (pc' := 5) O dX5_cut_4 rfl 1 rfl rfl ?_
    refine a_i2b (pc' := 6) O dX5_cut_5 rfl rfl ?_
    exact a_iretP O hf dX5_cut_6
def rmX5_put : Room := { frames := 4, cells := 0, slots := 0, locals := 85 }
def fX5_put (a0 : Int32) (a1 : Int32) (a2 : Int32) (σ : St) : Option St :=
  (fX5_holds a0 a1 1 σ).bind (fun z1 => if z1 = 0 then some σ else (gIn a0 4 (gIn a0 4 ((fX5_cut (σ.2.2 25 a0.toNatClampNeg) a2).bind (fun z4 => gIn a1 60 (bS (sA σ (44 + a0.toNatClampNeg) a1.toNatClampNeg z4) (fun σ6 => some σ6)))))))
set_option maxRecDepth 100000 in
theorem ctX5_put {E : ET} (hE : Dj (YC E)) (a0 : Int32) (a1 : Int32) (a2 : Int32) (σ : St) (z : St) (hf : fX5_put a0 a1 a2 σ = some z) : Ct (YC E) yX5_put cX5_put 4 none rmX5_put [.ref (E.2.2.2.2 23), .int a0, .int a1, .int a2] σ none z := by
  refine Ct.of hE (by decide) (Nat.le_of_ble_eq_true rfl) (fun X O => ?_)
  have O : Ok (YC E) X cX5_put 4 RX5 none rmX5_put none z := O
  show At (YC E) X 4 0 [(0, .ref (E.2.2.2.2 23)), (1, .int a0), (2, .int a1), (3, .int a2)] [] σ
  unfold fX5_put at hf
  refine a_aload_n (pc' := 1) O dX5_put_0 rfl 0 rfl rfl ?_
  refine a_iload_n (pc' := 2) O dX5_put_1 rfl 1 rfl rfl ?_
  refine a_iload_n (pc' := 3) O dX5_put_2 rfl 2 rfl rfl ?_
  refine a_iconst (pc' := 4) (v := 1) O dX5_put_3 (by decide) rfl ?_
  obtain ⟨z1, h2, hf⟩ := bd_some hf
  refine a_callVI (pc' := 7) (n := 3) (As := [.int a0, .int a1, .int 1]) (st := []) (q0 := 23) O (ctX5_holds hE a0 a1 1 σ z1 h2) wm_356 wm_357 wm_358 wm_47 wm_359 (by decide +kernel) (by decide) (gC_23 E _) hc_5 rfl rfl rfl (Nat.le_of_ble_eq_true rfl) dX5_put_4 rfl ?_
  refine a_if_eq (pc' := 10) (tgt := 28) O dX5_put_7 (by decide) rfl hf (fun hf => ?_) (fun hf => ?_)
  · exact a_vret O hf dX5_put_28
  · refine a_aload_n (pc' := 11) O dX5_put_10 rfl 0 rfl rfl ?_
    refine gfC_23_0 (pc' := 14) O dX5_put_11 rfl ?_
    refine a_iload_n (pc' := 15) O dX5_put_14 rfl 1 rfl rfl ?_
    refine lo_44 (pc' := 16) O hf dX5_put_15 rfl (fun h3 hf => ?_)
    refine a_iload_n (pc' := 17) O dX5_put_16 rfl 2 rfl rfl ?_
    refine a_aload_n (pc' := 18) O dX5_put_17 rfl 0 rfl rfl ?_
    refine gfC_23_1 (pc' := 21) O dX5_put_18 rfl ?_
    refine a_iload_n (pc' := 22) O dX5_put_21 rfl 1 rfl rfl ?_
    refine laC_25 (pc' := 23) O hf dX5_put_22 rfl (fun hf => ?_)
    refine a_iload_n (pc' := 24) O dX5_put_23 rfl 3 rfl rfl ?_
    obtain ⟨z4, h5, hf⟩ := bd_some hf
    refine a_callSI (pc' := 27) (n := 2) (As := [.int (σ.2.2 25 a0.toNatClampNeg), .int a2]) (st := [.int a1, .ref (E.2.2.2.2 (44 + a0.toNatClampNeg))]) O (ctX5_cut hE (σ.2.2 25 a0.toNatClampNeg) a2 σ z4 h5) wm_895 wm_896 wm_47 wm_897 (by decide +kernel) (by decide) rfl rfl (Nat.le_of_ble_eq_true rfl) dX5_put_24 rfl ?_
    refine sw_44 (pc' := 28) O h3 hf dX5_put_27 rfl (fun σ6 hf => ?_)
    exact a_vret O hf dX5_put_28
def rmX5_move : Room := { frames := 4, cells := 0, slots := 0, locals := 85 }
def fX5_move (a0 : Int32) (a1 : Int32) (a2 : Int32) (a3 : Int32) (a4 : Int32) (σ : St) : Option St :=
  (fX5_holds a0 a1 a4 σ).bind (fun z1 => if z1 = 0 then some σ else ((fX5_holds a2 a3 a4 σ).bind (fun z3 => if z3 = 0 then some σ else (gIn a0 4 (gIn a2 4 (gCp a1 a3 a4 60 60 (bS (sR σ (44 + a2.toNatClampNeg) (va_cpy (σ.2.2 (44 + a0.toNatClampNeg)) (σ.2.2 (44 + a2.toNatClampNeg)) a1.toNatClampNeg a3.toNatClampNeg a4.toNatClampNeg)) (fun σ7 => some σ7))))))))
set_option maxRecDepth 100000 in
theorem ctX5_move {E : ET} (hE : Dj (YC E)) (a0 : Int32) (a1 : Int32) (a2 : Int32) (a3 : Int32) (a4 : Int32) (σ : St) (z : St) (hf : fX5_move a0 a1 a2 a3 a4 σ = some z) : Ct (YC E) yX5_move cX5_move 6 none rmX5_move [.ref (E.2.2.2.2 23), .int a0, .int a1, .int a2, .int a3, .int a4] σ none z := by
  refine Ct.of hE (by decide) (Nat.le_of_ble_eq_true rfl) (fun X O => ?_)
  have O : Ok (YC E) X cX5_move 6 RX5 none rmX5_move none z := O
  show At (YC E) X 6 0 [(0, .ref (E.2.2.2.2 23)), (1, .int a0), (2, .int a1), (3, .int a2), (4, .int a3), (5, .int a4)] [] σ
  unfold fX5_move at hf
  refine a_aload_n (pc' := 1) O dX5_move_0 rfl 0 rfl rfl ?_
  refine a_iload_n (pc' := 2) O dX5_move_1 rfl 1 rfl rfl ?_
  refine a_iload_n (pc' := 3) O dX5_move_2 rfl 2 rfl rfl ?_
  refine a_iload (pc' := 5) O dX5_move_3 5 rfl rfl ?_
  obtain ⟨z1, h2, hf⟩ := bd_some hf
  refine a_callVI (pc' := 8) (n := 3) (As := [.int a0, .int a1, .int a4]) (st := []) (q0 := 23) O (ctX5_holds hE a0 a1 a4 σ z1 h2) wm_356 wm_357 wm_358 wm_47 wm_359 (by decide +kernel) (by decide) (gC_23 E _) hc_5 rfl rfl rfl (Nat.le_of_ble_eq_true rfl) dX5_move_5 rfl ?_
  refine a_if_eq (pc' := 11) (tgt := 43) O dX5_move_8 (by decide) rfl hf (fun hf => ?_) (fun hf => ?_)
  · exact a_vret O hf dX5_move_43
  · refine a_aload_n (pc' := 12) O dX5_move_11 rfl 0 rfl rfl ?_
    refine a_iload_n (pc' := 13) O dX5_move_12 rfl 3 rfl rfl ?_
    refine a_iload (pc' := 15) O dX5_move_13 4 rfl rfl ?_
    refine a_iload (pc' := 17) O dX5_move_15 5 rfl rfl ?_
    obtain ⟨z3, h4, hf⟩ := bd_some hf
    refine a_callVI (pc' := 20) (n := 3) (As := [.int a2, .int a3, .int a4]) (st := []) (q0 := 23) O (ctX5_holds hE a2 a3 a4 σ z3 h4) wm_356 wm_357 wm_358 wm_47 wm_359 (by decide +kernel) (by decide) (gC_23 E _) hc_5 rfl rfl rfl (Nat.le_of_ble_eq_true rfl) dX5_move_17 rfl ?_
    refine a_if_eq (pc' := 23) (tgt := 43) O dX5_move_20 (by decide) rfl hf (fun hf => ?_) (fun hf => ?_)
    · exact a_vret O hf dX5_move_43
    · refine a_aload_n (pc' := 24) O dX5_move_23 rfl 0 rfl rfl ?_
      refine gfC_23_0 (pc' := 27) O dX5_move_24 rfl ?_
      refine a_iload_n (pc' := 28) O dX5_move_27 rfl 1 rfl rfl ?_
      refine lo_44 (pc' := 29) O hf dX5_move_28 rfl (fun h5 hf => ?_)
      refine a_iload_n (pc' := 30) O dX5_move_29 rfl 2 rfl rfl ?_
      refine a_aload_n (pc' := 31) O dX5_move_30 rfl 0 rfl rfl ?_
      refine gfC_23_0 (pc' := 34) O dX5_move_31 rfl ?_
      refine a_iload_n (pc' := 35) O dX5_move_34 rfl 3 rfl rfl ?_
      refine lo_44 (pc' := 36) O hf dX5_move_35 rfl (fun h6 hf => ?_)
      refine a_iload (pc' := 38) O dX5_move_36 4 rfl rfl ?_
      refine a_iload (pc' := 40) O dX5_move_38 5 rfl rfl ?_
      refine a_cp (pc' := 43) O h5 h6 (by decide) (by decide) (Nat.le_of_ble_eq_true rfl) hf dX5_move_40 rfl (fun σ7 hf => ?_)
      exact a_vret O hf dX5_move_43
def rmX6_size : Room := { frames := 0, cells := 0, slots := 0, locals := 0 }
def fX6_size (σ : St) : Option Int32 :=
  some (σ.1 14)
set_option maxRecDepth 100000 in
theorem ctX6_size {E : ET} (hE : Dj (YC E)) (σ : St) (z : Int32) (hf : fX6_size σ = some z) : Ct (YC E) yX6_size cX6_size 1 (some .int) rmX6_size [.ref (E.2.2.2.2 14)] σ (some (.int z)) σ := by
  refine Ct.of hE (by decide) (Nat.le_of_ble_eq_true rfl) (fun X O => ?_)
  have O : Ok (YC E) X cX6_size 1 RX6 (some .int) rmX6_size (some (.int z)) σ := O
  show At (YC E) X 1 0 [(0, .ref (E.2.2.2.2 14))] [] σ
  unfold fX6_size at hf
  refine a_aload_n (pc' := 1) O dX6_size_0 rfl 0 rfl rfl ?_
  refine gfC_14_3 (pc' := 4) O dX6_size_1 rfl ?_
  exact a_iretP O hf dX6_size_4
def rmX6_allChances : Room := { frames := 0, cells := 0, slots := 0, locals := 0 }
def BX6_allChances_4 (k4 : Int32 → Int32 → Option Int32) (σ : St) (x1 : Int32) (x2 : Int32) : Option Int32 :=
  if (σ.1 14) ≤ x2 then some x1 else (gIn x2 6 (bI (x1 + (σ.2.2 15 x2.toNatClampNeg)) (fun v1 => bI (x2 + 1) (fun v2 => k4 v1 v2))))
set_option maxRecDepth 100000 in
theorem okBX6_allChances_4 {E : ET} {X : XT} {z : Int32} {σ : St} (O : Ok (YC E) X cX6_allChances 3 RX6 (some .int) rmX6_allChances (some (.int z)) σ) (k4 : Int32 → Int32 → Option Int32) (hk4 : ∀ (x1 : Int32) (x2 : Int32), k4 x1 x2 = some z → At (YC E) X 3 4 [(0, .ref (E.2.2.2.2 14)), (1, .int x1), (2, .int x2)] [] σ) (x1 : Int32) (x2 : Int32) (hf : BX6_allChances_4 k4 σ x1 x2 = some z) : At (YC E) X 3 4 [(0, .ref (E.2.2.2.2 14)), (1, .int x1), (2, .int x2)] [] σ := by
  have hE := O.2.2.2.2.2.2.2.2.2.1
  unfold BX6_allChances_4 at hf
  refine a_iload_n (pc' := 5) O dX6_allChances_4 rfl 2 rfl rfl ?_
  refine a_aload_n (pc' := 6) O dX6_allChances_5 rfl 0 rfl rfl ?_
  refine gfC_14_3 (pc' := 9) O dX6_allChances_6 rfl ?_
  refine a_icmp_ge (pc' := 12) (tgt := 27) O dX6_allChances_9 (by decide) rfl hf (fun hf => ?_) (fun hf => ?_)
  · refine a_iload_n (pc' := 28) O dX6_allChances_27 rfl 1 rfl rfl ?_
    exact a_iretP O hf dX6_allChances_28
  · refine a_iload_n (pc' := 13) O dX6_allChances_12 rfl 1 rfl rfl ?_
    refine a_aload_n (pc' := 14) O dX6_allChances_13 rfl 0 rfl rfl ?_
    refine gfC_14_0 (pc' := 17) O dX6_allChances_14 rfl ?_
    refine a_iload_n (pc' := 18) O dX6_allChances_17 rfl 2 rfl rfl ?_
    refine laC_15 (pc' := 19) O hf dX6_allChances_18 rfl (fun hf => ?_)
    refine a_iadd (pc' := 20) O dX6_allChances_19 rfl ?_
    refine a_topi hf (fun v1 hf => ?_)
    refine a_istore_n (pc' := 21) (lv' := [(1, .int v1), (0, .ref (E.2.2.2.2 14)), (2, .int x2)]) O dX6_allChances_20 rfl (by decide) rfl rfl ?_
    refine a_iincB (pc' := 24) (lv' := fun v2 => [(2, .int v2), (1, .int v1), (0, .ref (E.2.2.2.2 14))]) (c0 := 1) O dX6_allChances_21 2 rfl (by decide) (by decide) (fun _ => rfl) rfl hf (fun v2 hf => ?_)
    refine a_goto (tgt := 4) O dX6_allChances_24 (by decide) ?_
    exact a_sub [2, 1, 0] rfl (hk4 v1 v2 hf)
def LX6_allChances_4 (σ : St) : Nat → Int32 → Int32 → Option Int32
  | 0, _, _ => none
  | n + 1, x1, x2 => BX6_allChances_4 (LX6_allChances_4 σ n) σ x1 x2
theorem okLX6_allChances_4 {E : ET} {X : XT} {z : Int32} {σ : St} (O : Ok (YC E) X cX6_allChances 3 RX6 (some .int) rmX6_allChances (some (.int z)) σ) : ∀ (n : Nat) (x1 : Int32) (x2 : Int32), LX6_allChances_4 σ n x1 x2 = some z → At (YC E) X 3 4 [(0, .ref (E.2.2.2.2 14)), (1, .int x1), (2, .int x2)] [] σ := by
  intro n
  induction n with
  | zero =>
    intro x1 x2 hf
    rw [LX6_allChances_4] at hf
    cases hf
  | succ n ih =>
    intro x1 x2 hf
    rw [LX6_allChances_4] at hf
    exact okBX6_allChances_4 O (LX6_allChances_4 σ n) ih x1 x2 hf
def fX6_allChances (σ : St) : Option Int32 :=
  LX6_allChances_4 σ fu 0 0
set_option maxRecDepth 100000 in
theorem ctX6_allChances {E : ET} (hE : Dj (YC E)) (σ : St) (z : Int32) (hf : fX6_allChances σ = some z) : Ct (YC E) yX6_allChances cX6_allChances 3 (some .int) rmX6_allChances [.ref (E.2.2.2.2 14)] σ (some (.int z)) σ := by
  refine Ct.of hE (by decide) (Nat.le_of_ble_eq_true rfl) (fun X O => ?_)
  have O : Ok (YC E) X cX6_allChances 3 RX6 (some .int) rmX6_allChances (some (.int z)) σ := O
  show At (YC E) X 3 0 [(0, .ref (E.2.2.2.2 14))] [] σ
  unfold fX6_allChances at hf
  refine a_iconst (pc' := 1) (v := 0) O dX6_allChances_0 (by decide) rfl ?_
  refine a_istore_n (pc' := 2) (lv' := [(1, .int 0), (0, .ref (E.2.2.2.2 14))]) O dX6_allChances_1 rfl (by decide) rfl rfl ?_
  refine a_iconst (pc' := 3) (v := 0) O dX6_allChances_2 (by decide) rfl ?_
  refine a_istore_n (pc' := 4) (lv' := [(2, .int 0), (1, .int 0), (0, .ref (E.2.2.2.2 14))]) O dX6_allChances_3 rfl (by decide) rfl rfl ?_
  exact a_sub [2, 1, 0] rfl (okLX6_allChances_4 O fu 0 0 hf)
def rmX6_isBetter : Room := { frames := 0, cells := 0, slots := 0, locals := 0 }
def fX6_isBetter (a0 : Int32) (a1 : Int32) (σ : St) : Option Int32 :=
  gIn a0 6 (gIn a1 6 (gIn a1 6 (gIn a0 6 (if ((σ.2.2 15 a0.toNatClampNeg) * (σ.2.2 16 a1.toNatClampNeg)) ≤ ((σ.2.2 15 a1.toNatClampNeg) * (σ.2.2 16 a0.toNatClampNeg)) then some 0 else (some 1)))))
set_option maxRecDepth 100000 in
theorem ctX6_isBetter {E : ET} (hE : Dj (YC E)) (a0 : Int32) (a1 : Int32) (σ : St) (z : Int32) (hf : fX6_isBetter a0 a1 σ = some z) : Ct (YC E) yX6_isBetter cX6_isBetter 3 (some .boolean) rmX6_isBetter [.ref (E.2.2.2.2 14), .int a0, .int a1] σ (some (.int z)) σ := by
  refine Ct.of hE (by decide) (Nat.le_of_ble_eq_true rfl) (fun X O => ?_)
  have O : Ok (YC E) X cX6_isBetter 3 RX6 (some .boolean) rmX6_isBetter (some (.int z)) σ := O
  show At (YC E) X 3 0 [(0, .ref (E.2.2.2.2 14)), (1, .int a0), (2, .int a1)] [] σ
  unfold fX6_isBetter at hf
  refine a_aload_n (pc' := 1) O dX6_isBetter_0 rfl 0 rfl rfl ?_
  refine gfC_14_0 (pc' := 4) O dX6_isBetter_1 rfl ?_
  refine a_iload_n (pc' := 5) O dX6_isBetter_4 rfl 1 rfl rfl ?_
  refine laC_15 (pc' := 6) O hf dX6_isBetter_5 rfl (fun hf => ?_)
  refine a_aload_n (pc' := 7) O dX6_isBetter_6 rfl 0 rfl rfl ?_
  refine gfC_14_1 (pc' := 10) O dX6_isBetter_7 rfl ?_
  refine a_iload_n (pc' := 11) O dX6_isBetter_10 rfl 2 rfl rfl ?_
  refine laC_16 (pc' := 12) O hf dX6_isBetter_11 rfl (fun hf => ?_)
  refine a_imul (pc' := 13) O dX6_isBetter_12 rfl ?_
  refine a_aload_n (pc' := 14) O dX6_isBetter_13 rfl 0 rfl rfl ?_
  refine gfC_14_0 (pc' := 17) O dX6_isBetter_14 rfl ?_
  refine a_iload_n (pc' := 18) O dX6_isBetter_17 rfl 2 rfl rfl ?_
  refine laC_15 (pc' := 19) O hf dX6_isBetter_18 rfl (fun hf => ?_)
  refine a_aload_n (pc' := 20) O dX6_isBetter_19 rfl 0 rfl rfl ?_
  refine gfC_14_1 (pc' := 23) O dX6_isBetter_20 rfl ?_
  refine a_iload_n (pc' := 24) O dX6_isBetter_23 rfl 1 rfl rfl ?_
  refine laC_16 (pc' := 25) O hf dX6_isBetter_24 rfl (fun hf => ?_)
  refine a_imul (pc' := 26) O dX6_isBetter_25 rfl ?_
  refine a_icmp_le (pc' := 29) (tgt := 33) O dX6_isBetter_26 (by decide) rfl hf (fun hf => ?_) (fun hf => ?_)
  · refine a_iconst (pc' := 34) (v := 0) O dX6_isBetter_33 (by decide) rfl ?_
    exact a_zretP (Or.inl rfl) O hf dX6_isBetter_34
  · refine a_iconst (pc' := 30) (v := 1) O dX6_isBetter_29 (by decide) rfl ?_
    refine a_goto (tgt := 34) O dX6_isBetter_30 (by decide) ?_
    exact a_zretP (Or.inr rfl) O hf dX6_isBetter_34
def rmX6_sort : Room := { frames := 1, cells := 0, slots := 0, locals := 22 }
def BX6_sort_52 (k2 : St → Int32 → Option St) (σ : St) (x1 : Int32) (x2 : Int32) : Option St :=
  gIn x2 6 (bS (sA σ 17 x2.toNatClampNeg x1) (fun σ1 => bI (x1 + 1) (fun v2 => k2 σ1 v2)))
set_option maxRecDepth 100000 in
theorem okBX6_sort_52 {E : ET} {X : XT} {z : St} (O : Ok (YC E) X cX6_sort 3 RX6 none rmX6_sort none z) (k2 : St → Int32 → Option St) (hk2 : ∀ (σ : St) (x1 : Int32), k2 σ x1 = some z → At (YC E) X 3 2 [(0, .ref (E.2.2.2.2 14)), (1, .int x1)] [] σ) (σ : St) (x1 : Int32) (x2 : Int32) (hf : BX6_sort_52 k2 σ x1 x2 = some z) : At (YC E) X 3 52 [(0, .ref (E.2.2.2.2 14)), (1, .int x1), (2, .int x2)] [] σ := by
  have hE := O.2.2.2.2.2.2.2.2.2.1
  unfold BX6_sort_52 at hf
  refine a_aload_n (pc' := 53) O dX6_sort_52 rfl 0 rfl rfl ?_
  refine gfC_14_2 (pc' := 56) O dX6_sort_53 rfl ?_
  refine a_iload_n (pc' := 57) O dX6_sort_56 rfl 2 rfl rfl ?_
  refine a_iload_n (pc' := 58) O dX6_sort_57 rfl 1 rfl rfl ?_
  refine saC_17 (pc' := 59) O hf dX6_sort_58 rfl (fun σ1 hf => ?_)
  refine a_iincB (pc' := 62) (lv' := fun v2 => [(1, .int v2), (0, .ref (E.2.2.2.2 14)), (2, .int x2)]) (c0 := 1) O dX6_sort_59 1 rfl (by decide) (by decide) (fun _ => rfl) rfl hf (fun v2 hf => ?_)
  refine a_goto (tgt := 2) O dX6_sort_62 (by decide) ?_
  exact a_sub [1, 0] rfl (hk2 σ1 v2 hf)
def BX6_sort_12 (k12 : St → Int32 → Int32 → Option St) (k2 : St → Int32 → Option St) (σ : St) (x1 : Int32) (x2 : Int32) : Option St :=
  if x2 ≤ 0 then BX6_sort_52 k2 σ x1 x2 else (gIn (x2 - 1) 6 ((fX6_isBetter x1 (σ.2.2 17 (x2 - 1).toNatClampNeg) σ).bind (fun z3 => if z3 = 0 then BX6_sort_52 k2 σ x1 x2 else (gIn (x2 - 1) 6 (gIn x2 6 (bS (sA σ 17 x2.toNatClampNeg (σ.2.2 17 (x2 - 1).toNatClampNeg)) (fun σ5 => bI (x2 + (-1)) (fun v6 => k12 σ5 x1 v6))))))))
set_option maxRecDepth 100000 in
theorem okBX6_sort_12 {E : ET} {X : XT} {z : St} (O : Ok (YC E) X cX6_sort 3 RX6 none rmX6_sort none z) (k12 : St → Int32 → Int32 → Option St) (hk12 : ∀ (σ : St) (x1 : Int32) (x2 : Int32), k12 σ x1 x2 = some z → At (YC E) X 3 12 [(0, .ref (E.2.2.2.2 14)), (1, .int x1), (2, .int x2)] [] σ) (k2 : St → Int32 → Option St) (hk2 : ∀ (σ : St) (x1 : Int32), k2 σ x1 = some z → At (YC E) X 3 2 [(0, .ref (E.2.2.2.2 14)), (1, .int x1)] [] σ) (σ : St) (x1 : Int32) (x2 : Int32) (hf : BX6_sort_12 k12 k2 σ x1 x2 = some z) : At (YC E) X 3 12 [(0, .ref (E.2.2.2.2 14)), (1, .int x1), (2, .int x2)] [] σ := by
  have hE := O.2.2.2.2.2.2.2.2.2.1
  unfold BX6_sort_12 at hf
  refine a_iload_n (pc' := 13) O dX6_sort_12 rfl 2 rfl rfl ?_
  refine a_if_le (pc' := 16) (tgt := 52) O dX6_sort_13 (by decide) rfl hf (fun hf => ?_) (fun hf => ?_)
  · exact a_sub [0, 1, 2] rfl (okBX6_sort_52 O k2 hk2 σ x1 x2 hf)
  · refine a_aload_n (pc' := 17) O dX6_sort_16 rfl 0 rfl rfl ?_
    refine a_iload_n (pc' := 18) O dX6_sort_17 rfl 1 rfl rfl ?_
    refine a_aload_n (pc' := 19) O dX6_sort_18 rfl 0 rfl rfl ?_
    refine gfC_14_2 (pc' := 22) O dX6_sort_19 rfl ?_
    refine a_iload_n (pc' := 23) O dX6_sort_22 rfl 2 rfl rfl ?_
    refine a_iconst (pc' := 24) (v := 1) O dX6_sort_23 (by decide) rfl ?_
    refine a_isub (pc' := 25) O dX6_sort_24 rfl ?_
    refine laC_17 (pc' := 26) O hf dX6_sort_25 rfl (fun hf => ?_)
    obtain ⟨z3, h4, hf⟩ := bd_some hf
    refine a_callVI (pc' := 29) (n := 2) (As := [.int x1, .int (σ.2.2 17 (x2 - 1).toNatClampNeg)]) (st := []) (q0 := 14) O (ctX6_isBetter hE x1 (σ.2.2 17 (x2 - 1).toNatClampNeg) σ z3 h4) wm_726 wm_727 wm_728 wm_39 wm_729 (by decide +kernel) (by decide) (gC_14 E _) hc_6 rfl rfl rfl (Nat.le_of_ble_eq_true rfl) dX6_sort_26 rfl ?_
    refine a_if_eq (pc' := 32) (tgt := 52) O dX6_sort_29 (by decide) rfl hf (fun hf => ?_) (fun hf => ?_)
    · exact a_sub [0, 1, 2] rfl (okBX6_sort_52 O k2 hk2 σ x1 x2 hf)
    · refine a_aload_n (pc' := 33) O dX6_sort_32 rfl 0 rfl rfl ?_
      refine gfC_14_2 (pc' := 36) O dX6_sort_33 rfl ?_
      refine a_iload_n (pc' := 37) O dX6_sort_36 rfl 2 rfl rfl ?_
      refine a_aload_n (pc' := 38) O dX6_sort_37 rfl 0 rfl rfl ?_
      refine gfC_14_2 (pc' := 41) O dX6_sort_38 rfl ?_
      refine a_iload_n (pc' := 42) O dX6_sort_41 rfl 2 rfl rfl ?_
      refine a_iconst (pc' := 43) (v := 1) O dX6_sort_42 (by decide) rfl ?_
      refine a_isub (pc' := 44) O dX6_sort_43 rfl ?_
      refine laC_17 (pc' := 45) O hf dX6_sort_44 rfl (fun hf => ?_)
      refine saC_17 (pc' := 46) O hf dX6_sort_45 rfl (fun σ5 hf => ?_)
      refine a_iincB (pc' := 49) (lv' := fun v6 => [(2, .int v6), (0, .ref (E.2.2.2.2 14)), (1, .int x1)]) (c0 := (-1)) O dX6_sort_46 2 rfl (by decide) (by decide) (fun _ => rfl) rfl hf (fun v6 hf => ?_)
      refine a_goto (tgt := 12) O dX6_sort_49 (by decide) ?_
      exact a_sub [1, 2, 0] rfl (hk12 σ5 x1 v6 hf)
def LX6_sort_12 (k2 : St → Int32 → Option St) : Nat → St → Int32 → Int32 → Option St
  | 0, _, _, _ => none
  | n + 1, σ, x1, x2 => BX6_sort_12 (LX6_sort_12 k2 n) k2 σ x1 x2
theorem okLX6_sort_12 {E : ET} {X : XT} {z : St} (O : Ok (YC E) X cX6_sort 3 RX6 none rmX6_sort none z) (k2 : St → Int32 → Option St) (hk2 : ∀ (σ : St) (x1 : Int32), k2 σ x1 = some z → At (YC E) X 3 2 [(0, .ref (E.2.2.2.2 14)), (1, .int x1)] [] σ) : ∀ (n : Nat) (σ : St) (x1 : Int32) (x2 : Int32), LX6_sort_12 k2 n σ x1 x2 = some z → At (YC E) X 3 12 [(0, .ref (E.2.2.2.2 14)), (1, .int x1), (2, .int x2)] [] σ := by
  intro n
  induction n with
  | zero =>
    intro σ x1 x2 hf
    rw [LX6_sort_12] at hf
    cases hf
  | succ n ih =>
    intro σ x1 x2 hf
    rw [LX6_sort_12] at hf
    exact okBX6_sort_12 O (LX6_sort_12 k2 n) ih k2 hk2 σ x1 x2 hf
def BX6_sort_2 (k2 : St → Int32 → Option St) (σ : St) (x1 : Int32) : Option St :=
  if (σ.1 14) ≤ x1 then some σ else (LX6_sort_12 k2 fu σ x1 x1)
set_option maxRecDepth 100000 in
theorem okBX6_sort_2 {E : ET} {X : XT} {z : St} (O : Ok (YC E) X cX6_sort 3 RX6 none rmX6_sort none z) (k2 : St → Int32 → Option St) (hk2 : ∀ (σ : St) (x1 : Int32), k2 σ x1 = some z → At (YC E) X 3 2 [(0, .ref (E.2.2.2.2 14)), (1, .int x1)] [] σ) (σ : St) (x1 : Int32) (hf : BX6_sort_2 k2 σ x1 = some z) : At (YC E) X 3 2 [(0, .ref (E.2.2.2.2 14)), (1, .int x1)] [] σ := by
  have hE := O.2.2.2.2.2.2.2.2.2.1
  unfold BX6_sort_2 at hf
  refine a_iload_n (pc' := 3) O dX6_sort_2 rfl 1 rfl rfl ?_
  refine a_aload_n (pc' := 4) O dX6_sort_3 rfl 0 rfl rfl ?_
  refine gfC_14_3 (pc' := 7) O dX6_sort_4 rfl ?_
  refine a_icmp_ge (pc' := 10) (tgt := 65) O dX6_sort_7 (by decide) rfl hf (fun hf => ?_) (fun hf => ?_)
  · exact a_vret O hf dX6_sort_65
  · refine a_iload_n (pc' := 11) O dX6_sort_10 rfl 1 rfl rfl ?_
    refine a_istore_n (pc' := 12) (lv' := [(2, .int x1), (0, .ref (E.2.2.2.2 14)), (1, .int x1)]) O dX6_sort_11 rfl (by decide) rfl rfl ?_
    exact a_sub [1, 2, 0] rfl (okLX6_sort_12 O k2 hk2 fu σ x1 x1 hf)
def LX6_sort_2 : Nat → St → Int32 → Option St
  | 0, _, _ => none
  | n + 1, σ, x1 => BX6_sort_2 (LX6_sort_2 n) σ x1
theorem okLX6_sort_2 {E : ET} {X : XT} {z : St} (O : Ok (YC E) X cX6_sort 3 RX6 none rmX6_sort none z) : ∀ (n : Nat) (σ : St) (x1 : Int32), LX6_sort_2 n σ x1 = some z → At (YC E) X 3 2 [(0, .ref (E.2.2.2.2 14)), (1, .int x1)] [] σ := by
  intro n
  induction n with
  | zero =>
    intro σ x1 hf
    rw [LX6_sort_2] at hf
    cases hf
  | succ n ih =>
    intro σ x1 hf
    rw [LX6_sort_2] at hf
    exact okBX6_sort_2 O (LX6_sort_2 n) ih σ x1 hf
def fX6_sort (σ : St) : Option St :=
  LX6_sort_2 fu σ 0
set_option maxRecDepth 100000 in
theorem ctX6_sort {E : ET} (hE : Dj (YC E)) (σ : St) (z : St) (hf : fX6_sort σ = some z) : Ct (YC E) yX6_sort cX6_sort 3 none rmX6_sort [.ref (E.2.2.2.2 14)] σ none z := by
  refine Ct.of hE (by decide) (Nat.le_of_ble_eq_true rfl) (fun X O => ?_)
  have O : Ok (YC E) X cX6_sort 3 RX6 none rmX6_sort none z := O
  show At (YC E) X 3 0 [(0, .ref (E.2.2.2.2 14))] [] σ
  unfold fX6_sort at hf
  refine a_iconst (pc' := 1) (v := 0) O dX6_sort_0 (by decide) rfl ?_
  refine a_istore_n (pc' := 2) (lv' := [(1, .int 0), (0, .ref (E.2.2.2.2 14))]) O dX6_sort_1 rfl (by decide) rfl rfl ?_
  exact a_sub [1, 0] rfl (okLX6_sort_2 O fu σ 0 hf)
def rmX6_add : Room := { frames := 2, cells := 0, slots := 0, locals := 44 }
def fX6_add (a0 : Int32) (a1 : Int32) (σ : St) : Option (Int32 × St) :=
  if 6 ≤ (σ.1 14) then some (0, σ) else ((fX6_allChances σ).bind (fun z1 => if (z1 + a0) ≤ 16 then gIn (σ.1 14) 6 (bS (sA σ 15 (σ.1 14).toNatClampNeg a0) (fun σ3 => gIn (σ3.1 14) 6 (bS (sA σ3 16 (σ3.1 14).toNatClampNeg a1) (fun σ4 => bS (sI σ4 14 ((σ4.1 14) + 1)) (fun σ5 => (fX6_sort σ5).bind (fun z6 => some (1, z6))))))) else (some (0, σ))))
set_option maxRecDepth 100000 in
theorem ctX6_add {E : ET} (hE : Dj (YC E)) (a0 : Int32) (a1 : Int32) (σ : St) (z : Int32 × St) (hf : fX6_add a0 a1 σ = some z) : Ct (YC E) yX6_add cX6_add 3 (some .boolean) rmX6_add [.ref (E.2.2.2.2 14), .int a0, .int a1] σ (some (.int z.1)) z.2 := by
  refine Ct.of hE (by decide) (Nat.le_of_ble_eq_true rfl) (fun X O => ?_)
  have O : Ok (YC E) X cX6_add 3 RX6 (some .boolean) rmX6_add (some (.int z.1)) z.2 := O
  show At (YC E) X 3 0 [(0, .ref (E.2.2.2.2 14)), (1, .int a0), (2, .int a1)] [] σ
  unfold fX6_add at hf
  refine a_aload_n (pc' := 1) O dX6_add_0 rfl 0 rfl rfl ?_
  refine gfC_14_3 (pc' := 4) O dX6_add_1 rfl ?_
  refine a_bipush (pc' := 6) (v := 6) O dX6_add_4 (by decide) rfl ?_
  refine a_icmp_ge (pc' := 9) (tgt := 20) O dX6_add_6 (by decide) rfl hf (fun hf => ?_) (fun hf => ?_)
  · refine a_iconst (pc' := 21) (v := 0) O dX6_add_20 (by decide) rfl ?_
    exact a_zret (Or.inl rfl) O hf dX6_add_21
  · refine a_aload_n (pc' := 10) O dX6_add_9 rfl 0 rfl rfl ?_
    obtain ⟨z1, h2, hf⟩ := bd_some hf
    refine a_callVI (pc' := 13) (n := 0) (As := []) (st := []) (q0 := 14) O (ctX6_allChances hE σ z1 h2) wm_718 wm_719 wm_720 wm_39 wm_721 (by decide +kernel) (by decide) (gC_14 E _) hc_6 rfl rfl rfl (Nat.le_of_ble_eq_true rfl) dX6_add_10 rfl ?_
    refine a_iload_n (pc' := 14) O dX6_add_13 rfl 1 rfl rfl ?_
    refine a_iadd (pc' := 15) O dX6_add_14 rfl ?_
    refine a_bipush (pc' := 17) (v := 16) O dX6_add_15 (by decide) rfl ?_
    refine a_icmp_le (pc' := 20) (tgt := 22) O dX6_add_17 (by decide) rfl hf (fun hf => ?_) (fun hf => ?_)
    · refine a_aload_n (pc' := 23) O dX6_add_22 rfl 0 rfl rfl ?_
      refine gfC_14_0 (pc' := 26) O dX6_add_23 rfl ?_
      refine a_aload_n (pc' := 27) O dX6_add_26 rfl 0 rfl rfl ?_
      refine gfC_14_3 (pc' := 30) O dX6_add_27 rfl ?_
      refine a_iload_n (pc' := 31) O dX6_add_30 rfl 1 rfl rfl ?_
      refine saC_15 (pc' := 32) O hf dX6_add_31 rfl (fun σ3 hf => ?_)
      refine a_aload_n (pc' := 33) O dX6_add_32 rfl 0 rfl rfl ?_
      refine gfC_14_1 (pc' := 36) O dX6_add_33 rfl ?_
      refine a_aload_n (pc' := 37) O dX6_add_36 rfl 0 rfl rfl ?_
      refine gfC_14_3 (pc' := 40) O dX6_add_37 rfl ?_
      refine a_iload_n (pc' := 41) O dX6_add_40 rfl 2 rfl rfl ?_
      refine saC_16 (pc' := 42) O hf dX6_add_41 rfl (fun σ4 hf => ?_)
      refine a_aload_n (pc' := 43) O dX6_add_42 rfl 0 rfl rfl ?_
      refine a_dup (pc' := 44) O dX6_add_43 rfl rfl ?_
      refine gfC_14_3 (pc' := 47) O dX6_add_44 rfl ?_
      refine a_iconst (pc' := 48) (v := 1) O dX6_add_47 (by decide) rfl ?_
      refine a_iadd (pc' := 49) O dX6_add_48 rfl ?_
      refine pfC_14_3 (pc' := 52) O hf dX6_add_49 rfl (fun σ5 hf => ?_)
      refine a_aload_n (pc' := 53) O dX6_add_52 rfl 0 rfl rfl ?_
      obtain ⟨z6, h7, hf⟩ := bd_some hf
      refine a_callVN (pc' := 56) (n := 0) (As := []) (st := []) (q0 := 14) O (ctX6_sort hE σ5 z6 h7) wm_722 wm_723 wm_724 wm_39 wm_725 (by decide +kernel) (by decide) (gC_14 E _) hc_6 rfl rfl rfl (Nat.le_of_ble_eq_true rfl) dX6_add_53 rfl ?_
      refine a_iconst (pc' := 57) (v := 1) O dX6_add_56 (by decide) rfl ?_
      exact a_zret (Or.inr rfl) O hf dX6_add_57
    · refine a_iconst (pc' := 21) (v := 0) O dX6_add_20 (by decide) rfl ?_
      exact a_zret (Or.inl rfl) O hf dX6_add_21
def rmX6_dropLast : Room := { frames := 2, cells := 0, slots := 0, locals := 44 }
def fX6_dropLast (σ : St) : Option (Int32 × St) :=
  if (σ.1 14) = 0 then some (0, σ) else (bS (sI σ 14 ((σ.1 14) - 1)) (fun σ1 => (fX6_sort σ1).bind (fun z2 => some (1, z2))))
set_option maxRecDepth 100000 in
theorem ctX6_dropLast {E : ET} (hE : Dj (YC E)) (σ : St) (z : Int32 × St) (hf : fX6_dropLast σ = some z) : Ct (YC E) yX6_dropLast cX6_dropLast 1 (some .boolean) rmX6_dropLast [.ref (E.2.2.2.2 14)] σ (some (.int z.1)) z.2 := by
  refine Ct.of hE (by decide) (Nat.le_of_ble_eq_true rfl) (fun X O => ?_)
  have O : Ok (YC E) X cX6_dropLast 1 RX6 (some .boolean) rmX6_dropLast (some (.int z.1)) z.2 := O
  show At (YC E) X 1 0 [(0, .ref (E.2.2.2.2 14))] [] σ
  unfold fX6_dropLast at hf
  refine a_aload_n (pc' := 1) O dX6_dropLast_0 rfl 0 rfl rfl ?_
  refine gfC_14_3 (pc' := 4) O dX6_dropLast_1 rfl ?_
  refine a_if_ne (pc' := 7) (tgt := 9) O dX6_dropLast_4 (by decide) rfl hf (fun hf => ?_) (fun hf => ?_)
  · refine a_aload_n (pc' := 10) O dX6_dropLast_9 rfl 0 rfl rfl ?_
    refine a_dup (pc' := 11) O dX6_dropLast_10 rfl rfl ?_
    refine gfC_14_3 (pc' := 14) O dX6_dropLast_11 rfl ?_
    refine a_iconst (pc' := 15) (v := 1) O dX6_dropLast_14 (by decide) rfl ?_
    refine a_isub (pc' := 16) O dX6_dropLast_15 rfl ?_
    refine pfC_14_3 (pc' := 19) O hf dX6_dropLast_16 rfl (fun σ1 hf => ?_)
    refine a_aload_n (pc' := 20) O dX6_dropLast_19 rfl 0 rfl rfl ?_
    obtain ⟨z2, h3, hf⟩ := bd_some hf
    refine a_callVN (pc' := 23) (n := 0) (As := []) (st := []) (q0 := 14) O (ctX6_sort hE σ1 z2 h3) wm_722 wm_723 wm_724 wm_39 wm_725 (by decide +kernel) (by decide) (gC_14 E _) hc_6 rfl rfl rfl (Nat.le_of_ble_eq_true rfl) dX6_dropLast_20 rfl ?_
    refine a_iconst (pc' := 24) (v := 1) O dX6_dropLast_23 (by decide) rfl ?_
    exact a_zret (Or.inr rfl) O hf dX6_dropLast_24
  · refine a_iconst (pc' := 8) (v := 0) O dX6_dropLast_7 (by decide) rfl ?_
    exact a_zret (Or.inl rfl) O hf dX6_dropLast_8
def rmX6_tried : Room := { frames := 0, cells := 0, slots := 0, locals := 0 }
def fX6_tried (a0 : Int32) (σ : St) : Option Int32 :=
  if a0 < 0 then some (-1) else (if (σ.1 14) ≤ a0 then some (-1) else (gIn a0 6 (some (σ.2.2 17 a0.toNatClampNeg))))
set_option maxRecDepth 100000 in
theorem ctX6_tried {E : ET} (hE : Dj (YC E)) (a0 : Int32) (σ : St) (z : Int32) (hf : fX6_tried a0 σ = some z) : Ct (YC E) yX6_tried cX6_tried 2 (some .int) rmX6_tried [.ref (E.2.2.2.2 14), .int a0] σ (some (.int z)) σ := by
  refine Ct.of hE (by decide) (Nat.le_of_ble_eq_true rfl) (fun X O => ?_)
  have O : Ok (YC E) X cX6_tried 2 RX6 (some .int) rmX6_tried (some (.int z)) σ := O
  show At (YC E) X 2 0 [(0, .ref (E.2.2.2.2 14)), (1, .int a0)] [] σ
  unfold fX6_tried at hf
  refine a_iload_n (pc' := 1) O dX6_tried_0 rfl 1 rfl rfl ?_
  refine a_if_lt (pc' := 4) (tgt := 21) O dX6_tried_1 (by decide) rfl hf (fun hf => ?_) (fun hf => ?_)
  · refine a_iconst (pc' := 22) (v := (-1)) O dX6_tried_21 (by decide) rfl ?_
    exact a_iretP O hf dX6_tried_22
  · refine a_iload_n (pc' := 5) O dX6_tried_4 rfl 1 rfl rfl ?_
    refine a_aload_n (pc' := 6) O dX6_tried_5 rfl 0 rfl rfl ?_
    refine gfC_14_3 (pc' := 9) O dX6_tried_6 rfl ?_
    refine a_icmp_ge (pc' := 12) (tgt := 21) O dX6_tried_9 (by decide) rfl hf (fun hf => ?_) (fun hf => ?_)
    · refine a_iconst (pc' := 22) (v := (-1)) O dX6_tried_21 (by decide) rfl ?_
      exact a_iretP O hf dX6_tried_22
    · refine a_aload_n (pc' := 13) O dX6_tried_12 rfl 0 rfl rfl ?_
      refine gfC_14_2 (pc' := 16) O dX6_tried_13 rfl ?_
      refine a_iload_n (pc' := 17) O dX6_tried_16 rfl 1 rfl rfl ?_
      refine laC_17 (pc' := 18) O hf dX6_tried_17 rfl (fun hf => ?_)
      refine a_goto (tgt := 22) O dX6_tried_18 (by decide) ?_
      exact a_iretP O hf dX6_tried_22
def rmX6_meanSixteenths : Room := { frames := 1, cells := 0, slots := 0, locals := 22 }
def BX6_meanSixteenths_50 (σ : St) (x1 : Int32) (x2 : Int32) : Option Int32 :=
  (fX6_allChances σ).bind (fun z1 => some (x2 + (x1 * (16 - z1))))
set_option maxRecDepth 100000 in
theorem okBX6_meanSixteenths_50 {E : ET} {X : XT} {z : Int32} {σ : St} (O : Ok (YC E) X cX6_meanSixteenths 5 RX6 (some .int) rmX6_meanSixteenths (some (.int z)) σ) (x1 : Int32) (x2 : Int32) (hf : BX6_meanSixteenths_50 σ x1 x2 = some z) : At (YC E) X 5 50 [(0, .ref (E.2.2.2.2 14)), (1, .int x1), (2, .int x2)] [] σ := by
  have hE := O.2.2.2.2.2.2.2.2.2.1
  unfold BX6_meanSixteenths_50 at hf
  refine a_iload_n (pc' := 51) O dX6_meanSixteenths_50 rfl 2 rfl rfl ?_
  refine a_iload_n (pc' := 52) O dX6_meanSixteenths_51 rfl 1 rfl rfl ?_
  refine a_bipush (pc' := 54) (v := 16) O dX6_meanSixteenths_52 (by decide) rfl ?_
  refine a_aload_n (pc' := 55) O dX6_meanSixteenths_54 rfl 0 rfl rfl ?_
  obtain ⟨z1, h2, hf⟩ := bd_some hf
  refine a_callVI (pc' := 58) (n := 0) (As := []) (st := [.int 16, .int x1, .int x2]) (q0 := 14) O (ctX6_allChances hE σ z1 h2) wm_718 wm_719 wm_720 wm_39 wm_721 (by decide +kernel) (by decide) (gC_14 E _) hc_6 rfl rfl rfl (Nat.le_of_ble_eq_true rfl) dX6_meanSixteenths_55 rfl ?_
  refine a_isub (pc' := 59) O dX6_meanSixteenths_58 rfl ?_
  refine a_imul (pc' := 60) O dX6_meanSixteenths_59 rfl ?_
  refine a_iadd (pc' := 61) O dX6_meanSixteenths_60 rfl ?_
  exact a_iretP O hf dX6_meanSixteenths_61
def BX6_meanSixteenths_6 (k6 : Int32 → Int32 → Int32 → Option Int32) (σ : St) (x1 : Int32) (x2 : Int32) (x3 : Int32) : Option Int32 :=
  if (σ.1 14) ≤ x3 then BX6_meanSixteenths_50 σ x1 x2 else (gIn x3 6 (bI (σ.2.2 17 x3.toNatClampNeg) (fun v3 => gIn v3 6 (bI (x1 + (σ.2.2 16 v3.toNatClampNeg)) (fun v4 => gIn v3 6 (bI (x2 + (v4 * (σ.2.2 15 v3.toNatClampNeg))) (fun v5 => bI (x3 + 1) (fun v6 => k6 v4 v5 v6))))))))
set_option maxRecDepth 100000 in
theorem okBX6_meanSixteenths_6 {E : ET} {X : XT} {z : Int32} {σ : St} (O : Ok (YC E) X cX6_meanSixteenths 5 RX6 (some .int) rmX6_meanSixteenths (some (.int z)) σ) (k6 : Int32 → Int32 → Int32 → Option Int32) (hk6 : ∀ (x1 : Int32) (x2 : Int32) (x3 : Int32), k6 x1 x2 x3 = some z → At (YC E) X 5 6 [(0, .ref (E.2.2.2.2 14)), (1, .int x1), (2, .int x2), (3, .int x3)] [] σ) (x1 : Int32) (x2 : Int32) (x3 : Int32) (hf : BX6_meanSixteenths_6 k6 σ x1 x2 x3 = some z) : At (YC E) X 5 6 [(0, .ref (E.2.2.2.2 14)), (1, .int x1), (2, .int x2), (3, .int x3)] [] σ := by
  have hE := O.2.2.2.2.2.2.2.2.2.1
  unfold BX6_meanSixteenths_6 at hf
  refine a_iload_n (pc' := 7) O dX6_meanSixteenths_6 rfl 3 rfl rfl ?_
  refine a_aload_n (pc' := 8) O dX6_meanSixteenths_7 rfl 0 rfl rfl ?_
  refine gfC_14_3 (pc' := 11) O dX6_meanSixteenths_8 rfl ?_
  refine a_icmp_ge (pc' := 14) (tgt := 50) O dX6_meanSixteenths_11 (by decide) rfl hf (fun hf => ?_) (fun hf => ?_)
  · exact a_sub [0, 1, 2] rfl (okBX6_meanSixteenths_50 O x1 x2 hf)
  · refine a_aload_n (pc' := 15) O dX6_meanSixteenths_14 rfl 0 rfl rfl ?_
    refine gfC_14_2 (pc' := 18) O dX6_meanSixteenths_15 rfl ?_
    refine a_iload_n (pc' := 19) O dX6_meanSixteenths_18 rfl 3 rfl rfl ?_
    refine laC_17 (pc' := 20) O hf dX6_meanSixteenths_19 rfl (fun hf => ?_)
    refine a_topi hf (fun v3 hf => ?_)
    refine a_istore (pc' := 22) (lv' := [(4, .int v3), (0, .ref (E.2.2.2.2 14)), (1, .int x1), (2, .int x2), (3, .int x3)]) O dX6_meanSixteenths_20 (by decide) rfl rfl ?_
    refine a_iload_n (pc' := 23) O dX6_meanSixteenths_22 rfl 2 rfl rfl ?_
    refine a_aload_n (pc' := 24) O dX6_meanSixteenths_23 rfl 1 rfl rfl ?_
    refine gfC_14_1 (pc' := 27) O dX6_meanSixteenths_24 rfl ?_
    refine a_iload (pc' := 29) O dX6_meanSixteenths_27 0 rfl rfl ?_
    refine laC_16 (pc' := 30) O hf dX6_meanSixteenths_29 rfl (fun hf => ?_)
    refine a_iadd (pc' := 31) O dX6_meanSixteenths_30 rfl ?_
    refine a_topi hf (fun v4 hf => ?_)
    refine a_istore_n (pc' := 32) (lv' := [(1, .int v4), (4, .int v3), (0, .ref (E.2.2.2.2 14)), (2, .int x2), (3, .int x3)]) O dX6_meanSixteenths_31 rfl (by decide) rfl rfl ?_
    refine a_iload_n (pc' := 33) O dX6_meanSixteenths_32 rfl 3 rfl rfl ?_
    refine a_iload_n (pc' := 34) O dX6_meanSixteenths_33 rfl 0 rfl rfl ?_
    refine a_aload_n (pc' := 35) O dX6_meanSixteenths_34 rfl 2 rfl rfl ?_
    refine gfC_14_0 (pc' := 38) O dX6_meanSixteenths_35 rfl ?_
    refine a_iload (pc' := 40) O dX6_meanSixteenths_38 1 rfl rfl ?_
    refine laC_15 (pc' := 41) O hf dX6_meanSixteenths_40 rfl (fun hf => ?_)
    refine a_imul (pc' := 42) O dX6_meanSixteenths_41 rfl ?_
    refine a_iadd (pc' := 43) O dX6_meanSixteenths_42 rfl ?_
    refine a_topi hf (fun v5 hf => ?_)
    refine a_istore_n (pc' := 44) (lv' := [(2, .int v5), (1, .int v4), (4, .int v3), (0, .ref (E.2.2.2.2 14)), (3, .int x3)]) O dX6_meanSixteenths_43 rfl (by decide) rfl rfl ?_
    refine a_iincB (pc' := 47) (lv' := fun v6 => [(3, .int v6), (2, .int v5), (1, .int v4), (4, .int v3), (0, .ref (E.2.2.2.2 14))]) (c0 := 1) O dX6_meanSixteenths_44 4 rfl (by decide) (by decide) (fun _ => rfl) rfl hf (fun v6 hf => ?_)
    refine a_goto (tgt := 6) O dX6_meanSixteenths_47 (by decide) ?_
    exact a_sub [4, 2, 1, 0] rfl (hk6 v4 v5 v6 hf)
def LX6_meanSixteenths_6 (σ : St) : Nat → Int32 → Int32 → Int32 → Option Int32
  | 0, _, _, _ => none
  | n + 1, x1, x2, x3 => BX6_meanSixteenths_6 (LX6_meanSixteenths_6 σ n) σ x1 x2 x3
theorem okLX6_meanSixteenths_6 {E : ET} {X : XT} {z : Int32} {σ : St} (O : Ok (YC E) X cX6_meanSixteenths 5 RX6 (some .int) rmX6_meanSixteenths (some (.int z)) σ) : ∀ (n : Nat) (x1 : Int32) (x2 : Int32) (x3 : Int32), LX6_meanSixteenths_6 σ n x1 x2 x3 = some z → At (YC E) X 5 6 [(0, .ref (E.2.2.2.2 14)), (1, .int x1), (2, .int x2), (3, .int x3)] [] σ := by
  intro n
  induction n with
  | zero =>
    intro x1 x2 x3 hf
    rw [LX6_meanSixteenths_6] at hf
    cases hf
  | succ n ih =>
    intro x1 x2 x3 hf
    rw [LX6_meanSixteenths_6] at hf
    exact okBX6_meanSixteenths_6 O (LX6_meanSixteenths_6 σ n) ih x1 x2 x3 hf
def fX6_meanSixteenths (σ : St) : Option Int32 :=
  LX6_meanSixteenths_6 σ fu 0 0 0
set_option maxRecDepth 100000 in
theorem ctX6_meanSixteenths {E : ET} (hE : Dj (YC E)) (σ : St) (z : Int32) (hf : fX6_meanSixteenths σ = some z) : Ct (YC E) yX6_meanSixteenths cX6_meanSixteenths 5 (some .int) rmX6_meanSixteenths [.ref (E.2.2.2.2 14)] σ (some (.int z)) σ := by
  refine Ct.of hE (by decide) (Nat.le_of_ble_eq_true rfl) (fun X O => ?_)
  have O : Ok (YC E) X cX6_meanSixteenths 5 RX6 (some .int) rmX6_meanSixteenths (some (.int z)) σ := O
  show At (YC E) X 5 0 [(0, .ref (E.2.2.2.2 14))] [] σ
  unfold fX6_meanSixteenths at hf
  refine a_iconst (pc' := 1) (v := 0) O dX6_meanSixteenths_0 (by decide) rfl ?_
  refine a_istore_n (pc' := 2) (lv' := [(1, .int 0), (0, .ref (E.2.2.2.2 14))]) O dX6_meanSixteenths_1 rfl (by decide) rfl rfl ?_
  refine a_iconst (pc' := 3) (v := 0) O dX6_meanSixteenths_2 (by decide) rfl ?_
  refine a_istore_n (pc' := 4) (lv' := [(2, .int 0), (1, .int 0), (0, .ref (E.2.2.2.2 14))]) O dX6_meanSixteenths_3 rfl (by decide) rfl rfl ?_
  refine a_iconst (pc' := 5) (v := 0) O dX6_meanSixteenths_4 (by decide) rfl ?_
  refine a_istore_n (pc' := 6) (lv' := [(3, .int 0), (2, .int 0), (1, .int 0), (0, .ref (E.2.2.2.2 14))]) O dX6_meanSixteenths_5 rfl (by decide) rfl rfl ?_
  exact a_sub [3, 2, 1, 0] rfl (okLX6_meanSixteenths_6 O fu 0 0 0 hf)
def rmX7_push_1 : Room := { frames := 0, cells := 0, slots := 0, locals := 0 }
def fX7_push_1 (a0 : Int32) (σ : St) : Option (Int32 × St) :=
  if (σ.1 0) < 79 then gIn (σ.1 0) 79 (bS (sA σ 2 (σ.1 0).toNatClampNeg a0) (fun σ1 => bS (sI σ1 0 ((σ1.1 0) + 1)) (fun σ2 => some (1, σ2)))) else (some (0, σ))
set_option maxRecDepth 100000 in
theorem ctX7_push_1 {E : ET} (hE : Dj (YC E)) (a0 : Int32) (σ : St) (z : Int32 × St) (hf : fX7_push_1 a0 σ = some z) : Ct (YC E) yX7_push cX7_push 2 (some .boolean) rmX7_push_1 [.ref (E.2.2.2.2 1), .int a0] σ (some (.int z.1)) z.2 := by
  refine Ct.of hE (by decide) (Nat.le_of_ble_eq_true rfl) (fun X O => ?_)
  have O : Ok (YC E) X cX7_push 2 RX7 (some .boolean) rmX7_push_1 (some (.int z.1)) z.2 := O
  show At (YC E) X 2 0 [(0, .ref (E.2.2.2.2 1)), (1, .int a0)] [] σ
  unfold fX7_push_1 at hf
  refine a_aload_n (pc' := 1) O dX7_push_0 rfl 0 rfl rfl ?_
  refine gfC_1_1 (pc' := 4) O dX7_push_1 rfl ?_
  refine a_aload_n (pc' := 5) O dX7_push_4 rfl 0 rfl rfl ?_
  refine gfC_1_0 (pc' := 8) O dX7_push_5 rfl ?_
  refine alC_2 (pc' := 9) O dX7_push_8 rfl ?_
  refine a_icmp_lt (pc' := 12) (tgt := 14) O dX7_push_9 (by decide) rfl hf (fun hf => ?_) (fun hf => ?_)
  · refine a_aload_n (pc' := 15) O dX7_push_14 rfl 0 rfl rfl ?_
    refine gfC_1_0 (pc' := 18) O dX7_push_15 rfl ?_
    refine a_aload_n (pc' := 19) O dX7_push_18 rfl 0 rfl rfl ?_
    refine gfC_1_1 (pc' := 22) O dX7_push_19 rfl ?_
    refine a_iload_n (pc' := 23) O dX7_push_22 rfl 1 rfl rfl ?_
    refine saC_2 (pc' := 24) O hf dX7_push_23 rfl (fun σ1 hf => ?_)
    refine a_aload_n (pc' := 25) O dX7_push_24 rfl 0 rfl rfl ?_
    refine a_dup (pc' := 26) O dX7_push_25 rfl rfl ?_
    refine gfC_1_1 (pc' := 29) O dX7_push_26 rfl ?_
    refine a_iconst (pc' := 30) (v := 1) O dX7_push_29 (by decide) rfl ?_
    refine a_iadd (pc' := 31) O dX7_push_30 rfl ?_
    refine pfC_1_1 (pc' := 34) O hf dX7_push_31 rfl (fun σ2 hf => ?_)
    refine a_iconst (pc' := 35) (v := 1) O dX7_push_34 (by decide) rfl ?_
    exact a_zret (Or.inr rfl) O hf dX7_push_35
  · refine a_iconst (pc' := 13) (v := 0) O dX7_push_12 (by decide) rfl ?_
    exact a_zret (Or.inl rfl) O hf dX7_push_13
def rmX7_push_3 : Room := { frames := 0, cells := 0, slots := 0, locals := 0 }
def fX7_push_3 (a0 : Int32) (σ : St) : Option (Int32 × St) :=
  if (σ.1 1) < 40 then gIn (σ.1 1) 40 (bS (sA σ 4 (σ.1 1).toNatClampNeg a0) (fun σ1 => bS (sI σ1 1 ((σ1.1 1) + 1)) (fun σ2 => some (1, σ2)))) else (some (0, σ))
set_option maxRecDepth 100000 in
theorem ctX7_push_3 {E : ET} (hE : Dj (YC E)) (a0 : Int32) (σ : St) (z : Int32 × St) (hf : fX7_push_3 a0 σ = some z) : Ct (YC E) yX7_push cX7_push 2 (some .boolean) rmX7_push_3 [.ref (E.2.2.2.2 3), .int a0] σ (some (.int z.1)) z.2 := by
  refine Ct.of hE (by decide) (Nat.le_of_ble_eq_true rfl) (fun X O => ?_)
  have O : Ok (YC E) X cX7_push 2 RX7 (some .boolean) rmX7_push_3 (some (.int z.1)) z.2 := O
  show At (YC E) X 2 0 [(0, .ref (E.2.2.2.2 3)), (1, .int a0)] [] σ
  unfold fX7_push_3 at hf
  refine a_aload_n (pc' := 1) O dX7_push_0 rfl 0 rfl rfl ?_
  refine gfC_3_1 (pc' := 4) O dX7_push_1 rfl ?_
  refine a_aload_n (pc' := 5) O dX7_push_4 rfl 0 rfl rfl ?_
  refine gfC_3_0 (pc' := 8) O dX7_push_5 rfl ?_
  refine alC_4 (pc' := 9) O dX7_push_8 rfl ?_
  refine a_icmp_lt (pc' := 12) (tgt := 14) O dX7_push_9 (by decide) rfl hf (fun hf => ?_) (fun hf => ?_)
  · refine a_aload_n (pc' := 15) O dX7_push_14 rfl 0 rfl rfl ?_
    refine gfC_3_0 (pc' := 18) O dX7_push_15 rfl ?_
    refine a_aload_n (pc' := 19) O dX7_push_18 rfl 0 rfl rfl ?_
    refine gfC_3_1 (pc' := 22) O dX7_push_19 rfl ?_
    refine a_iload_n (pc' := 23) O dX7_push_22 rfl 1 rfl rfl ?_
    refine saC_4 (pc' := 24) O hf dX7_push_23 rfl (fun σ1 hf => ?_)
    refine a_aload_n (pc' := 25) O dX7_push_24 rfl 0 rfl rfl ?_
    refine a_dup (pc' := 26) O dX7_push_25 rfl rfl ?_
    refine gfC_3_1 (pc' := 29) O dX7_push_26 rfl ?_
    refine a_iconst (pc' := 30) (v := 1) O dX7_push_29 (by decide) rfl ?_
    refine a_iadd (pc' := 31) O dX7_push_30 rfl ?_
    refine pfC_3_1 (pc' := 34) O hf dX7_push_31 rfl (fun σ2 hf => ?_)
    refine a_iconst (pc' := 35) (v := 1) O dX7_push_34 (by decide) rfl ?_
    exact a_zret (Or.inr rfl) O hf dX7_push_35
  · refine a_iconst (pc' := 13) (v := 0) O dX7_push_12 (by decide) rfl ?_
    exact a_zret (Or.inl rfl) O hf dX7_push_13
def rmX7_pop_1 : Room := { frames := 0, cells := 0, slots := 0, locals := 0 }
def fX7_pop_1 (σ : St) : Option (Int32 × St) :=
  if (σ.1 0) = 0 then some (0, σ) else (bS (sI σ 0 ((σ.1 0) - 1)) (fun σ1 => some (1, σ1)))
set_option maxRecDepth 100000 in
theorem ctX7_pop_1 {E : ET} (hE : Dj (YC E)) (σ : St) (z : Int32 × St) (hf : fX7_pop_1 σ = some z) : Ct (YC E) yX7_pop cX7_pop 1 (some .boolean) rmX7_pop_1 [.ref (E.2.2.2.2 1)] σ (some (.int z.1)) z.2 := by
  refine Ct.of hE (by decide) (Nat.le_of_ble_eq_true rfl) (fun X O => ?_)
  have O : Ok (YC E) X cX7_pop 1 RX7 (some .boolean) rmX7_pop_1 (some (.int z.1)) z.2 := O
  show At (YC E) X 1 0 [(0, .ref (E.2.2.2.2 1))] [] σ
  unfold fX7_pop_1 at hf
  refine a_aload_n (pc' := 1) O dX7_pop_0 rfl 0 rfl rfl ?_
  refine gfC_1_1 (pc' := 4) O dX7_pop_1 rfl ?_
  refine a_if_ne (pc' := 7) (tgt := 9) O dX7_pop_4 (by decide) rfl hf (fun hf => ?_) (fun hf => ?_)
  · refine a_aload_n (pc' := 10) O dX7_pop_9 rfl 0 rfl rfl ?_
    refine a_dup (pc' := 11) O dX7_pop_10 rfl rfl ?_
    refine gfC_1_1 (pc' := 14) O dX7_pop_11 rfl ?_
    refine a_iconst (pc' := 15) (v := 1) O dX7_pop_14 (by decide) rfl ?_
    refine a_isub (pc' := 16) O dX7_pop_15 rfl ?_
    refine pfC_1_1 (pc' := 19) O hf dX7_pop_16 rfl (fun σ1 hf => ?_)
    refine a_iconst (pc' := 20) (v := 1) O dX7_pop_19 (by decide) rfl ?_
    exact a_zret (Or.inr rfl) O hf dX7_pop_20
  · refine a_iconst (pc' := 8) (v := 0) O dX7_pop_7 (by decide) rfl ?_
    exact a_zret (Or.inl rfl) O hf dX7_pop_8
def rmX7_pop_3 : Room := { frames := 0, cells := 0, slots := 0, locals := 0 }
def fX7_pop_3 (σ : St) : Option (Int32 × St) :=
  if (σ.1 1) = 0 then some (0, σ) else (bS (sI σ 1 ((σ.1 1) - 1)) (fun σ1 => some (1, σ1)))
set_option maxRecDepth 100000 in
theorem ctX7_pop_3 {E : ET} (hE : Dj (YC E)) (σ : St) (z : Int32 × St) (hf : fX7_pop_3 σ = some z) : Ct (YC E) yX7_pop cX7_pop 1 (some .boolean) rmX7_pop_3 [.ref (E.2.2.2.2 3)] σ (some (.int z.1)) z.2 := by
  refine Ct.of hE (by decide) (Nat.le_of_ble_eq_true rfl) (fun X O => ?_)
  have O : Ok (YC E) X cX7_pop 1 RX7 (some .boolean) rmX7_pop_3 (some (.int z.1)) z.2 := O
  show At (YC E) X 1 0 [(0, .ref (E.2.2.2.2 3))] [] σ
  unfold fX7_pop_3 at hf
  refine a_aload_n (pc' := 1) O dX7_pop_0 rfl 0 rfl rfl ?_
  refine gfC_3_1 (pc' := 4) O dX7_pop_1 rfl ?_
  refine a_if_ne (pc' := 7) (tgt := 9) O dX7_pop_4 (by decide) rfl hf (fun hf => ?_) (fun hf => ?_)
  · refine a_aload_n (pc' := 10) O dX7_pop_9 rfl 0 rfl rfl ?_
    refine a_dup (pc' := 11) O dX7_pop_10 rfl rfl ?_
    refine gfC_3_1 (pc' := 14) O dX7_pop_11 rfl ?_
    refine a_iconst (pc' := 15) (v := 1) O dX7_pop_14 (by decide) rfl ?_
    refine a_isub (pc' := 16) O dX7_pop_15 rfl ?_
    refine pfC_3_1 (pc' := 19) O hf dX7_pop_16 rfl (fun σ1 hf => ?_)
    refine a_iconst (pc' := 20) (v := 1) O dX7_pop_19 (by decide) rfl ?_
    exact a_zret (Or.inr rfl) O hf dX7_pop_20
  · refine a_iconst (pc' := 8) (v := 0) O dX7_pop_7 (by decide) rfl ?_
    exact a_zret (Or.inl rfl) O hf dX7_pop_8
def rmX7_clear_1 : Room := { frames := 0, cells := 0, slots := 0, locals := 0 }
def fX7_clear_1 (σ : St) : Option St :=
  bS (sI σ 0 0) (fun σ1 => some σ1)
set_option maxRecDepth 100000 in
theorem ctX7_clear_1 {E : ET} (hE : Dj (YC E)) (σ : St) (z : St) (hf : fX7_clear_1 σ = some z) : Ct (YC E) yX7_clear cX7_clear 1 none rmX7_clear_1 [.ref (E.2.2.2.2 1)] σ none z := by
  refine Ct.of hE (by decide) (Nat.le_of_ble_eq_true rfl) (fun X O => ?_)
  have O : Ok (YC E) X cX7_clear 1 RX7 none rmX7_clear_1 none z := O
  show At (YC E) X 1 0 [(0, .ref (E.2.2.2.2 1))] [] σ
  unfold fX7_clear_1 at hf
  refine a_aload_n (pc' := 1) O dX7_clear_0 rfl 0 rfl rfl ?_
  refine a_iconst (pc' := 2) (v := 0) O dX7_clear_1 (by decide) rfl ?_
  refine pfC_1_1 (pc' := 5) O hf dX7_clear_2 rfl (fun σ1 hf => ?_)
  exact a_vret O hf dX7_clear_5
def rmX7_clear_3 : Room := { frames := 0, cells := 0, slots := 0, locals := 0 }
def fX7_clear_3 (σ : St) : Option St :=
  bS (sI σ 1 0) (fun σ1 => some σ1)
set_option maxRecDepth 100000 in
theorem ctX7_clear_3 {E : ET} (hE : Dj (YC E)) (σ : St) (z : St) (hf : fX7_clear_3 σ = some z) : Ct (YC E) yX7_clear cX7_clear 1 none rmX7_clear_3 [.ref (E.2.2.2.2 3)] σ none z := by
  refine Ct.of hE (by decide) (Nat.le_of_ble_eq_true rfl) (fun X O => ?_)
  have O : Ok (YC E) X cX7_clear 1 RX7 none rmX7_clear_3 none z := O
  show At (YC E) X 1 0 [(0, .ref (E.2.2.2.2 3))] [] σ
  unfold fX7_clear_3 at hf
  refine a_aload_n (pc' := 1) O dX7_clear_0 rfl 0 rfl rfl ?_
  refine a_iconst (pc' := 2) (v := 0) O dX7_clear_1 (by decide) rfl ?_
  refine pfC_3_1 (pc' := 5) O hf dX7_clear_2 rfl (fun σ1 hf => ?_)
  exact a_vret O hf dX7_clear_5
def rmX8_minutes : Room := { frames := 0, cells := 0, slots := 0, locals := 0 }
def fX8_minutes (σ : St) : Option Int32 :=
  some (σ.1 12)
set_option maxRecDepth 100000 in
theorem ctX8_minutes {E : ET} (hE : Dj (YC E)) (σ : St) (z : Int32) (hf : fX8_minutes σ = some z) : Ct (YC E) yX8_minutes cX8_minutes 1 (some .int) rmX8_minutes [.ref (E.2.2.2.2 13)] σ (some (.int z)) σ := by
  refine Ct.of hE (by decide) (Nat.le_of_ble_eq_true rfl) (fun X O => ?_)
  have O : Ok (YC E) X cX8_minutes 1 RX8 (some .int) rmX8_minutes (some (.int z)) σ := O
  show At (YC E) X 1 0 [(0, .ref (E.2.2.2.2 13))] [] σ
  unfold fX8_minutes at hf
  refine a_aload_n (pc' := 1) O dX8_minutes_0 rfl 0 rfl rfl ?_
  refine gfC_13_0 (pc' := 4) O dX8_minutes_1 rfl ?_
  exact a_iretP O hf dX8_minutes_4
def rmX8_bits : Room := { frames := 0, cells := 0, slots := 0, locals := 0 }
def fX8_bits (σ : St) : Option Int32 :=
  some (σ.1 13)
set_option maxRecDepth 100000 in
theorem ctX8_bits {E : ET} (hE : Dj (YC E)) (σ : St) (z : Int32) (hf : fX8_bits σ = some z) : Ct (YC E) yX8_bits cX8_bits 1 (some .int) rmX8_bits [.ref (E.2.2.2.2 13)] σ (some (.int z)) σ := by
  refine Ct.of hE (by decide) (Nat.le_of_ble_eq_true rfl) (fun X O => ?_)
  have O : Ok (YC E) X cX8_bits 1 RX8 (some .int) rmX8_bits (some (.int z)) σ := O
  show At (YC E) X 1 0 [(0, .ref (E.2.2.2.2 13))] [] σ
  unfold fX8_bits at hf
  refine a_aload_n (pc' := 1) O dX8_bits_0 rfl 0 rfl rfl ?_
  refine gfC_13_1 (pc' := 4) O dX8_bits_1 rfl ?_
  exact a_iretP O hf dX8_bits_4
def rmX8_ropeBits : Room := { frames := 1, cells := 0, slots := 0, locals := 22 }
def BX8_ropeBits_4 (k4 : Int32 → Int32 → Int32 → Option Int32) (σ : St) (x1 : Int32) (x2 : Int32) (x3 : Int32) : Option Int32 :=
  if x1 ≤ x3 then some x2 else ((fX1_figure x3 3 σ).bind (fun z1 => bI (x2 ||| (z1 <<< (x3 &&& 31))) (fun v3 => bI (x3 + 1) (fun v4 => k4 x1 v3 v4))))
set_option maxRecDepth 100000 in
theorem okBX8_ropeBits_4 {E : ET} {X : XT} {z : Int32} {σ : St} (O : Ok (YC E) X cX8_ropeBits 4 RX8 (some .int) rmX8_ropeBits (some (.int z)) σ) (k4 : Int32 → Int32 → Int32 → Option Int32) (hk4 : ∀ (x1 : Int32) (x2 : Int32) (x3 : Int32), k4 x1 x2 x3 = some z → At (YC E) X 4 4 [(0, .ref (E.2.2.2.2 5)), (1, .int x1), (2, .int x2), (3, .int x3)] [] σ) (x1 : Int32) (x2 : Int32) (x3 : Int32) (hf : BX8_ropeBits_4 k4 σ x1 x2 x3 = some z) : At (YC E) X 4 4 [(0, .ref (E.2.2.2.2 5)), (1, .int x1), (2, .int x2), (3, .int x3)] [] σ := by
  have hE := O.2.2.2.2.2.2.2.2.2.1
  unfold BX8_ropeBits_4 at hf
  refine a_iload_n (pc' := 5) O dX8_ropeBits_4 rfl 3 rfl rfl ?_
  refine a_iload_n (pc' := 6) O dX8_ropeBits_5 rfl 1 rfl rfl ?_
  refine a_icmp_ge (pc' := 9) (tgt := 26) O dX8_ropeBits_6 (by decide) rfl hf (fun hf => ?_) (fun hf => ?_)
  · refine a_iload_n (pc' := 27) O dX8_ropeBits_26 rfl 2 rfl rfl ?_
    exact a_iretP O hf dX8_ropeBits_27
  · refine a_iload_n (pc' := 10) O dX8_ropeBits_9 rfl 2 rfl rfl ?_
    refine a_aload_n (pc' := 11) O dX8_ropeBits_10 rfl 0 rfl rfl ?_
    refine a_iload_n (pc' := 12) O dX8_ropeBits_11 rfl 3 rfl rfl ?_
    refine a_iconst (pc' := 13) (v := 3) O dX8_ropeBits_12 (by decide) rfl ?_
    obtain ⟨z1, h2, hf⟩ := bd_some hf
    refine a_callVI (pc' := 16) (n := 2) (As := [.int x3, .int 3]) (st := [.int x2]) (q0 := 5) O (ctX1_figure hE x3 3 σ z1 h2) wm_662 wm_278 wm_279 wm_19 wm_280 (by decide +kernel) (by decide) (gC_5 E _) hc_1 rfl rfl rfl (Nat.le_of_ble_eq_true rfl) dX8_ropeBits_13 rfl ?_
    refine a_iload_n (pc' := 17) O dX8_ropeBits_16 rfl 3 rfl rfl ?_
    refine a_ishl (pc' := 18) O dX8_ropeBits_17 rfl ?_
    refine a_ior (pc' := 19) O dX8_ropeBits_18 rfl ?_
    refine a_topi hf (fun v3 hf => ?_)
    refine a_istore_n (pc' := 20) (lv' := [(2, .int v3), (0, .ref (E.2.2.2.2 5)), (1, .int x1), (3, .int x3)]) O dX8_ropeBits_19 rfl (by decide) rfl rfl ?_
    refine a_iincB (pc' := 23) (lv' := fun v4 => [(3, .int v4), (2, .int v3), (0, .ref (E.2.2.2.2 5)), (1, .int x1)]) (c0 := 1) O dX8_ropeBits_20 3 rfl (by decide) (by decide) (fun _ => rfl) rfl hf (fun v4 hf => ?_)
    refine a_goto (tgt := 4) O dX8_ropeBits_23 (by decide) ?_
    exact a_sub [2, 3, 1, 0] rfl (hk4 x1 v3 v4 hf)
def LX8_ropeBits_4 (σ : St) : Nat → Int32 → Int32 → Int32 → Option Int32
  | 0, _, _, _ => none
  | n + 1, x1, x2, x3 => BX8_ropeBits_4 (LX8_ropeBits_4 σ n) σ x1 x2 x3
theorem okLX8_ropeBits_4 {E : ET} {X : XT} {z : Int32} {σ : St} (O : Ok (YC E) X cX8_ropeBits 4 RX8 (some .int) rmX8_ropeBits (some (.int z)) σ) : ∀ (n : Nat) (x1 : Int32) (x2 : Int32) (x3 : Int32), LX8_ropeBits_4 σ n x1 x2 x3 = some z → At (YC E) X 4 4 [(0, .ref (E.2.2.2.2 5)), (1, .int x1), (2, .int x2), (3, .int x3)] [] σ := by
  intro n
  induction n with
  | zero =>
    intro x1 x2 x3 hf
    rw [LX8_ropeBits_4] at hf
    cases hf
  | succ n ih =>
    intro x1 x2 x3 hf
    rw [LX8_ropeBits_4] at hf
    exact okBX8_ropeBits_4 O (LX8_ropeBits_4 σ n) ih x1 x2 x3 hf
def fX8_ropeBits (a1 : Int32) (σ : St) : Option Int32 :=
  LX8_ropeBits_4 σ fu a1 0 0
set_option maxRecDepth 100000 in
theorem ctX8_ropeBits {E : ET} (hE : Dj (YC E)) (a1 : Int32) (σ : St) (z : Int32) (hf : fX8_ropeBits a1 σ = some z) : Ct (YC E) yX8_ropeBits cX8_ropeBits 4 (some .int) rmX8_ropeBits [.ref (E.2.2.2.2 5), .int a1] σ (some (.int z)) σ := by
  refine Ct.of hE (by decide) (Nat.le_of_ble_eq_true rfl) (fun X O => ?_)
  have O : Ok (YC E) X cX8_ropeBits 4 RX8 (some .int) rmX8_ropeBits (some (.int z)) σ := O
  show At (YC E) X 4 0 [(0, .ref (E.2.2.2.2 5)), (1, .int a1)] [] σ
  unfold fX8_ropeBits at hf
  refine a_iconst (pc' := 1) (v := 0) O dX8_ropeBits_0 (by decide) rfl ?_
  refine a_istore_n (pc' := 2) (lv' := [(2, .int 0), (0, .ref (E.2.2.2.2 5)), (1, .int a1)]) O dX8_ropeBits_1 rfl (by decide) rfl rfl ?_
  refine a_iconst (pc' := 3) (v := 0) O dX8_ropeBits_2 (by decide) rfl ?_
  refine a_istore_n (pc' := 4) (lv' := [(3, .int 0), (2, .int 0), (0, .ref (E.2.2.2.2 5)), (1, .int a1)]) O dX8_ropeBits_3 rfl (by decide) rfl rfl ?_
  exact a_sub [2, 3, 1, 0] rfl (okLX8_ropeBits_4 O fu a1 0 0 hf)
def rmX8_minutesOf : Room := { frames := 1, cells := 0, slots := 0, locals := 22 }
def BX8_minutesOf_5 (k5 : Int32 → Int32 → Int32 → Int32 → Option Int32) (σ : St) (x1 : Int32) (x2 : Int32) (x3 : Int32) (x4 : Int32) : Option Int32 :=
  if x1 ≤ x4 then some x3 else (if ((x2 >>> (x4 &&& 31)) &&& 1) = 1 then (fX1_figure x4 0 σ).bind (fun z2 => (fX1_figure x4 1 σ).bind (fun z4 => bI (x3 + (z2 + z4)) (fun v6 => bI (x4 + 1) (fun v7 => k5 x1 x2 v6 v7)))) else (bI (x4 + 1) (fun v1 => k5 x1 x2 x3 v1)))
set_option maxRecDepth 100000 in
theorem okBX8_minutesOf_5 {E : ET} {X : XT} {z : Int32} {σ : St} (O : Ok (YC E) X cX8_minutesOf 5 RX8 (some .int) rmX8_minutesOf (some (.int z)) σ) (k5 : Int32 → Int32 → Int32 → Int32 → Option Int32) (hk5 : ∀ (x1 : Int32) (x2 : Int32) (x3 : Int32) (x4 : Int32), k5 x1 x2 x3 x4 = some z → At (YC E) X 5 5 [(0, .ref (E.2.2.2.2 5)), (1, .int x1), (2, .int x2), (3, .int x3), (4, .int x4)] [] σ) (x1 : Int32) (x2 : Int32) (x3 : Int32) (x4 : Int32) (hf : BX8_minutesOf_5 k5 σ x1 x2 x3 x4 = some z) : At (YC E) X 5 5 [(0, .ref (E.2.2.2.2 5)), (1, .int x1), (2, .int x2), (3, .int x3), (4, .int x4)] [] σ := by
  have hE := O.2.2.2.2.2.2.2.2.2.1
  unfold BX8_minutesOf_5 at hf
  refine a_iload (pc' := 7) O dX8_minutesOf_5 4 rfl rfl ?_
  refine a_iload_n (pc' := 8) O dX8_minutesOf_7 rfl 1 rfl rfl ?_
  refine a_icmp_ge (pc' := 11) (tgt := 45) O dX8_minutesOf_8 (by decide) rfl hf (fun hf => ?_) (fun hf => ?_)
  · refine a_iload_n (pc' := 46) O dX8_minutesOf_45 rfl 3 rfl rfl ?_
    exact a_iretP O hf dX8_minutesOf_46
  · refine a_iload_n (pc' := 12) O dX8_minutesOf_11 rfl 2 rfl rfl ?_
    refine a_iload (pc' := 14) O dX8_minutesOf_12 4 rfl rfl ?_
    refine a_ishr (pc' := 15) O dX8_minutesOf_14 rfl ?_
    refine a_iconst (pc' := 16) (v := 1) O dX8_minutesOf_15 (by decide) rfl ?_
    refine a_iand (pc' := 17) O dX8_minutesOf_16 rfl ?_
    refine a_iconst (pc' := 18) (v := 1) O dX8_minutesOf_17 (by decide) rfl ?_
    refine a_icmp_ne (pc' := 21) (tgt := 39) O dX8_minutesOf_18 (by decide) rfl hf (fun hf => ?_) (fun hf => ?_)
    · refine a_iincB (pc' := 42) (lv' := fun v1 => [(4, .int v1), (0, .ref (E.2.2.2.2 5)), (1, .int x1), (2, .int x2), (3, .int x3)]) (c0 := 1) O dX8_minutesOf_39 4 rfl (by decide) (by decide) (fun _ => rfl) rfl hf (fun v1 hf => ?_)
      refine a_goto (tgt := 5) O dX8_minutesOf_42 (by decide) ?_
      exact a_sub [1, 2, 3, 4, 0] rfl (hk5 x1 x2 x3 v1 hf)
    · refine a_iload_n (pc' := 22) O dX8_minutesOf_21 rfl 3 rfl rfl ?_
      refine a_aload_n (pc' := 23) O dX8_minutesOf_22 rfl 0 rfl rfl ?_
      refine a_iload (pc' := 25) O dX8_minutesOf_23 4 rfl rfl ?_
      refine a_iconst (pc' := 26) (v := 0) O dX8_minutesOf_25 (by decide) rfl ?_
      obtain ⟨z2, h3, hf⟩ := bd_some hf
      refine a_callVI (pc' := 29) (n := 2) (As := [.int x4, .int 0]) (st := [.int x3]) (q0 := 5) O (ctX1_figure hE x4 0 σ z2 h3) wm_662 wm_278 wm_279 wm_19 wm_280 (by decide +kernel) (by decide) (gC_5 E _) hc_1 rfl rfl rfl (Nat.le_of_ble_eq_true rfl) dX8_minutesOf_26 rfl ?_
      refine a_aload_n (pc' := 30) O dX8_minutesOf_29 rfl 0 rfl rfl ?_
      refine a_iload (pc' := 32) O dX8_minutesOf_30 4 rfl rfl ?_
      refine a_iconst (pc' := 33) (v := 1) O dX8_minutesOf_32 (by decide) rfl ?_
      obtain ⟨z4, h5, hf⟩ := bd_some hf
      refine a_callVI (pc' := 36) (n := 2) (As := [.int x4, .int 1]) (st := [.int z2, .int x3]) (q0 := 5) O (ctX1_figure hE x4 1 σ z4 h5) wm_662 wm_278 wm_279 wm_19 wm_280 (by decide +kernel) (by decide) (gC_5 E _) hc_1 rfl rfl rfl (Nat.le_of_ble_eq_true rfl) dX8_minutesOf_33 rfl ?_
      refine a_iadd (pc' := 37) O dX8_minutesOf_36 rfl ?_
      refine a_iadd (pc' := 38) O dX8_minutesOf_37 rfl ?_
      refine a_topi hf (fun v6 hf => ?_)
      refine a_istore_n (pc' := 39) (lv' := [(3, .int v6), (0, .ref (E.2.2.2.2 5)), (1, .int x1), (2, .int x2), (4, .int x4)]) O dX8_minutesOf_38 rfl (by decide) rfl rfl ?_
      refine a_iincB (pc' := 42) (lv' := fun v7 => [(4, .int v7), (3, .int v6), (0, .ref (E.2.2.2.2 5)), (1, .int x1), (2, .int x2)]) (c0 := 1) O dX8_minutesOf_39 4 rfl (by decide) (by decide) (fun _ => rfl) rfl hf (fun v7 hf => ?_)
      refine a_goto (tgt := 5) O dX8_minutesOf_42 (by decide) ?_
      exact a_sub [2, 3, 4, 1, 0] rfl (hk5 x1 x2 v6 v7 hf)
def LX8_minutesOf_5 (σ : St) : Nat → Int32 → Int32 → Int32 → Int32 → Option Int32
  | 0, _, _, _, _ => none
  | n + 1, x1, x2, x3, x4 => BX8_minutesOf_5 (LX8_minutesOf_5 σ n) σ x1 x2 x3 x4
theorem okLX8_minutesOf_5 {E : ET} {X : XT} {z : Int32} {σ : St} (O : Ok (YC E) X cX8_minutesOf 5 RX8 (some .int) rmX8_minutesOf (some (.int z)) σ) : ∀ (n : Nat) (x1 : Int32) (x2 : Int32) (x3 : Int32) (x4 : Int32), LX8_minutesOf_5 σ n x1 x2 x3 x4 = some z → At (YC E) X 5 5 [(0, .ref (E.2.2.2.2 5)), (1, .int x1), (2, .int x2), (3, .int x3), (4, .int x4)] [] σ := by
  intro n
  induction n with
  | zero =>
    intro x1 x2 x3 x4 hf
    rw [LX8_minutesOf_5] at hf
    cases hf
  | succ n ih =>
    intro x1 x2 x3 x4 hf
    rw [LX8_minutesOf_5] at hf
    exact okBX8_minutesOf_5 O (LX8_minutesOf_5 σ n) ih x1 x2 x3 x4 hf
def fX8_minutesOf (a1 : Int32) (a2 : Int32) (σ : St) : Option Int32 :=
  LX8_minutesOf_5 σ fu a1 a2 0 0
set_option maxRecDepth 100000 in
theorem ctX8_minutesOf {E : ET} (hE : Dj (YC E)) (a1 : Int32) (a2 : Int32) (σ : St) (z : Int32) (hf : fX8_minutesOf a1 a2 σ = some z) : Ct (YC E) yX8_minutesOf cX8_minutesOf 5 (some .int) rmX8_minutesOf [.ref (E.2.2.2.2 5), .int a1, .int a2] σ (some (.int z)) σ := by
  refine Ct.of hE (by decide) (Nat.le_of_ble_eq_true rfl) (fun X O => ?_)
  have O : Ok (YC E) X cX8_minutesOf 5 RX8 (some .int) rmX8_minutesOf (some (.int z)) σ := O
  show At (YC E) X 5 0 [(0, .ref (E.2.2.2.2 5)), (1, .int a1), (2, .int a2)] [] σ
  unfold fX8_minutesOf at hf
  refine a_iconst (pc' := 1) (v := 0) O dX8_minutesOf_0 (by decide) rfl ?_
  refine a_istore_n (pc' := 2) (lv' := [(3, .int 0), (0, .ref (E.2.2.2.2 5)), (1, .int a1), (2, .int a2)]) O dX8_minutesOf_1 rfl (by decide) rfl rfl ?_
  refine a_iconst (pc' := 3) (v := 0) O dX8_minutesOf_2 (by decide) rfl ?_
  refine a_istore (pc' := 5) (lv' := [(4, .int 0), (3, .int 0), (0, .ref (E.2.2.2.2 5)), (1, .int a1), (2, .int a2)]) O dX8_minutesOf_3 (by decide) rfl rfl ?_
  exact a_sub [2, 3, 4, 1, 0] rfl (okLX8_minutesOf_5 O fu a1 a2 0 0 hf)
