def rmX10_copy : Room := { frames := 5, cells := 0, slots := 0, locals := 110 }
def fX10_copy (a0 : Int32) (a1 : Int32) (a2 : Int32) (a3 : Int32) (a4 : Int32) (σ : St) : Option (Int32 × St) :=
  (fX5_exists a0).bind (fun z1 => if z1 = 0 then some ((-2), σ) else ((fX5_exists a2).bind (fun z3 => if z3 = 0 then some ((-2), σ) else ((fX5_isLost a0 σ).bind (fun z5 => if z5 = 0 then (fX5_isLost a2 σ).bind (fun z9 => if z9 = 0 then (fX5_alike a0 a2 σ).bind (fun z11 => if z11 = 0 then (fX5_found 4 σ).bind (fun z23 => some (z23.1, z23.2)) else ((fX5_holds a0 a1 a4 σ).bind (fun z13 => if z13 = 0 then (fX5_found 2 σ).bind (fun z15 => some (z15.1, z15.2)) else ((fX5_holds a2 a3 a4 σ).bind (fun z17 => if z17 = 0 then (fX5_found 2 σ).bind (fun z21 => some (z21.1, z21.2)) else ((fX5_move a0 a1 a2 a3 a4 σ).bind (fun z19 => some (1, z19)))))))) else ((fX5_found 1 σ).bind (fun z25 => some (z25.1, z25.2)))) else ((fX5_found 1 σ).bind (fun z7 => some (z7.1, z7.2))))))))
set_option maxRecDepth 100000 in
theorem ctX10_copy {E : ET} (hE : Dj (YC E)) (a0 : Int32) (a1 : Int32) (a2 : Int32) (a3 : Int32) (a4 : Int32) (σ : St) (z : Int32 × St) (hf : fX10_copy a0 a1 a2 a3 a4 σ = some z) : Ct (YC E) yX10_copy cX10_copy 6 (some .int) rmX10_copy [.ref (E.2.2.2.2 0), .int a0, .int a1, .int a2, .int a3, .int a4] σ (some (.int z.1)) z.2 := by
  refine Ct.of hE (by decide) (Nat.le_of_ble_eq_true rfl) (fun X O => ?_)
  have O : Ok (YC E) X cX10_copy 6 RX10 (some .int) rmX10_copy (some (.int z.1)) z.2 := O
  show At (YC E) X 6 0 [(0, .ref (E.2.2.2.2 0)), (1, .int a0), (2, .int a1), (3, .int a2), (4, .int a3), (5, .int a4)] [] σ
  unfold fX10_copy at hf
  refine a_iload_n (pc' := 1) O dX10_copy_0 rfl 1 rfl rfl ?_
  obtain ⟨z1, h2, hf⟩ := bd_some hf
  refine a_callSI (pc' := 4) (n := 1) (As := [.int a0]) (st := []) O (ctX5_exists hE a0 σ z1 h2) wm_335 wm_336 wm_47 wm_337 (by decide +kernel) (by decide) rfl rfl (Nat.le_of_ble_eq_true rfl) dX10_copy_1 rfl ?_
  refine a_if_eq (pc' := 7) (tgt := 14) O dX10_copy_4 (by decide) rfl hf (fun hf => ?_) (fun hf => ?_)
  · refine a_bipush (pc' := 16) (v := (-2)) O dX10_copy_14 (by decide) rfl ?_
    exact a_iret O hf dX10_copy_16
  · refine a_iload_n (pc' := 8) O dX10_copy_7 rfl 3 rfl rfl ?_
    obtain ⟨z3, h4, hf⟩ := bd_some hf
    refine a_callSI (pc' := 11) (n := 1) (As := [.int a2]) (st := []) O (ctX5_exists hE a2 σ z3 h4) wm_335 wm_336 wm_47 wm_337 (by decide +kernel) (by decide) rfl rfl (Nat.le_of_ble_eq_true rfl) dX10_copy_8 rfl ?_
    refine a_if_ne (pc' := 14) (tgt := 17) O dX10_copy_11 (by decide) rfl hf (fun hf => ?_) (fun hf => ?_)
    · refine a_aload_n (pc' := 18) O dX10_copy_17 rfl 0 rfl rfl ?_
      refine gfC_0_9 (pc' := 21) O dX10_copy_18 rfl ?_
      refine a_iload_n (pc' := 22) O dX10_copy_21 rfl 1 rfl rfl ?_
      obtain ⟨z5, h6, hf⟩ := bd_some hf
      refine a_callVI (pc' := 25) (n := 1) (As := [.int a0]) (st := []) (q0 := 23) O (ctX5_isLost hE a0 σ z5 h6) wm_338 wm_339 wm_340 wm_47 wm_341 (by decide +kernel) (by decide) (gC_23 E _) hc_5 rfl rfl rfl (Nat.le_of_ble_eq_true rfl) dX10_copy_22 rfl ?_
      refine a_if_ne (pc' := 28) (tgt := 39) O dX10_copy_25 (by decide) rfl hf (fun hf => ?_) (fun hf => ?_)
      · refine a_aload_n (pc' := 40) O dX10_copy_39 rfl 0 rfl rfl ?_
        refine gfC_0_9 (pc' := 43) O dX10_copy_40 rfl ?_
        refine a_iconst (pc' := 44) (v := 1) O dX10_copy_43 (by decide) rfl ?_
        obtain ⟨z7, h8, hf⟩ := bd_some hf
        refine a_callVI (pc' := 47) (n := 1) (As := [.int 1]) (st := []) (q0 := 23) O (ctX5_found hE 1 σ z7 h8) wm_343 wm_344 wm_345 wm_47 wm_346 (by decide +kernel) (by decide) (gC_23 E _) hc_5 rfl rfl rfl (Nat.le_of_ble_eq_true rfl) dX10_copy_44 rfl ?_
        exact a_iret O hf dX10_copy_47
      · refine a_aload_n (pc' := 29) O dX10_copy_28 rfl 0 rfl rfl ?_
        refine gfC_0_9 (pc' := 32) O dX10_copy_29 rfl ?_
        refine a_iload_n (pc' := 33) O dX10_copy_32 rfl 3 rfl rfl ?_
        obtain ⟨z9, h10, hf⟩ := bd_some hf
        refine a_callVI (pc' := 36) (n := 1) (As := [.int a2]) (st := []) (q0 := 23) O (ctX5_isLost hE a2 σ z9 h10) wm_338 wm_339 wm_340 wm_47 wm_341 (by decide +kernel) (by decide) (gC_23 E _) hc_5 rfl rfl rfl (Nat.le_of_ble_eq_true rfl) dX10_copy_33 rfl ?_
        refine a_if_eq (pc' := 39) (tgt := 48) O dX10_copy_36 (by decide) rfl hf (fun hf => ?_) (fun hf => ?_)
        · refine a_aload_n (pc' := 49) O dX10_copy_48 rfl 0 rfl rfl ?_
          refine gfC_0_9 (pc' := 52) O dX10_copy_49 rfl ?_
          refine a_iload_n (pc' := 53) O dX10_copy_52 rfl 1 rfl rfl ?_
          refine a_iload_n (pc' := 54) O dX10_copy_53 rfl 3 rfl rfl ?_
          obtain ⟨z11, h12, hf⟩ := bd_some hf
          refine a_callVI (pc' := 57) (n := 2) (As := [.int a0, .int a2]) (st := []) (q0 := 23) O (ctX5_alike hE a0 a2 σ z11 h12) wm_923 wm_924 wm_925 wm_47 wm_926 (by decide +kernel) (by decide) (gC_23 E _) hc_5 rfl rfl rfl (Nat.le_of_ble_eq_true rfl) dX10_copy_54 rfl ?_
          refine a_if_ne (pc' := 60) (tgt := 69) O dX10_copy_57 (by decide) rfl hf (fun hf => ?_) (fun hf => ?_)
          · refine a_aload_n (pc' := 70) O dX10_copy_69 rfl 0 rfl rfl ?_
            refine gfC_0_9 (pc' := 73) O dX10_copy_70 rfl ?_
            refine a_iload_n (pc' := 74) O dX10_copy_73 rfl 1 rfl rfl ?_
            refine a_iload_n (pc' := 75) O dX10_copy_74 rfl 2 rfl rfl ?_
            refine a_iload (pc' := 77) O dX10_copy_75 5 rfl rfl ?_
            obtain ⟨z13, h14, hf⟩ := bd_some hf
            refine a_callVI (pc' := 80) (n := 3) (As := [.int a0, .int a1, .int a4]) (st := []) (q0 := 23) O (ctX5_holds hE a0 a1 a4 σ z13 h14) wm_927 wm_357 wm_358 wm_47 wm_359 (by decide +kernel) (by decide) (gC_23 E _) hc_5 rfl rfl rfl (Nat.le_of_ble_eq_true rfl) dX10_copy_77 rfl ?_
            refine a_if_eq (pc' := 83) (tgt := 98) O dX10_copy_80 (by decide) rfl hf (fun hf => ?_) (fun hf => ?_)
            · refine a_aload_n (pc' := 99) O dX10_copy_98 rfl 0 rfl rfl ?_
              refine gfC_0_9 (pc' := 102) O dX10_copy_99 rfl ?_
              refine a_iconst (pc' := 103) (v := 2) O dX10_copy_102 (by decide) rfl ?_
              obtain ⟨z15, h16, hf⟩ := bd_some hf
              refine a_callVI (pc' := 106) (n := 1) (As := [.int 2]) (st := []) (q0 := 23) O (ctX5_found hE 2 σ z15 h16) wm_343 wm_344 wm_345 wm_47 wm_346 (by decide +kernel) (by decide) (gC_23 E _) hc_5 rfl rfl rfl (Nat.le_of_ble_eq_true rfl) dX10_copy_103 rfl ?_
              exact a_iret O hf dX10_copy_106
            · refine a_aload_n (pc' := 84) O dX10_copy_83 rfl 0 rfl rfl ?_
              refine gfC_0_9 (pc' := 87) O dX10_copy_84 rfl ?_
              refine a_iload_n (pc' := 88) O dX10_copy_87 rfl 3 rfl rfl ?_
              refine a_iload (pc' := 90) O dX10_copy_88 4 rfl rfl ?_
              refine a_iload (pc' := 92) O dX10_copy_90 5 rfl rfl ?_
              obtain ⟨z17, h18, hf⟩ := bd_some hf
              refine a_callVI (pc' := 95) (n := 3) (As := [.int a2, .int a3, .int a4]) (st := []) (q0 := 23) O (ctX5_holds hE a2 a3 a4 σ z17 h18) wm_927 wm_357 wm_358 wm_47 wm_359 (by decide +kernel) (by decide) (gC_23 E _) hc_5 rfl rfl rfl (Nat.le_of_ble_eq_true rfl) dX10_copy_92 rfl ?_
              refine a_if_ne (pc' := 98) (tgt := 107) O dX10_copy_95 (by decide) rfl hf (fun hf => ?_) (fun hf => ?_)
              · refine a_aload_n (pc' := 108) O dX10_copy_107 rfl 0 rfl rfl ?_
                refine gfC_0_9 (pc' := 111) O dX10_copy_108 rfl ?_
                refine a_iload_n (pc' := 112) O dX10_copy_111 rfl 1 rfl rfl ?_
                refine a_iload_n (pc' := 113) O dX10_copy_112 rfl 2 rfl rfl ?_
                refine a_iload_n (pc' := 114) O dX10_copy_113 rfl 3 rfl rfl ?_
                refine a_iload (pc' := 116) O dX10_copy_114 4 rfl rfl ?_
                refine a_iload (pc' := 118) O dX10_copy_116 5 rfl rfl ?_
                obtain ⟨z19, h20, hf⟩ := bd_some hf
                refine a_callVN (pc' := 121) (n := 5) (As := [.int a0, .int a1, .int a2, .int a3, .int a4]) (st := []) (q0 := 23) O (ctX5_move hE a0 a1 a2 a3 a4 σ z19 h20) wm_928 wm_929 wm_930 wm_47 wm_931 (by decide +kernel) (by decide) (gC_23 E _) hc_5 rfl rfl rfl (Nat.le_of_ble_eq_true rfl) dX10_copy_118 rfl ?_
                refine a_iconst (pc' := 122) (v := 1) O dX10_copy_121 (by decide) rfl ?_
                exact a_iret O hf dX10_copy_122
              · refine a_aload_n (pc' := 99) O dX10_copy_98 rfl 0 rfl rfl ?_
                refine gfC_0_9 (pc' := 102) O dX10_copy_99 rfl ?_
                refine a_iconst (pc' := 103) (v := 2) O dX10_copy_102 (by decide) rfl ?_
                obtain ⟨z21, h22, hf⟩ := bd_some hf
                refine a_callVI (pc' := 106) (n := 1) (As := [.int 2]) (st := []) (q0 := 23) O (ctX5_found hE 2 σ z21 h22) wm_343 wm_344 wm_345 wm_47 wm_346 (by decide +kernel) (by decide) (gC_23 E _) hc_5 rfl rfl rfl (Nat.le_of_ble_eq_true rfl) dX10_copy_103 rfl ?_
                exact a_iret O hf dX10_copy_106
          · refine a_aload_n (pc' := 61) O dX10_copy_60 rfl 0 rfl rfl ?_
            refine gfC_0_9 (pc' := 64) O dX10_copy_61 rfl ?_
            refine a_iconst (pc' := 65) (v := 4) O dX10_copy_64 (by decide) rfl ?_
            obtain ⟨z23, h24, hf⟩ := bd_some hf
            refine a_callVI (pc' := 68) (n := 1) (As := [.int 4]) (st := []) (q0 := 23) O (ctX5_found hE 4 σ z23 h24) wm_343 wm_344 wm_345 wm_47 wm_346 (by decide +kernel) (by decide) (gC_23 E _) hc_5 rfl rfl rfl (Nat.le_of_ble_eq_true rfl) dX10_copy_65 rfl ?_
            exact a_iret O hf dX10_copy_68
        · refine a_aload_n (pc' := 40) O dX10_copy_39 rfl 0 rfl rfl ?_
          refine gfC_0_9 (pc' := 43) O dX10_copy_40 rfl ?_
          refine a_iconst (pc' := 44) (v := 1) O dX10_copy_43 (by decide) rfl ?_
          obtain ⟨z25, h26, hf⟩ := bd_some hf
          refine a_callVI (pc' := 47) (n := 1) (As := [.int 1]) (st := []) (q0 := 23) O (ctX5_found hE 1 σ z25 h26) wm_343 wm_344 wm_345 wm_47 wm_346 (by decide +kernel) (by decide) (gC_23 E _) hc_5 rfl rfl rfl (Nat.le_of_ble_eq_true rfl) dX10_copy_44 rfl ?_
          exact a_iret O hf dX10_copy_47
    · refine a_bipush (pc' := 16) (v := (-2)) O dX10_copy_14 (by decide) rfl ?_
      exact a_iret O hf dX10_copy_16
def rmX10_write : Room := { frames := 5, cells := 0, slots := 0, locals := 124 }
def BX10_write_77 (k77 : St → Int32 → Int32 → Int32 → Option (Int32 × St)) (σ : St) (x1 : Int32) (x2 : Int32) (x3 : Int32) : Option (Int32 × St) :=
  if x2 ≤ x3 then some (x2, σ) else ((fX9_remains x3 σ).bind (fun z14 => (fX5_put x1 x3 z14 σ).bind (fun z16 => bI (x3 + 1) (fun v18 => k77 z16 x1 x2 v18))))
set_option maxRecDepth 100000 in
theorem okBX10_write_77 {E : ET} {X : XT} {z : Int32 × St} (O : Ok (YC E) X cX10_write 4 RX10 (some .int) rmX10_write (some (.int z.1)) z.2) (k77 : St → Int32 → Int32 → Int32 → Option (Int32 × St)) (hk77 : ∀ (σ : St) (x1 : Int32) (x2 : Int32) (x3 : Int32), k77 σ x1 x2 x3 = some z → At (YC E) X 4 77 [(0, .ref (E.2.2.2.2 0)), (1, .int x1), (2, .int x2), (3, .int x3)] [] σ) (σ : St) (x1 : Int32) (x2 : Int32) (x3 : Int32) (hf : BX10_write_77 k77 σ x1 x2 x3 = some z) : At (YC E) X 4 77 [(0, .ref (E.2.2.2.2 0)), (1, .int x1), (2, .int x2), (3, .int x3)] [] σ := by
  have hE := O.2.2.2.2.2.2.2.2.2.1
  unfold BX10_write_77 at hf
  refine a_iload_n (pc' := 78) O dX10_write_77 rfl 3 rfl rfl ?_
  refine a_iload_n (pc' := 79) O dX10_write_78 rfl 2 rfl rfl ?_
  refine a_icmp_ge (pc' := 82) (tgt := 105) O dX10_write_79 (by decide) rfl hf (fun hf => ?_) (fun hf => ?_)
  · refine a_iload_n (pc' := 106) O dX10_write_105 rfl 2 rfl rfl ?_
    exact a_iret O hf dX10_write_106
  · refine a_aload_n (pc' := 83) O dX10_write_82 rfl 0 rfl rfl ?_
    refine gfC_0_9 (pc' := 86) O dX10_write_83 rfl ?_
    refine a_iload_n (pc' := 87) O dX10_write_86 rfl 1 rfl rfl ?_
    refine a_iload_n (pc' := 88) O dX10_write_87 rfl 3 rfl rfl ?_
    refine a_aload_n (pc' := 89) O dX10_write_88 rfl 0 rfl rfl ?_
    refine gfC_0_5 (pc' := 92) O dX10_write_89 rfl ?_
    refine a_iload_n (pc' := 93) O dX10_write_92 rfl 3 rfl rfl ?_
    obtain ⟨z14, h15, hf⟩ := bd_some hf
    refine a_callVI (pc' := 96) (n := 1) (As := [.int x3]) (st := [.int x3, .int x1, .ref (E.2.2.2.2 23)]) (q0 := 10) O (ctX9_remains hE x3 σ z14 h15) wm_626 wm_627 wm_628 wm_31 wm_629 (by decide +kernel) (by decide) (gC_10 E _) hc_9 rfl rfl rfl (Nat.le_of_ble_eq_true rfl) dX10_write_93 rfl ?_
    obtain ⟨z16, h17, hf⟩ := bd_some hf
    refine a_callVN (pc' := 99) (n := 3) (As := [.int x1, .int x3, .int z14]) (st := []) (q0 := 23) O (ctX5_put hE x1 x3 z14 σ z16 h17) wm_891 wm_892 wm_893 wm_47 wm_894 (by decide +kernel) (by decide) (gC_23 E _) hc_5 rfl rfl rfl (Nat.le_of_ble_eq_true rfl) dX10_write_96 rfl ?_
    refine a_iincB (pc' := 102) (lv' := fun v18 => [(3, .int v18), (0, .ref (E.2.2.2.2 0)), (1, .int x1), (2, .int x2)]) (c0 := 1) O dX10_write_99 3 rfl (by decide) (by decide) (fun _ => rfl) rfl hf (fun v18 hf => ?_)
    refine a_goto (tgt := 77) O dX10_write_102 (by decide) ?_
    exact a_sub [1, 2, 3, 0] rfl (hk77 z16 x1 x2 v18 hf)
def LX10_write_77 : Nat → St → Int32 → Int32 → Int32 → Option (Int32 × St)
  | 0, _, _, _, _ => none
  | n + 1, σ, x1, x2, x3 => BX10_write_77 (LX10_write_77 n) σ x1 x2 x3
theorem okLX10_write_77 {E : ET} {X : XT} {z : Int32 × St} (O : Ok (YC E) X cX10_write 4 RX10 (some .int) rmX10_write (some (.int z.1)) z.2) : ∀ (n : Nat) (σ : St) (x1 : Int32) (x2 : Int32) (x3 : Int32), LX10_write_77 n σ x1 x2 x3 = some z → At (YC E) X 4 77 [(0, .ref (E.2.2.2.2 0)), (1, .int x1), (2, .int x2), (3, .int x3)] [] σ := by
  intro n
  induction n with
  | zero =>
    intro σ x1 x2 x3 hf
    rw [LX10_write_77] at hf
    cases hf
  | succ n ih =>
    intro σ x1 x2 x3 hf
    rw [LX10_write_77] at hf
    exact okBX10_write_77 O (LX10_write_77 n) ih σ x1 x2 x3 hf
def fX10_write (a0 : Int32) (σ : St) : Option (Int32 × St) :=
  (fX5_exists a0).bind (fun z1 => if z1 = 0 then some ((-2), σ) else ((fX5_isLost a0 σ).bind (fun z3 => if z3 = 0 then (fX4_size σ).bind (fun z5 => (fX9_run z5 σ).bind (fun z7 => (fX5_size a0 z7).bind (fun z9 => (fX3_party z7).bind (fun z11 => bI (if z11 < z9 then z11 else z9) (fun v13 => LX10_write_77 fu z7 a0 v13 0))))) else ((fX5_found 1 σ).bind (fun z19 => some (z19.1, z19.2))))))
set_option maxRecDepth 100000 in
theorem ctX10_write {E : ET} (hE : Dj (YC E)) (a0 : Int32) (σ : St) (z : Int32 × St) (hf : fX10_write a0 σ = some z) : Ct (YC E) yX10_write cX10_write 4 (some .int) rmX10_write [.ref (E.2.2.2.2 0), .int a0] σ (some (.int z.1)) z.2 := by
  refine Ct.of hE (by decide) (Nat.le_of_ble_eq_true rfl) (fun X O => ?_)
  have O : Ok (YC E) X cX10_write 4 RX10 (some .int) rmX10_write (some (.int z.1)) z.2 := O
  show At (YC E) X 4 0 [(0, .ref (E.2.2.2.2 0)), (1, .int a0)] [] σ
  unfold fX10_write at hf
  refine a_iload_n (pc' := 1) O dX10_write_0 rfl 1 rfl rfl ?_
  obtain ⟨z1, h2, hf⟩ := bd_some hf
  refine a_callSI (pc' := 4) (n := 1) (As := [.int a0]) (st := []) O (ctX5_exists hE a0 σ z1 h2) wm_335 wm_336 wm_47 wm_337 (by decide +kernel) (by decide) rfl rfl (Nat.le_of_ble_eq_true rfl) dX10_write_1 rfl ?_
  refine a_if_ne (pc' := 7) (tgt := 10) O dX10_write_4 (by decide) rfl hf (fun hf => ?_) (fun hf => ?_)
  · refine a_aload_n (pc' := 11) O dX10_write_10 rfl 0 rfl rfl ?_
    refine gfC_0_9 (pc' := 14) O dX10_write_11 rfl ?_
    refine a_iload_n (pc' := 15) O dX10_write_14 rfl 1 rfl rfl ?_
    obtain ⟨z3, h4, hf⟩ := bd_some hf
    refine a_callVI (pc' := 18) (n := 1) (As := [.int a0]) (st := []) (q0 := 23) O (ctX5_isLost hE a0 σ z3 h4) wm_338 wm_339 wm_340 wm_47 wm_341 (by decide +kernel) (by decide) (gC_23 E _) hc_5 rfl rfl rfl (Nat.le_of_ble_eq_true rfl) dX10_write_15 rfl ?_
    refine a_if_eq (pc' := 21) (tgt := 30) O dX10_write_18 (by decide) rfl hf (fun hf => ?_) (fun hf => ?_)
    · refine a_aload_n (pc' := 31) O dX10_write_30 rfl 0 rfl rfl ?_
      refine gfC_0_5 (pc' := 34) O dX10_write_31 rfl ?_
      refine a_aload_n (pc' := 35) O dX10_write_34 rfl 0 rfl rfl ?_
      refine gfC_0_1 (pc' := 38) O dX10_write_35 rfl ?_
      refine a_aload_n (pc' := 39) O dX10_write_38 rfl 0 rfl rfl ?_
      refine gfC_0_3 (pc' := 42) O dX10_write_39 rfl ?_
      obtain ⟨z5, h6, hf⟩ := bd_some hf
      refine a_callVI (pc' := 45) (n := 0) (As := []) (st := [.ref (E.2.2.2.2 3), .ref (E.2.2.2.2 10)]) (q0 := 7) O (ctX4_size hE σ z5 h6) wm_520 wm_521 wm_522 wm_23 wm_523 (by decide +kernel) (by decide) (gC_7 E _) hc_4 rfl rfl rfl (Nat.le_of_ble_eq_true rfl) dX10_write_42 rfl ?_
      refine a_aload_n (pc' := 46) O dX10_write_45 rfl 0 rfl rfl ?_
      refine gfC_0_2 (pc' := 49) O dX10_write_46 rfl ?_
      refine a_aload_n (pc' := 50) O dX10_write_49 rfl 0 rfl rfl ?_
      refine gfC_0_4 (pc' := 53) O dX10_write_50 rfl ?_
      obtain ⟨z7, h8, hf⟩ := bd_some hf
      refine a_callVN (pc' := 56) (n := 4) (As := [.ref (E.2.2.2.2 3), .int z5, .ref (E.2.2.2.2 5), .ref (E.2.2.2.2 8)]) (st := []) (q0 := 10) O (ctX9_run hE z5 σ z7 h8) wm_524 wm_525 wm_526 wm_31 wm_527 (by decide +kernel) (by decide) (gC_10 E _) hc_9 rfl rfl rfl (Nat.le_of_ble_eq_true rfl) dX10_write_53 rfl ?_
      refine a_aload_n (pc' := 57) O dX10_write_56 rfl 0 rfl rfl ?_
      refine gfC_0_9 (pc' := 60) O dX10_write_57 rfl ?_
      refine a_iload_n (pc' := 61) O dX10_write_60 rfl 1 rfl rfl ?_
      obtain ⟨z9, h10, hf⟩ := bd_some hf
      refine a_callVI (pc' := 64) (n := 1) (As := [.int a0]) (st := []) (q0 := 23) O (ctX5_size hE a0 z7 z9 h10) wm_347 wm_348 wm_349 wm_47 wm_350 (by decide +kernel) (by decide) (gC_23 E _) hc_5 rfl rfl rfl (Nat.le_of_ble_eq_true rfl) dX10_write_61 rfl ?_
      refine a_aload_n (pc' := 65) O dX10_write_64 rfl 0 rfl rfl ?_
      refine gfC_0_4 (pc' := 68) O dX10_write_65 rfl ?_
      obtain ⟨z11, h12, hf⟩ := bd_some hf
      refine a_callVI (pc' := 71) (n := 0) (As := []) (st := [.int z9]) (q0 := 8) O (ctX3_party hE z7 z11 h12) wm_298 wm_299 wm_300 wm_27 wm_301 (by decide +kernel) (by decide) (gC_8 E _) hc_3 rfl rfl rfl (Nat.le_of_ble_eq_true rfl) dX10_write_68 rfl ?_
      refine a_mmin (pc' := 74) O wm_332 wm_333 wm_60 wm_334 (by decide) (by decide) (Nat.le_of_ble_eq_true rfl) dX10_write_71 rfl ?_
      refine a_topi hf (fun v13 hf => ?_)
      refine a_istore_n (pc' := 75) (lv' := [(2, .int v13), (0, .ref (E.2.2.2.2 0)), (1, .int a0)]) O dX10_write_74 rfl (by decide) rfl rfl ?_
      refine a_iconst (pc' := 76) (v := 0) O dX10_write_75 (by decide) rfl ?_
      refine a_istore_n (pc' := 77) (lv' := [(3, .int 0), (2, .int v13), (0, .ref (E.2.2.2.2 0)), (1, .int a0)]) O dX10_write_76 rfl (by decide) rfl rfl ?_
      exact a_sub [2, 3, 1, 0] rfl (okLX10_write_77 O fu z7 a0 v13 0 hf)
    · refine a_aload_n (pc' := 22) O dX10_write_21 rfl 0 rfl rfl ?_
      refine gfC_0_9 (pc' := 25) O dX10_write_22 rfl ?_
      refine a_iconst (pc' := 26) (v := 1) O dX10_write_25 (by decide) rfl ?_
      obtain ⟨z19, h20, hf⟩ := bd_some hf
      refine a_callVI (pc' := 29) (n := 1) (As := [.int 1]) (st := []) (q0 := 23) O (ctX5_found hE 1 σ z19 h20) wm_343 wm_344 wm_345 wm_47 wm_346 (by decide +kernel) (by decide) (gC_23 E _) hc_5 rfl rfl rfl (Nat.le_of_ble_eq_true rfl) dX10_write_26 rfl ?_
      exact a_iret O hf dX10_write_29
  · refine a_bipush (pc' := 9) (v := (-2)) O dX10_write_7 (by decide) rfl ?_
    exact a_iret O hf dX10_write_9
def rmX10_count : Room := { frames := 3, cells := 0, slots := 0, locals := 66 }
def fX10_count (a0 : Int32) (σ : St) : Option Int32 :=
  if a0 = 0 then (fX1_size σ).bind (fun z1 => some z1) else (if a0 = 1 then (fX4_size σ).bind (fun z3 => some z3) else (if a0 = 2 then (fX7_length_1 σ).bind (fun z5 => some z5) else (if a0 = 3 then (fX7_length_3 σ).bind (fun z7 => some z7) else (if a0 = 4 then (fX3_party σ).bind (fun z9 => some z9) else (if a0 = 5 then (fX1_allIn σ).bind (fun z11 => some z11) else (if a0 = 6 then (fX6_size σ).bind (fun z13 => some z13) else (if a0 = 7 then (fX0_size σ).bind (fun z15 => some z15) else (if a0 = 8 then (fX5_latestFinding σ).bind (fun z17 => some z17) else (some (-2))))))))))
set_option maxRecDepth 100000 in
theorem ctX10_count {E : ET} (hE : Dj (YC E)) (a0 : Int32) (σ : St) (z : Int32) (hf : fX10_count a0 σ = some z) : Ct (YC E) yX10_count cX10_count 2 (some .int) rmX10_count [.ref (E.2.2.2.2 0), .int a0] σ (some (.int z)) σ := by
  refine Ct.of hE (by decide) (Nat.le_of_ble_eq_true rfl) (fun X O => ?_)
  have O : Ok (YC E) X cX10_count 2 RX10 (some .int) rmX10_count (some (.int z)) σ := O
  show At (YC E) X 2 0 [(0, .ref (E.2.2.2.2 0)), (1, .int a0)] [] σ
  unfold fX10_count at hf
  refine a_iload_n (pc' := 1) O dX10_count_0 rfl 1 rfl rfl ?_
  by_cases c19 : a0 = 0
  · rw [if_pos c19] at hf
    refine a_tswIn (tgt := 52) (k0 := 0) (off := 51) O c19 dX10_count_1 (by decide) (by decide) (by decide) (by decide) ?_
    refine a_aload_n (pc' := 53) O dX10_count_52 rfl 0 rfl rfl ?_
    refine gfC_0_2 (pc' := 56) O dX10_count_53 rfl ?_
    obtain ⟨z1, h2, hf⟩ := bd_some hf
    refine a_callVI (pc' := 59) (n := 0) (As := []) (st := []) (q0 := 5) O (ctX1_size hE σ z1 h2) wm_273 wm_274 wm_275 wm_19 wm_276 (by decide +kernel) (by decide) (gC_5 E _) hc_1 rfl rfl rfl (Nat.le_of_ble_eq_true rfl) dX10_count_56 rfl ?_
    exact a_iretP O hf dX10_count_59
  · rw [if_neg c19] at hf
    by_cases c20 : a0 = 1
    · rw [if_pos c20] at hf
      refine a_tswIn (tgt := 60) (k0 := 1) (off := 59) O c20 dX10_count_1 (by decide) (by decide) (by decide) (by decide) ?_
      refine a_aload_n (pc' := 61) O dX10_count_60 rfl 0 rfl rfl ?_
      refine gfC_0_3 (pc' := 64) O dX10_count_61 rfl ?_
      obtain ⟨z3, h4, hf⟩ := bd_some hf
      refine a_callVI (pc' := 67) (n := 0) (As := []) (st := []) (q0 := 7) O (ctX4_size hE σ z3 h4) wm_520 wm_521 wm_522 wm_23 wm_523 (by decide +kernel) (by decide) (gC_7 E _) hc_4 rfl rfl rfl (Nat.le_of_ble_eq_true rfl) dX10_count_64 rfl ?_
      exact a_iretP O hf dX10_count_67
    · rw [if_neg c20] at hf
      by_cases c21 : a0 = 2
      · rw [if_pos c21] at hf
        refine a_tswIn (tgt := 68) (k0 := 2) (off := 67) O c21 dX10_count_1 (by decide) (by decide) (by decide) (by decide) ?_
        refine a_aload_n (pc' := 69) O dX10_count_68 rfl 0 rfl rfl ?_
        refine gfC_0_0 (pc' := 72) O dX10_count_69 rfl ?_
        obtain ⟨z5, h6, hf⟩ := bd_some hf
        refine a_callVI (pc' := 75) (n := 0) (As := []) (st := []) (q0 := 1) O (ctX7_length_1 hE σ z5 h6) wm_192 wm_169 wm_170 wm_14 wm_171 (by decide +kernel) (by decide) (gC_1 E _) hc_7 rfl rfl rfl (Nat.le_of_ble_eq_true rfl) dX10_count_72 rfl ?_
        exact a_iretP O hf dX10_count_75
      · rw [if_neg c21] at hf
        by_cases c22 : a0 = 3
        · rw [if_pos c22] at hf
          refine a_tswIn (tgt := 76) (k0 := 3) (off := 75) O c22 dX10_count_1 (by decide) (by decide) (by decide) (by decide) ?_
          refine a_aload_n (pc' := 77) O dX10_count_76 rfl 0 rfl rfl ?_
          refine gfC_0_1 (pc' := 80) O dX10_count_77 rfl ?_
          obtain ⟨z7, h8, hf⟩ := bd_some hf
          refine a_callVI (pc' := 83) (n := 0) (As := []) (st := []) (q0 := 3) O (ctX7_length_3 hE σ z7 h8) wm_192 wm_169 wm_170 wm_14 wm_171 (by decide +kernel) (by decide) (gC_3 E _) hc_7 rfl rfl rfl (Nat.le_of_ble_eq_true rfl) dX10_count_80 rfl ?_
          exact a_iretP O hf dX10_count_83
        · rw [if_neg c22] at hf
          by_cases c23 : a0 = 4
          · rw [if_pos c23] at hf
            refine a_tswIn (tgt := 84) (k0 := 4) (off := 83) O c23 dX10_count_1 (by decide) (by decide) (by decide) (by decide) ?_
            refine a_aload_n (pc' := 85) O dX10_count_84 rfl 0 rfl rfl ?_
            refine gfC_0_4 (pc' := 88) O dX10_count_85 rfl ?_
            obtain ⟨z9, h10, hf⟩ := bd_some hf
            refine a_callVI (pc' := 91) (n := 0) (As := []) (st := []) (q0 := 8) O (ctX3_party hE σ z9 h10) wm_298 wm_299 wm_300 wm_27 wm_301 (by decide +kernel) (by decide) (gC_8 E _) hc_3 rfl rfl rfl (Nat.le_of_ble_eq_true rfl) dX10_count_88 rfl ?_
            exact a_iretP O hf dX10_count_91
          · rw [if_neg c23] at hf
            by_cases c24 : a0 = 5
            · rw [if_pos c24] at hf
              refine a_tswIn (tgt := 92) (k0 := 5) (off := 91) O c24 dX10_count_1 (by decide) (by decide) (by decide) (by decide) ?_
              refine a_aload_n (pc' := 93) O dX10_count_92 rfl 0 rfl rfl ?_
              refine gfC_0_2 (pc' := 96) O dX10_count_93 rfl ?_
              obtain ⟨z11, h12, hf⟩ := bd_some hf
              refine a_callVI (pc' := 99) (n := 0) (As := []) (st := []) (q0 := 5) O (ctX1_allIn hE σ z11 h12) wm_496 wm_497 wm_498 wm_19 wm_499 (by decide +kernel) (by decide) (gC_5 E _) hc_1 rfl rfl rfl (Nat.le_of_ble_eq_true rfl) dX10_count_96 rfl ?_
              exact a_iretP O hf dX10_count_99
            · rw [if_neg c24] at hf
              by_cases c25 : a0 = 6
              · rw [if_pos c25] at hf
                refine a_tswIn (tgt := 100) (k0 := 6) (off := 99) O c25 dX10_count_1 (by decide) (by decide) (by decide) (by decide) ?_
                refine a_aload_n (pc' := 101) O dX10_count_100 rfl 0 rfl rfl ?_
                refine gfC_0_7 (pc' := 104) O dX10_count_101 rfl ?_
                obtain ⟨z13, h14, hf⟩ := bd_some hf
                refine a_callVI (pc' := 107) (n := 0) (As := []) (st := []) (q0 := 14) O (ctX6_size hE σ z13 h14) wm_730 wm_731 wm_732 wm_39 wm_733 (by decide +kernel) (by decide) (gC_14 E _) hc_6 rfl rfl rfl (Nat.le_of_ble_eq_true rfl) dX10_count_104 rfl ?_
                exact a_iretP O hf dX10_count_107
              · rw [if_neg c25] at hf
                by_cases c26 : a0 = 7
                · rw [if_pos c26] at hf
                  refine a_tswIn (tgt := 108) (k0 := 7) (off := 107) O c26 dX10_count_1 (by decide) (by decide) (by decide) (by decide) ?_
                  refine a_aload_n (pc' := 109) O dX10_count_108 rfl 0 rfl rfl ?_
                  refine gfC_0_8 (pc' := 112) O dX10_count_109 rfl ?_
                  obtain ⟨z15, h16, hf⟩ := bd_some hf
                  refine a_callVI (pc' := 115) (n := 0) (As := []) (st := []) (q0 := 18) O (ctX0_size hE σ z15 h16) wm_803 wm_804 wm_805 wm_43 wm_806 (by decide +kernel) (by decide) (gC_18 E _) hc_0 rfl rfl rfl (Nat.le_of_ble_eq_true rfl) dX10_count_112 rfl ?_
                  exact a_iretP O hf dX10_count_115
                · rw [if_neg c26] at hf
                  by_cases c27 : a0 = 8
                  · rw [if_pos c27] at hf
                    refine a_tswIn (tgt := 116) (k0 := 8) (off := 115) O c27 dX10_count_1 (by decide) (by decide) (by decide) (by decide) ?_
                    refine a_aload_n (pc' := 117) O dX10_count_116 rfl 0 rfl rfl ?_
                    refine gfC_0_9 (pc' := 120) O dX10_count_117 rfl ?_
                    obtain ⟨z17, h18, hf⟩ := bd_some hf
                    refine a_callVI (pc' := 123) (n := 0) (As := []) (st := []) (q0 := 23) O (ctX5_latestFinding hE σ z17 h18) wm_952 wm_953 wm_954 wm_47 wm_955 (by decide +kernel) (by decide) (gC_23 E _) hc_5 rfl rfl rfl (Nat.le_of_ble_eq_true rfl) dX10_count_120 rfl ?_
                    exact a_iretP O hf dX10_count_123
                  · rw [if_neg c27] at hf
                    refine a_tswOut (tgt := 124) O dX10_count_1 (sw_out8 c19 c20 c21 c22 c23 c24 c25 c26 c27) (by decide) ?_
                    refine a_bipush (pc' := 126) (v := (-2)) O dX10_count_124 (by decide) rfl ?_
                    exact a_iretP O hf dX10_count_126
def rmX10_mix : Room := { frames := 0, cells := 0, slots := 0, locals := 0 }
def fX10_mix (a0 : Int64) (a1 : Int64) : Option Int64 :=
  some ((31 * a0) + a1)
set_option maxRecDepth 100000 in
theorem ctX10_mix {E : ET} (hE : Dj (YC E)) (a0 : Int64) (a1 : Int64) (σ : St) (z : Int64) (hf : fX10_mix a0 a1 = some z) : Ct (YC E) yX10_mix cX10_mix 4 (some .long) rmX10_mix [.long a0, .long a1] σ (some (.long z)) σ := by
  refine Ct.of hE (by decide) (Nat.le_of_ble_eq_true rfl) (fun X O => ?_)
  have O : Ok (YC E) X cX10_mix 4 RX10 (some .long) rmX10_mix (some (.long z)) σ := O
  show At (YC E) X 4 0 [(0, .long a0), (2, .long a1)] [] σ
  unfold fX10_mix at hf
  refine a_ldc2 (pc' := 3) (v := 31) O wm_969 dX10_mix_0 rfl ?_
  refine a_lload_n (pc' := 4) O dX10_mix_3 rfl 0 rfl rfl ?_
  refine a_lmul (pc' := 5) O dX10_mix_4 rfl ?_
  refine a_lload_n (pc' := 6) O dX10_mix_5 rfl 1 rfl rfl ?_
  refine a_ladd (pc' := 7) O dX10_mix_6 rfl ?_
  exact a_lretP O hf dX10_mix_7
def rmX10_mixGoers : Room := { frames := 5, cells := 0, slots := 0, locals := 124 }
def BX10_mixGoers_31 (k31 : St → Int64 → Int32 → Option (Int64 × St)) (σ : St) (x3 : Int64) (x5 : Int32) : Option (Int64 × St) :=
  (fX3_party σ).bind (fun z5 => if z5 ≤ x5 then some (x3, σ) else ((fX10_far x5 0 σ).bind (fun z7 => (fX10_mix x3 z7.1).bind (fun z9 => (fX10_far x5 1 z7.2).bind (fun z11 => (fX10_mix z9 z11.1).bind (fun z13 => (fX9_remains x5 z11.2).bind (fun z15 => (fX10_mix z13 (z15.toInt64)).bind (fun z17 => (fX10_unlit 3 x5 0 z11.2).bind (fun z19 => (fX10_mix z17 (z19.1.toInt64)).bind (fun z21 => (fX10_unlit 3 x5 1 z19.2).bind (fun z23 => (fX10_mix z21 (z23.1.toInt64)).bind (fun z25 => bI (x5 + 1) (fun v27 => k31 z23.2 z25 v27)))))))))))))
set_option maxRecDepth 100000 in
theorem okBX10_mixGoers_31 {E : ET} {X : XT} {z : Int64 × St} (O : Ok (YC E) X cX10_mixGoers 6 RX10 (some .long) rmX10_mixGoers (some (.long z.1)) z.2) (k31 : St → Int64 → Int32 → Option (Int64 × St)) (hk31 : ∀ (σ : St) (x3 : Int64) (x5 : Int32), k31 σ x3 x5 = some z → At (YC E) X 6 31 [(0, .ref (E.2.2.2.2 0)), (3, .long x3), (5, .int x5)] [] σ) (σ : St) (x3 : Int64) (x5 : Int32) (hf : BX10_mixGoers_31 k31 σ x3 x5 = some z) : At (YC E) X 6 31 [(0, .ref (E.2.2.2.2 0)), (3, .long x3), (5, .int x5)] [] σ := by
  have hE := O.2.2.2.2.2.2.2.2.2.1
  unfold BX10_mixGoers_31 at hf
  refine a_iload (pc' := 33) O dX10_mixGoers_31 2 rfl rfl ?_
  refine a_aload_n (pc' := 34) O dX10_mixGoers_33 rfl 0 rfl rfl ?_
  refine gfC_0_4 (pc' := 37) O dX10_mixGoers_34 rfl ?_
  obtain ⟨z5, h6, hf⟩ := bd_some hf
  refine a_callVI (pc' := 40) (n := 0) (As := []) (st := [.int x5]) (q0 := 8) O (ctX3_party hE σ z5 h6) wm_298 wm_299 wm_300 wm_27 wm_301 (by decide +kernel) (by decide) (gC_8 E _) hc_3 rfl rfl rfl (Nat.le_of_ble_eq_true rfl) dX10_mixGoers_37 rfl ?_
  refine a_icmp_ge (pc' := 43) (tgt := 112) O dX10_mixGoers_40 (by decide) rfl hf (fun hf => ?_) (fun hf => ?_)
  · refine a_lload_n (pc' := 113) O dX10_mixGoers_112 rfl 1 rfl rfl ?_
    exact a_lret O hf dX10_mixGoers_113
  · refine a_lload_n (pc' := 44) O dX10_mixGoers_43 rfl 1 rfl rfl ?_
    refine a_aload_n (pc' := 45) O dX10_mixGoers_44 rfl 0 rfl rfl ?_
    refine a_iload (pc' := 47) O dX10_mixGoers_45 2 rfl rfl ?_
    refine a_iconst (pc' := 48) (v := 0) O dX10_mixGoers_47 (by decide) rfl ?_
    obtain ⟨z7, h8, hf⟩ := bd_some hf
    refine a_callVL (pc' := 51) (n := 2) (As := [.int x5, .int 0]) (st := [.long x3]) (q0 := 0) O (ctX10_far hE x5 0 σ z7 h8) wm_976 wm_375 wm_376 wm_2 wm_377 (by decide +kernel) (by decide) (gC_0 E _) hc_10 rfl rfl rfl (Nat.le_of_ble_eq_true rfl) dX10_mixGoers_48 rfl ?_
    obtain ⟨z9, h10, hf⟩ := bd_some hf
    refine a_callSL (pc' := 54) (n := 2) (As := [.long x3, .long z7.1]) (st := []) O (ctX10_mix hE x3 z7.1 z7.2 z9 h10) wm_966 wm_967 wm_2 wm_968 (by decide +kernel) (by decide) rfl rfl (Nat.le_of_ble_eq_true rfl) dX10_mixGoers_51 rfl ?_
    refine a_aload_n (pc' := 55) O dX10_mixGoers_54 rfl 0 rfl rfl ?_
    refine a_iload (pc' := 57) O dX10_mixGoers_55 2 rfl rfl ?_
    refine a_iconst (pc' := 58) (v := 1) O dX10_mixGoers_57 (by decide) rfl ?_
    obtain ⟨z11, h12, hf⟩ := bd_some hf
    refine a_callVL (pc' := 61) (n := 2) (As := [.int x5, .int 1]) (st := [.long z9]) (q0 := 0) O (ctX10_far hE x5 1 z7.2 z11 h12) wm_976 wm_375 wm_376 wm_2 wm_377 (by decide +kernel) (by decide) (gC_0 E _) hc_10 rfl rfl rfl (Nat.le_of_ble_eq_true rfl) dX10_mixGoers_58 rfl ?_
    obtain ⟨z13, h14, hf⟩ := bd_some hf
    refine a_callSL (pc' := 64) (n := 2) (As := [.long z9, .long z11.1]) (st := []) O (ctX10_mix hE z9 z11.1 z11.2 z13 h14) wm_966 wm_967 wm_2 wm_968 (by decide +kernel) (by decide) rfl rfl (Nat.le_of_ble_eq_true rfl) dX10_mixGoers_61 rfl ?_
    refine a_lstore_n (pc' := 65) (lv' := [(3, .long z13), (0, .ref (E.2.2.2.2 0)), (5, .int x5)]) O dX10_mixGoers_64 rfl (by decide) rfl rfl ?_
    refine a_lload_n (pc' := 66) O dX10_mixGoers_65 rfl 0 rfl rfl ?_
    refine a_aload_n (pc' := 67) O dX10_mixGoers_66 rfl 1 rfl rfl ?_
    refine gfC_0_5 (pc' := 70) O dX10_mixGoers_67 rfl ?_
    refine a_iload (pc' := 72) O dX10_mixGoers_70 2 rfl rfl ?_
    obtain ⟨z15, h16, hf⟩ := bd_some hf
    refine a_callVI (pc' := 75) (n := 1) (As := [.int x5]) (st := [.long z13]) (q0 := 10) O (ctX9_remains hE x5 z11.2 z15 h16) wm_626 wm_627 wm_628 wm_31 wm_629 (by decide +kernel) (by decide) (gC_10 E _) hc_9 rfl rfl rfl (Nat.le_of_ble_eq_true rfl) dX10_mixGoers_72 rfl ?_
    refine a_i2l (pc' := 76) O dX10_mixGoers_75 rfl rfl ?_
    obtain ⟨z17, h18, hf⟩ := bd_some hf
    refine a_callSL (pc' := 79) (n := 2) (As := [.long z13, .long (z15.toInt64)]) (st := []) O (ctX10_mix hE z13 (z15.toInt64) z11.2 z17 h18) wm_966 wm_967 wm_2 wm_968 (by decide +kernel) (by decide) rfl rfl (Nat.le_of_ble_eq_true rfl) dX10_mixGoers_76 rfl ?_
    refine a_lstore_n (pc' := 80) (lv' := [(3, .long z17), (0, .ref (E.2.2.2.2 0)), (5, .int x5)]) O dX10_mixGoers_79 rfl (by decide) rfl rfl ?_
    refine a_lload_n (pc' := 81) O dX10_mixGoers_80 rfl 0 rfl rfl ?_
    refine a_aload_n (pc' := 82) O dX10_mixGoers_81 rfl 1 rfl rfl ?_
    refine a_iconst (pc' := 83) (v := 3) O dX10_mixGoers_82 (by decide) rfl ?_
    refine a_iload (pc' := 85) O dX10_mixGoers_83 2 rfl rfl ?_
    refine a_iconst (pc' := 86) (v := 0) O dX10_mixGoers_85 (by decide) rfl ?_
    obtain ⟨z19, h20, hf⟩ := bd_some hf
    refine a_callVI (pc' := 89) (n := 3) (As := [.int 3, .int x5, .int 0]) (st := [.long z17]) (q0 := 0) O (ctX10_unlit hE 3 x5 0 z11.2 z19 h20) wm_977 wm_651 wm_652 wm_2 wm_653 (by decide +kernel) (by decide) (gC_0 E _) hc_10 rfl rfl rfl (Nat.le_of_ble_eq_true rfl) dX10_mixGoers_86 rfl ?_
    refine a_i2l (pc' := 90) O dX10_mixGoers_89 rfl rfl ?_
    obtain ⟨z21, h22, hf⟩ := bd_some hf
    refine a_callSL (pc' := 93) (n := 2) (As := [.long z17, .long (z19.1.toInt64)]) (st := []) O (ctX10_mix hE z17 (z19.1.toInt64) z19.2 z21 h22) wm_966 wm_967 wm_2 wm_968 (by decide +kernel) (by decide) rfl rfl (Nat.le_of_ble_eq_true rfl) dX10_mixGoers_90 rfl ?_
    refine a_aload_n (pc' := 94) O dX10_mixGoers_93 rfl 1 rfl rfl ?_
    refine a_iconst (pc' := 95) (v := 3) O dX10_mixGoers_94 (by decide) rfl ?_
    refine a_iload (pc' := 97) O dX10_mixGoers_95 2 rfl rfl ?_
    refine a_iconst (pc' := 98) (v := 1) O dX10_mixGoers_97 (by decide) rfl ?_
    obtain ⟨z23, h24, hf⟩ := bd_some hf
    refine a_callVI (pc' := 101) (n := 3) (As := [.int 3, .int x5, .int 1]) (st := [.long z21]) (q0 := 0) O (ctX10_unlit hE 3 x5 1 z19.2 z23 h24) wm_977 wm_651 wm_652 wm_2 wm_653 (by decide +kernel) (by decide) (gC_0 E _) hc_10 rfl rfl rfl (Nat.le_of_ble_eq_true rfl) dX10_mixGoers_98 rfl ?_
    refine a_i2l (pc' := 102) O dX10_mixGoers_101 rfl rfl ?_
    obtain ⟨z25, h26, hf⟩ := bd_some hf
    refine a_callSL (pc' := 105) (n := 2) (As := [.long z21, .long (z23.1.toInt64)]) (st := []) O (ctX10_mix hE z21 (z23.1.toInt64) z23.2 z25 h26) wm_966 wm_967 wm_2 wm_968 (by decide +kernel) (by decide) rfl rfl (Nat.le_of_ble_eq_true rfl) dX10_mixGoers_102 rfl ?_
    refine a_lstore_n (pc' := 106) (lv' := [(3, .long z25), (0, .ref (E.2.2.2.2 0)), (5, .int x5)]) O dX10_mixGoers_105 rfl (by decide) rfl rfl ?_
    refine a_iincB (pc' := 109) (lv' := fun v27 => [(5, .int v27), (3, .long z25), (0, .ref (E.2.2.2.2 0))]) (c0 := 1) O dX10_mixGoers_106 2 rfl (by decide) (by decide) (fun _ => rfl) rfl hf (fun v27 hf => ?_)
    refine a_goto (tgt := 31) O dX10_mixGoers_109 (by decide) ?_
    exact a_sub [2, 1, 0] rfl (hk31 z23.2 z25 v27 hf)
def LX10_mixGoers_31 : Nat → St → Int64 → Int32 → Option (Int64 × St)
  | 0, _, _, _ => none
  | n + 1, σ, x3, x5 => BX10_mixGoers_31 (LX10_mixGoers_31 n) σ x3 x5
theorem okLX10_mixGoers_31 {E : ET} {X : XT} {z : Int64 × St} (O : Ok (YC E) X cX10_mixGoers 6 RX10 (some .long) rmX10_mixGoers (some (.long z.1)) z.2) : ∀ (n : Nat) (σ : St) (x3 : Int64) (x5 : Int32), LX10_mixGoers_31 n σ x3 x5 = some z → At (YC E) X 6 31 [(0, .ref (E.2.2.2.2 0)), (3, .long x3), (5, .int x5)] [] σ := by
  intro n
  induction n with
  | zero =>
    intro σ x3 x5 hf
    rw [LX10_mixGoers_31] at hf
    cases hf
  | succ n ih =>
    intro σ x3 x5 hf
    rw [LX10_mixGoers_31] at hf
    exact okBX10_mixGoers_31 O (LX10_mixGoers_31 n) ih σ x3 x5 hf
def fX10_mixGoers (a0 : Int64) (σ : St) : Option (Int64 × St) :=
  (fX4_size σ).bind (fun z1 => (fX9_run z1 σ).bind (fun z3 => LX10_mixGoers_31 fu z3 a0 0))
set_option maxRecDepth 100000 in
theorem ctX10_mixGoers {E : ET} (hE : Dj (YC E)) (a0 : Int64) (σ : St) (z : Int64 × St) (hf : fX10_mixGoers a0 σ = some z) : Ct (YC E) yX10_mixGoers cX10_mixGoers 6 (some .long) rmX10_mixGoers [.ref (E.2.2.2.2 0), .long a0] σ (some (.long z.1)) z.2 := by
  refine Ct.of hE (by decide) (Nat.le_of_ble_eq_true rfl) (fun X O => ?_)
  have O : Ok (YC E) X cX10_mixGoers 6 RX10 (some .long) rmX10_mixGoers (some (.long z.1)) z.2 := O
  show At (YC E) X 6 0 [(0, .ref (E.2.2.2.2 0)), (1, .long a0)] [] σ
  unfold fX10_mixGoers at hf
  refine a_lload_n (pc' := 1) O dX10_mixGoers_0 rfl 1 rfl rfl ?_
  refine a_lstore_n (pc' := 2) (lv' := [(3, .long a0), (0, .ref (E.2.2.2.2 0)), (1, .long a0)]) O dX10_mixGoers_1 rfl (by decide) rfl rfl ?_
  refine a_aload_n (pc' := 3) O dX10_mixGoers_2 rfl 1 rfl rfl ?_
  refine gfC_0_5 (pc' := 6) O dX10_mixGoers_3 rfl ?_
  refine a_aload_n (pc' := 7) O dX10_mixGoers_6 rfl 1 rfl rfl ?_
  refine gfC_0_1 (pc' := 10) O dX10_mixGoers_7 rfl ?_
  refine a_aload_n (pc' := 11) O dX10_mixGoers_10 rfl 1 rfl rfl ?_
  refine gfC_0_3 (pc' := 14) O dX10_mixGoers_11 rfl ?_
  obtain ⟨z1, h2, hf⟩ := bd_some hf
  refine a_callVI (pc' := 17) (n := 0) (As := []) (st := [.ref (E.2.2.2.2 3), .ref (E.2.2.2.2 10)]) (q0 := 7) O (ctX4_size hE σ z1 h2) wm_520 wm_521 wm_522 wm_23 wm_523 (by decide +kernel) (by decide) (gC_7 E _) hc_4 rfl rfl rfl (Nat.le_of_ble_eq_true rfl) dX10_mixGoers_14 rfl ?_
  refine a_aload_n (pc' := 18) O dX10_mixGoers_17 rfl 1 rfl rfl ?_
  refine gfC_0_2 (pc' := 21) O dX10_mixGoers_18 rfl ?_
  refine a_aload_n (pc' := 22) O dX10_mixGoers_21 rfl 1 rfl rfl ?_
  refine gfC_0_4 (pc' := 25) O dX10_mixGoers_22 rfl ?_
  obtain ⟨z3, h4, hf⟩ := bd_some hf
  refine a_callVN (pc' := 28) (n := 4) (As := [.ref (E.2.2.2.2 3), .int z1, .ref (E.2.2.2.2 5), .ref (E.2.2.2.2 8)]) (st := []) (q0 := 10) O (ctX9_run hE z1 σ z3 h4) wm_524 wm_525 wm_526 wm_31 wm_527 (by decide +kernel) (by decide) (gC_10 E _) hc_9 rfl rfl rfl (Nat.le_of_ble_eq_true rfl) dX10_mixGoers_25 rfl ?_
  refine a_iconst (pc' := 29) (v := 0) O dX10_mixGoers_28 (by decide) rfl ?_
  refine a_istore (pc' := 31) (lv' := [(5, .int 0), (3, .long a0), (0, .ref (E.2.2.2.2 0)), (1, .long a0)]) O dX10_mixGoers_29 (by decide) rfl rfl ?_
  exact a_sub [2, 1, 0] rfl (okLX10_mixGoers_31 O fu z3 a0 0 hf)
def rmX10_mixFailures : Room := { frames := 5, cells := 0, slots := 0, locals := 120 }
def BX10_mixFailures_36 (k36 : St → Int64 → Int32 → Int32 → Option (Int64 × St)) (k5 : St → Int64 → Int32 → Option (Int64 × St)) (σ : St) (x3 : Int64) (x5 : Int32) (x6 : Int32) : Option (Int64 × St) :=
  if 2 < x6 then bI (x5 + 1) (fun v9 => k5 σ x3 v9) else ((fX10_rule 3 x5 x6 σ).bind (fun z10 => (fX10_mix x3 z10.1).bind (fun z12 => bI (x6 + 1) (fun v14 => k36 z10.2 z12 x5 v14))))
set_option maxRecDepth 100000 in
theorem okBX10_mixFailures_36 {E : ET} {X : XT} {z : Int64 × St} (O : Ok (YC E) X cX10_mixFailures 7 RX10 (some .long) rmX10_mixFailures (some (.long z.1)) z.2) (k36 : St → Int64 → Int32 → Int32 → Option (Int64 × St)) (hk36 : ∀ (σ : St) (x3 : Int64) (x5 : Int32) (x6 : Int32), k36 σ x3 x5 x6 = some z → At (YC E) X 7 36 [(0, .ref (E.2.2.2.2 0)), (3, .long x3), (5, .int x5), (6, .int x6)] [] σ) (k5 : St → Int64 → Int32 → Option (Int64 × St)) (hk5 : ∀ (σ : St) (x3 : Int64) (x5 : Int32), k5 σ x3 x5 = some z → At (YC E) X 7 5 [(0, .ref (E.2.2.2.2 0)), (3, .long x3), (5, .int x5)] [] σ) (σ : St) (x3 : Int64) (x5 : Int32) (x6 : Int32) (hf : BX10_mixFailures_36 k36 k5 σ x3 x5 x6 = some z) : At (YC E) X 7 36 [(0, .ref (E.2.2.2.2 0)), (3, .long x3), (5, .int x5), (6, .int x6)] [] σ := by
  have hE := O.2.2.2.2.2.2.2.2.2.1
  unfold BX10_mixFailures_36 at hf
  refine a_iload (pc' := 38) O dX10_mixFailures_36 3 rfl rfl ?_
  refine a_iconst (pc' := 39) (v := 2) O dX10_mixFailures_38 (by decide) rfl ?_
  refine a_icmp_gt (pc' := 42) (tgt := 62) O dX10_mixFailures_39 (by decide) rfl hf (fun hf => ?_) (fun hf => ?_)
  · refine a_iincB (pc' := 65) (lv' := fun v9 => [(5, .int v9), (0, .ref (E.2.2.2.2 0)), (3, .long x3), (6, .int x6)]) (c0 := 1) O dX10_mixFailures_62 2 rfl (by decide) (by decide) (fun _ => rfl) rfl hf (fun v9 hf => ?_)
    refine a_goto (tgt := 5) O dX10_mixFailures_65 (by decide) ?_
    exact a_sub [1, 2, 0] rfl (hk5 σ x3 v9 hf)
  · refine a_lload_n (pc' := 43) O dX10_mixFailures_42 rfl 1 rfl rfl ?_
    refine a_aload_n (pc' := 44) O dX10_mixFailures_43 rfl 0 rfl rfl ?_
    refine a_iconst (pc' := 45) (v := 3) O dX10_mixFailures_44 (by decide) rfl ?_
    refine a_iload (pc' := 47) O dX10_mixFailures_45 2 rfl rfl ?_
    refine a_iload (pc' := 49) O dX10_mixFailures_47 3 rfl rfl ?_
    obtain ⟨z10, h11, hf⟩ := bd_some hf
    refine a_callVL (pc' := 52) (n := 3) (As := [.int 3, .int x5, .int x6]) (st := [.long x3]) (q0 := 0) O (ctX10_rule hE 3 x5 x6 σ z10 h11) wm_983 wm_475 wm_476 wm_2 wm_477 (by decide +kernel) (by decide) (gC_0 E _) hc_10 rfl rfl rfl (Nat.le_of_ble_eq_true rfl) dX10_mixFailures_49 rfl ?_
    obtain ⟨z12, h13, hf⟩ := bd_some hf
    refine a_callSL (pc' := 55) (n := 2) (As := [.long x3, .long z10.1]) (st := []) O (ctX10_mix hE x3 z10.1 z10.2 z12 h13) wm_966 wm_967 wm_2 wm_968 (by decide +kernel) (by decide) rfl rfl (Nat.le_of_ble_eq_true rfl) dX10_mixFailures_52 rfl ?_
    refine a_lstore_n (pc' := 56) (lv' := [(3, .long z12), (0, .ref (E.2.2.2.2 0)), (5, .int x5), (6, .int x6)]) O dX10_mixFailures_55 rfl (by decide) rfl rfl ?_
    refine a_iincB (pc' := 59) (lv' := fun v14 => [(6, .int v14), (3, .long z12), (0, .ref (E.2.2.2.2 0)), (5, .int x5)]) (c0 := 1) O dX10_mixFailures_56 3 rfl (by decide) (by decide) (fun _ => rfl) rfl hf (fun v14 hf => ?_)
    refine a_goto (tgt := 36) O dX10_mixFailures_59 (by decide) ?_
    exact a_sub [2, 1, 3, 0] rfl (hk36 z10.2 z12 x5 v14 hf)
def LX10_mixFailures_36 (k5 : St → Int64 → Int32 → Option (Int64 × St)) : Nat → St → Int64 → Int32 → Int32 → Option (Int64 × St)
  | 0, _, _, _, _ => none
  | n + 1, σ, x3, x5, x6 => BX10_mixFailures_36 (LX10_mixFailures_36 k5 n) k5 σ x3 x5 x6
theorem okLX10_mixFailures_36 {E : ET} {X : XT} {z : Int64 × St} (O : Ok (YC E) X cX10_mixFailures 7 RX10 (some .long) rmX10_mixFailures (some (.long z.1)) z.2) (k5 : St → Int64 → Int32 → Option (Int64 × St)) (hk5 : ∀ (σ : St) (x3 : Int64) (x5 : Int32), k5 σ x3 x5 = some z → At (YC E) X 7 5 [(0, .ref (E.2.2.2.2 0)), (3, .long x3), (5, .int x5)] [] σ) : ∀ (n : Nat) (σ : St) (x3 : Int64) (x5 : Int32) (x6 : Int32), LX10_mixFailures_36 k5 n σ x3 x5 x6 = some z → At (YC E) X 7 36 [(0, .ref (E.2.2.2.2 0)), (3, .long x3), (5, .int x5), (6, .int x6)] [] σ := by
  intro n
  induction n with
  | zero =>
    intro σ x3 x5 x6 hf
    rw [LX10_mixFailures_36] at hf
    cases hf
  | succ n ih =>
    intro σ x3 x5 x6 hf
    rw [LX10_mixFailures_36] at hf
    exact okBX10_mixFailures_36 O (LX10_mixFailures_36 k5 n) ih k5 hk5 σ x3 x5 x6 hf
def BX10_mixFailures_5 (k5 : St → Int64 → Int32 → Option (Int64 × St)) (σ : St) (x3 : Int64) (x5 : Int32) : Option (Int64 × St) :=
  if 3 < x5 then some (x3, σ) else ((fX10_safe x5 0 σ).bind (fun z1 => (fX10_mix x3 z1.1).bind (fun z3 => (fX10_safe x5 1 z1.2).bind (fun z5 => (fX10_mix z3 z5.1).bind (fun z7 => LX10_mixFailures_36 k5 fu z5.2 z7 x5 0)))))
set_option maxRecDepth 100000 in
theorem okBX10_mixFailures_5 {E : ET} {X : XT} {z : Int64 × St} (O : Ok (YC E) X cX10_mixFailures 7 RX10 (some .long) rmX10_mixFailures (some (.long z.1)) z.2) (k5 : St → Int64 → Int32 → Option (Int64 × St)) (hk5 : ∀ (σ : St) (x3 : Int64) (x5 : Int32), k5 σ x3 x5 = some z → At (YC E) X 7 5 [(0, .ref (E.2.2.2.2 0)), (3, .long x3), (5, .int x5)] [] σ) (σ : St) (x3 : Int64) (x5 : Int32) (hf : BX10_mixFailures_5 k5 σ x3 x5 = some z) : At (YC E) X 7 5 [(0, .ref (E.2.2.2.2 0)), (3, .long x3), (5, .int x5)] [] σ := by
  have hE := O.2.2.2.2.2.2.2.2.2.1
  unfold BX10_mixFailures_5 at hf
  refine a_iload (pc' := 7) O dX10_mixFailures_5 2 rfl rfl ?_
  refine a_iconst (pc' := 8) (v := 3) O dX10_mixFailures_7 (by decide) rfl ?_
  refine a_icmp_gt (pc' := 11) (tgt := 68) O dX10_mixFailures_8 (by decide) rfl hf (fun hf => ?_) (fun hf => ?_)
  · refine a_lload_n (pc' := 69) O dX10_mixFailures_68 rfl 1 rfl rfl ?_
    exact a_lret O hf dX10_mixFailures_69
  · refine a_lload_n (pc' := 12) O dX10_mixFailures_11 rfl 1 rfl rfl ?_
    refine a_aload_n (pc' := 13) O dX10_mixFailures_12 rfl 0 rfl rfl ?_
    refine a_iload (pc' := 15) O dX10_mixFailures_13 2 rfl rfl ?_
    refine a_iconst (pc' := 16) (v := 0) O dX10_mixFailures_15 (by decide) rfl ?_
    obtain ⟨z1, h2, hf⟩ := bd_some hf
    refine a_callVL (pc' := 19) (n := 2) (As := [.int x5, .int 0]) (st := [.long x3]) (q0 := 0) O (ctX10_safe hE x5 0 σ z1 h2) wm_982 wm_438 wm_439 wm_2 wm_440 (by decide +kernel) (by decide) (gC_0 E _) hc_10 rfl rfl rfl (Nat.le_of_ble_eq_true rfl) dX10_mixFailures_16 rfl ?_
    obtain ⟨z3, h4, hf⟩ := bd_some hf
    refine a_callSL (pc' := 22) (n := 2) (As := [.long x3, .long z1.1]) (st := []) O (ctX10_mix hE x3 z1.1 z1.2 z3 h4) wm_966 wm_967 wm_2 wm_968 (by decide +kernel) (by decide) rfl rfl (Nat.le_of_ble_eq_true rfl) dX10_mixFailures_19 rfl ?_
    refine a_aload_n (pc' := 23) O dX10_mixFailures_22 rfl 0 rfl rfl ?_
    refine a_iload (pc' := 25) O dX10_mixFailures_23 2 rfl rfl ?_
    refine a_iconst (pc' := 26) (v := 1) O dX10_mixFailures_25 (by decide) rfl ?_
    obtain ⟨z5, h6, hf⟩ := bd_some hf
    refine a_callVL (pc' := 29) (n := 2) (As := [.int x5, .int 1]) (st := [.long z3]) (q0 := 0) O (ctX10_safe hE x5 1 z1.2 z5 h6) wm_982 wm_438 wm_439 wm_2 wm_440 (by decide +kernel) (by decide) (gC_0 E _) hc_10 rfl rfl rfl (Nat.le_of_ble_eq_true rfl) dX10_mixFailures_26 rfl ?_
    obtain ⟨z7, h8, hf⟩ := bd_some hf
    refine a_callSL (pc' := 32) (n := 2) (As := [.long z3, .long z5.1]) (st := []) O (ctX10_mix hE z3 z5.1 z5.2 z7 h8) wm_966 wm_967 wm_2 wm_968 (by decide +kernel) (by decide) rfl rfl (Nat.le_of_ble_eq_true rfl) dX10_mixFailures_29 rfl ?_
    refine a_lstore_n (pc' := 33) (lv' := [(3, .long z7), (0, .ref (E.2.2.2.2 0)), (5, .int x5)]) O dX10_mixFailures_32 rfl (by decide) rfl rfl ?_
    refine a_iconst (pc' := 34) (v := 0) O dX10_mixFailures_33 (by decide) rfl ?_
    refine a_istore (pc' := 36) (lv' := [(6, .int 0), (3, .long z7), (0, .ref (E.2.2.2.2 0)), (5, .int x5)]) O dX10_mixFailures_34 (by decide) rfl rfl ?_
    exact a_sub [2, 1, 3, 0] rfl (okLX10_mixFailures_36 O k5 hk5 fu z5.2 z7 x5 0 hf)
def LX10_mixFailures_5 : Nat → St → Int64 → Int32 → Option (Int64 × St)
  | 0, _, _, _ => none
  | n + 1, σ, x3, x5 => BX10_mixFailures_5 (LX10_mixFailures_5 n) σ x3 x5
theorem okLX10_mixFailures_5 {E : ET} {X : XT} {z : Int64 × St} (O : Ok (YC E) X cX10_mixFailures 7 RX10 (some .long) rmX10_mixFailures (some (.long z.1)) z.2) : ∀ (n : Nat) (σ : St) (x3 : Int64) (x5 : Int32), LX10_mixFailures_5 n σ x3 x5 = some z → At (YC E) X 7 5 [(0, .ref (E.2.2.2.2 0)), (3, .long x3), (5, .int x5)] [] σ := by
  intro n
  induction n with
  | zero =>
    intro σ x3 x5 hf
    rw [LX10_mixFailures_5] at hf
    cases hf
  | succ n ih =>
    intro σ x3 x5 hf
    rw [LX10_mixFailures_5] at hf
    exact okBX10_mixFailures_5 O (LX10_mixFailures_5 n) ih σ x3 x5 hf
def fX10_mixFailures (a0 : Int64) (σ : St) : Option (Int64 × St) :=
  LX10_mixFailures_5 fu σ a0 0
set_option maxRecDepth 100000 in
theorem ctX10_mixFailures {E : ET} (hE : Dj (YC E)) (a0 : Int64) (σ : St) (z : Int64 × St) (hf : fX10_mixFailures a0 σ = some z) : Ct (YC E) yX10_mixFailures cX10_mixFailures 7 (some .long) rmX10_mixFailures [.ref (E.2.2.2.2 0), .long a0] σ (some (.long z.1)) z.2 := by
  refine Ct.of hE (by decide) (Nat.le_of_ble_eq_true rfl) (fun X O => ?_)
  have O : Ok (YC E) X cX10_mixFailures 7 RX10 (some .long) rmX10_mixFailures (some (.long z.1)) z.2 := O
  show At (YC E) X 7 0 [(0, .ref (E.2.2.2.2 0)), (1, .long a0)] [] σ
  unfold fX10_mixFailures at hf
  refine a_lload_n (pc' := 1) O dX10_mixFailures_0 rfl 1 rfl rfl ?_
  refine a_lstore_n (pc' := 2) (lv' := [(3, .long a0), (0, .ref (E.2.2.2.2 0)), (1, .long a0)]) O dX10_mixFailures_1 rfl (by decide) rfl rfl ?_
  refine a_iconst (pc' := 3) (v := 0) O dX10_mixFailures_2 (by decide) rfl ?_
  refine a_istore (pc' := 5) (lv' := [(5, .int 0), (3, .long a0), (0, .ref (E.2.2.2.2 0)), (1, .long a0)]) O dX10_mixFailures_3 (by decide) rfl rfl ?_
  exact a_sub [2, 1, 0] rfl (okLX10_mixFailures_5 O fu σ a0 0 hf)
def rmX10_digest : Room := { frames := 6, cells := 0, slots := 0, locals := 149 }
def BX10_digest_96 (σ : St) (x1 : Int64) : Option (Int64 × St) :=
  (fX10_mixGoers x1 σ).bind (fun z11 => bL z11.1 (fun v13 => (fX10_mixFailures v13 z11.2).bind (fun z14 => bL z14.1 (fun v16 => (fX10_point 0 z14.2).bind (fun z17 => (fX10_mix v16 z17.1).bind (fun z19 => (fX10_point 1 z17.2).bind (fun z21 => (fX10_mix z19 z21.1).bind (fun z23 => (fX10_judged z21.2).bind (fun z25 => (fX10_mix z23 (z25.1.toInt64)).bind (fun z27 => (fX4_size z25.2).bind (fun z29 => (fX10_state z29 0 z25.2).bind (fun z31 => (fX10_mix z27 (z31.1.toInt64)).bind (fun z33 => (fX4_size z31.2).bind (fun z35 => (fX10_state z35 1 z31.2).bind (fun z37 => (fX10_mix z33 (z37.1.toInt64)).bind (fun z39 => (fX10_home z37.2).bind (fun z41 => (fX10_mix z39 (z41.1.toInt64)).bind (fun z43 => (fX10_help 4 60 0 z41.2).bind (fun z45 => (fX10_mix z43 z45.1).bind (fun z47 => (fX10_help 4 60 1 z45.2).bind (fun z49 => (fX10_mix z47 z49.1).bind (fun z51 => (fX10_least 50 60 z49.2).bind (fun z53 => (fX10_mix z51 (z53.1.toInt64)).bind (fun z55 => (fX10_first 0 z53.2).bind (fun z57 => (fX10_mix z55 (z57.toInt64)).bind (fun z59 => (fX10_first 1 z53.2).bind (fun z61 => (fX10_mix z59 (z61.toInt64)).bind (fun z63 => (fX10_mean 0 z53.2).bind (fun z65 => (fX10_mix z63 z65.1).bind (fun z67 => (fX10_mean 1 z65.2).bind (fun z69 => (fX10_mix z67 z69.1).bind (fun z71 => (fX10_turned z69.2).bind (fun z73 => (fX10_mix z71 (z73.toInt64)).bind (fun z75 => some (z75, z69.2)))))))))))))))))))))))))))))))))))
set_option maxRecDepth 100000 in
theorem okBX10_digest_96 {E : ET} {X : XT} {z : Int64 × St} (O : Ok (YC E) X cX10_digest 5 RX10 (some .long) rmX10_digest (some (.long z.1)) z.2) (σ : St) (x1 : Int64) (hf : BX10_digest_96 σ x1 = some z) : At (YC E) X 5 96 [(0, .ref (E.2.2.2.2 0)), (1, .long x1)] [] σ := by
  have hE := O.2.2.2.2.2.2.2.2.2.1
  unfold BX10_digest_96 at hf
  refine a_aload_n (pc' := 97) O dX10_digest_96 rfl 0 rfl rfl ?_
  refine a_lload_n (pc' := 98) O dX10_digest_97 rfl 1 rfl rfl ?_
  obtain ⟨z11, h12, hf⟩ := bd_some hf
  refine a_callVL (pc' := 101) (n := 1) (As := [.long x1]) (st := []) (q0 := 0) O (ctX10_mixGoers hE x1 σ z11 h12) wm_972 wm_973 wm_974 wm_2 wm_975 (by decide +kernel) (by decide) (gC_0 E _) hc_10 rfl rfl rfl (Nat.le_of_ble_eq_true rfl) dX10_digest_98 rfl ?_
  refine a_topl hf (fun v13 hf => ?_)
  refine a_lstore_n (pc' := 102) (lv' := [(1, .long v13), (0, .ref (E.2.2.2.2 0))]) O dX10_digest_101 rfl (by decide) rfl rfl ?_
  refine a_aload_n (pc' := 103) O dX10_digest_102 rfl 1 rfl rfl ?_
  refine a_lload_n (pc' := 104) O dX10_digest_103 rfl 0 rfl rfl ?_
  obtain ⟨z14, h15, hf⟩ := bd_some hf
  refine a_callVL (pc' := 107) (n := 1) (As := [.long v13]) (st := []) (q0 := 0) O (ctX10_mixFailures hE v13 z11.2 z14 h15) wm_978 wm_979 wm_980 wm_2 wm_981 (by decide +kernel) (by decide) (gC_0 E _) hc_10 rfl rfl rfl (Nat.le_of_ble_eq_true rfl) dX10_digest_104 rfl ?_
  refine a_topl hf (fun v16 hf => ?_)
  refine a_lstore_n (pc' := 108) (lv' := [(1, .long v16), (0, .ref (E.2.2.2.2 0))]) O dX10_digest_107 rfl (by decide) rfl rfl ?_
  refine a_lload_n (pc' := 109) O dX10_digest_108 rfl 0 rfl rfl ?_
  refine a_aload_n (pc' := 110) O dX10_digest_109 rfl 1 rfl rfl ?_
  refine a_iconst (pc' := 111) (v := 0) O dX10_digest_110 (by decide) rfl ?_
  obtain ⟨z17, h18, hf⟩ := bd_some hf
  refine a_callVL (pc' := 114) (n := 1) (As := [.int 0]) (st := [.long v16]) (q0 := 0) O (ctX10_point hE 0 z14.2 z17 h18) wm_984 wm_493 wm_494 wm_2 wm_495 (by decide +kernel) (by decide) (gC_0 E _) hc_10 rfl rfl rfl (Nat.le_of_ble_eq_true rfl) dX10_digest_111 rfl ?_
  obtain ⟨z19, h20, hf⟩ := bd_some hf
  refine a_callSL (pc' := 117) (n := 2) (As := [.long v16, .long z17.1]) (st := []) O (ctX10_mix hE v16 z17.1 z17.2 z19 h20) wm_966 wm_967 wm_2 wm_968 (by decide +kernel) (by decide) rfl rfl (Nat.le_of_ble_eq_true rfl) dX10_digest_114 rfl ?_
  refine a_aload_n (pc' := 118) O dX10_digest_117 rfl 1 rfl rfl ?_
  refine a_iconst (pc' := 119) (v := 1) O dX10_digest_118 (by decide) rfl ?_
  obtain ⟨z21, h22, hf⟩ := bd_some hf
  refine a_callVL (pc' := 122) (n := 1) (As := [.int 1]) (st := [.long z19]) (q0 := 0) O (ctX10_point hE 1 z17.2 z21 h22) wm_984 wm_493 wm_494 wm_2 wm_495 (by decide +kernel) (by decide) (gC_0 E _) hc_10 rfl rfl rfl (Nat.le_of_ble_eq_true rfl) dX10_digest_119 rfl ?_
  obtain ⟨z23, h24, hf⟩ := bd_some hf
  refine a_callSL (pc' := 125) (n := 2) (As := [.long z19, .long z21.1]) (st := []) O (ctX10_mix hE z19 z21.1 z21.2 z23 h24) wm_966 wm_967 wm_2 wm_968 (by decide +kernel) (by decide) rfl rfl (Nat.le_of_ble_eq_true rfl) dX10_digest_122 rfl ?_
  refine a_lstore_n (pc' := 126) (lv' := [(1, .long z23), (0, .ref (E.2.2.2.2 0))]) O dX10_digest_125 rfl (by decide) rfl rfl ?_
  refine a_lload_n (pc' := 127) O dX10_digest_126 rfl 0 rfl rfl ?_
  refine a_aload_n (pc' := 128) O dX10_digest_127 rfl 1 rfl rfl ?_
  obtain ⟨z25, h26, hf⟩ := bd_some hf
  refine a_callVI (pc' := 131) (n := 0) (As := []) (st := [.long z23]) (q0 := 0) O (ctX10_judged hE z21.2 z25 h26) wm_985 wm_517 wm_518 wm_2 wm_519 (by decide +kernel) (by decide) (gC_0 E _) hc_10 rfl rfl rfl (Nat.le_of_ble_eq_true rfl) dX10_digest_128 rfl ?_
  refine a_i2l (pc' := 132) O dX10_digest_131 rfl rfl ?_
  obtain ⟨z27, h28, hf⟩ := bd_some hf
  refine a_callSL (pc' := 135) (n := 2) (As := [.long z23, .long (z25.1.toInt64)]) (st := []) O (ctX10_mix hE z23 (z25.1.toInt64) z25.2 z27 h28) wm_966 wm_967 wm_2 wm_968 (by decide +kernel) (by decide) rfl rfl (Nat.le_of_ble_eq_true rfl) dX10_digest_132 rfl ?_
  refine a_lstore_n (pc' := 136) (lv' := [(1, .long z27), (0, .ref (E.2.2.2.2 0))]) O dX10_digest_135 rfl (by decide) rfl rfl ?_
  refine a_lload_n (pc' := 137) O dX10_digest_136 rfl 0 rfl rfl ?_
  refine a_aload_n (pc' := 138) O dX10_digest_137 rfl 1 rfl rfl ?_
  refine a_aload_n (pc' := 139) O dX10_digest_138 rfl 1 rfl rfl ?_
  refine gfC_0_3 (pc' := 142) O dX10_digest_139 rfl ?_
  obtain ⟨z29, h30, hf⟩ := bd_some hf
  refine a_callVI (pc' := 145) (n := 0) (As := []) (st := [.ref (E.2.2.2.2 0), .long z27]) (q0 := 7) O (ctX4_size hE z25.2 z29 h30) wm_520 wm_521 wm_522 wm_23 wm_523 (by decide +kernel) (by decide) (gC_7 E _) hc_4 rfl rfl rfl (Nat.le_of_ble_eq_true rfl) dX10_digest_142 rfl ?_
  refine a_iconst (pc' := 146) (v := 0) O dX10_digest_145 (by decide) rfl ?_
  obtain ⟨z31, h32, hf⟩ := bd_some hf
  refine a_callVI (pc' := 149) (n := 2) (As := [.int z29, .int 0]) (st := [.long z27]) (q0 := 0) O (ctX10_state hE z29 0 z25.2 z31 h32) wm_986 wm_603 wm_604 wm_2 wm_605 (by decide +kernel) (by decide) (gC_0 E _) hc_10 rfl rfl rfl (Nat.le_of_ble_eq_true rfl) dX10_digest_146 rfl ?_
  refine a_i2l (pc' := 150) O dX10_digest_149 rfl rfl ?_
  obtain ⟨z33, h34, hf⟩ := bd_some hf
  refine a_callSL (pc' := 153) (n := 2) (As := [.long z27, .long (z31.1.toInt64)]) (st := []) O (ctX10_mix hE z27 (z31.1.toInt64) z31.2 z33 h34) wm_966 wm_967 wm_2 wm_968 (by decide +kernel) (by decide) rfl rfl (Nat.le_of_ble_eq_true rfl) dX10_digest_150 rfl ?_
  refine a_aload_n (pc' := 154) O dX10_digest_153 rfl 1 rfl rfl ?_
  refine a_aload_n (pc' := 155) O dX10_digest_154 rfl 1 rfl rfl ?_
  refine gfC_0_3 (pc' := 158) O dX10_digest_155 rfl ?_
  obtain ⟨z35, h36, hf⟩ := bd_some hf
  refine a_callVI (pc' := 161) (n := 0) (As := []) (st := [.ref (E.2.2.2.2 0), .long z33]) (q0 := 7) O (ctX4_size hE z31.2 z35 h36) wm_520 wm_521 wm_522 wm_23 wm_523 (by decide +kernel) (by decide) (gC_7 E _) hc_4 rfl rfl rfl (Nat.le_of_ble_eq_true rfl) dX10_digest_158 rfl ?_
  refine a_iconst (pc' := 162) (v := 1) O dX10_digest_161 (by decide) rfl ?_
  obtain ⟨z37, h38, hf⟩ := bd_some hf
  refine a_callVI (pc' := 165) (n := 2) (As := [.int z35, .int 1]) (st := [.long z33]) (q0 := 0) O (ctX10_state hE z35 1 z31.2 z37 h38) wm_986 wm_603 wm_604 wm_2 wm_605 (by decide +kernel) (by decide) (gC_0 E _) hc_10 rfl rfl rfl (Nat.le_of_ble_eq_true rfl) dX10_digest_162 rfl ?_
  refine a_i2l (pc' := 166) O dX10_digest_165 rfl rfl ?_
  obtain ⟨z39, h40, hf⟩ := bd_some hf
  refine a_callSL (pc' := 169) (n := 2) (As := [.long z33, .long (z37.1.toInt64)]) (st := []) O (ctX10_mix hE z33 (z37.1.toInt64) z37.2 z39 h40) wm_966 wm_967 wm_2 wm_968 (by decide +kernel) (by decide) rfl rfl (Nat.le_of_ble_eq_true rfl) dX10_digest_166 rfl ?_
  refine a_lstore_n (pc' := 170) (lv' := [(1, .long z39), (0, .ref (E.2.2.2.2 0))]) O dX10_digest_169 rfl (by decide) rfl rfl ?_
  refine a_lload_n (pc' := 171) O dX10_digest_170 rfl 0 rfl rfl ?_
  refine a_aload_n (pc' := 172) O dX10_digest_171 rfl 1 rfl rfl ?_
  obtain ⟨z41, h42, hf⟩ := bd_some hf
  refine a_callVI (pc' := 175) (n := 0) (As := []) (st := [.long z39]) (q0 := 0) O (ctX10_home hE z37.2 z41 h42) wm_987 wm_639 wm_640 wm_2 wm_641 (by decide +kernel) (by decide) (gC_0 E _) hc_10 rfl rfl rfl (Nat.le_of_ble_eq_true rfl) dX10_digest_172 rfl ?_
  refine a_i2l (pc' := 176) O dX10_digest_175 rfl rfl ?_
  obtain ⟨z43, h44, hf⟩ := bd_some hf
  refine a_callSL (pc' := 179) (n := 2) (As := [.long z39, .long (z41.1.toInt64)]) (st := []) O (ctX10_mix hE z39 (z41.1.toInt64) z41.2 z43 h44) wm_966 wm_967 wm_2 wm_968 (by decide +kernel) (by decide) rfl rfl (Nat.le_of_ble_eq_true rfl) dX10_digest_176 rfl ?_
  refine a_lstore_n (pc' := 180) (lv' := [(1, .long z43), (0, .ref (E.2.2.2.2 0))]) O dX10_digest_179 rfl (by decide) rfl rfl ?_
  refine a_lload_n (pc' := 181) O dX10_digest_180 rfl 0 rfl rfl ?_
  refine a_aload_n (pc' := 182) O dX10_digest_181 rfl 1 rfl rfl ?_
  refine a_iconst (pc' := 183) (v := 4) O dX10_digest_182 (by decide) rfl ?_
  refine a_bipush (pc' := 185) (v := 60) O dX10_digest_183 (by decide) rfl ?_
  refine a_iconst (pc' := 186) (v := 0) O dX10_digest_185 (by decide) rfl ?_
  obtain ⟨z45, h46, hf⟩ := bd_some hf
  refine a_callVL (pc' := 189) (n := 3) (As := [.int 4, .int 60, .int 0]) (st := [.long z43]) (q0 := 0) O (ctX10_help hE 4 60 0 z41.2 z45 h46) wm_988 wm_686 wm_687 wm_2 wm_688 (by decide +kernel) (by decide) (gC_0 E _) hc_10 rfl rfl rfl (Nat.le_of_ble_eq_true rfl) dX10_digest_186 rfl ?_
  obtain ⟨z47, h48, hf⟩ := bd_some hf
  refine a_callSL (pc' := 192) (n := 2) (As := [.long z43, .long z45.1]) (st := []) O (ctX10_mix hE z43 z45.1 z45.2 z47 h48) wm_966 wm_967 wm_2 wm_968 (by decide +kernel) (by decide) rfl rfl (Nat.le_of_ble_eq_true rfl) dX10_digest_189 rfl ?_
  refine a_aload_n (pc' := 193) O dX10_digest_192 rfl 1 rfl rfl ?_
  refine a_iconst (pc' := 194) (v := 4) O dX10_digest_193 (by decide) rfl ?_
  refine a_bipush (pc' := 196) (v := 60) O dX10_digest_194 (by decide) rfl ?_
  refine a_iconst (pc' := 197) (v := 1) O dX10_digest_196 (by decide) rfl ?_
  obtain ⟨z49, h50, hf⟩ := bd_some hf
  refine a_callVL (pc' := 200) (n := 3) (As := [.int 4, .int 60, .int 1]) (st := [.long z47]) (q0 := 0) O (ctX10_help hE 4 60 1 z45.2 z49 h50) wm_988 wm_686 wm_687 wm_2 wm_688 (by decide +kernel) (by decide) (gC_0 E _) hc_10 rfl rfl rfl (Nat.le_of_ble_eq_true rfl) dX10_digest_197 rfl ?_
  obtain ⟨z51, h52, hf⟩ := bd_some hf
  refine a_callSL (pc' := 203) (n := 2) (As := [.long z47, .long z49.1]) (st := []) O (ctX10_mix hE z47 z49.1 z49.2 z51 h52) wm_966 wm_967 wm_2 wm_968 (by decide +kernel) (by decide) rfl rfl (Nat.le_of_ble_eq_true rfl) dX10_digest_200 rfl ?_
  refine a_lstore_n (pc' := 204) (lv' := [(1, .long z51), (0, .ref (E.2.2.2.2 0))]) O dX10_digest_203 rfl (by decide) rfl rfl ?_
  refine a_lload_n (pc' := 205) O dX10_digest_204 rfl 0 rfl rfl ?_
  refine a_aload_n (pc' := 206) O dX10_digest_205 rfl 1 rfl rfl ?_
  refine a_bipush (pc' := 208) (v := 50) O dX10_digest_206 (by decide) rfl ?_
  refine a_bipush (pc' := 210) (v := 60) O dX10_digest_208 (by decide) rfl ?_
  obtain ⟨z53, h54, hf⟩ := bd_some hf
  refine a_callVI (pc' := 213) (n := 2) (As := [.int 50, .int 60]) (st := [.long z51]) (q0 := 0) O (ctX10_least hE 50 60 z49.2 z53 h54) wm_989 wm_700 wm_701 wm_2 wm_702 (by decide +kernel) (by decide) (gC_0 E _) hc_10 rfl rfl rfl (Nat.le_of_ble_eq_true rfl) dX10_digest_210 rfl ?_
  refine a_i2l (pc' := 214) O dX10_digest_213 rfl rfl ?_
  obtain ⟨z55, h56, hf⟩ := bd_some hf
  refine a_callSL (pc' := 217) (n := 2) (As := [.long z51, .long (z53.1.toInt64)]) (st := []) O (ctX10_mix hE z51 (z53.1.toInt64) z53.2 z55 h56) wm_966 wm_967 wm_2 wm_968 (by decide +kernel) (by decide) rfl rfl (Nat.le_of_ble_eq_true rfl) dX10_digest_214 rfl ?_
  refine a_lstore_n (pc' := 218) (lv' := [(1, .long z55), (0, .ref (E.2.2.2.2 0))]) O dX10_digest_217 rfl (by decide) rfl rfl ?_
  refine a_lload_n (pc' := 219) O dX10_digest_218 rfl 0 rfl rfl ?_
  refine a_aload_n (pc' := 220) O dX10_digest_219 rfl 1 rfl rfl ?_
  refine a_iconst (pc' := 221) (v := 0) O dX10_digest_220 (by decide) rfl ?_
  obtain ⟨z57, h58, hf⟩ := bd_some hf
  refine a_callVI (pc' := 224) (n := 1) (As := [.int 0]) (st := [.long z55]) (q0 := 0) O (ctX10_first hE 0 z53.2 z57 h58) wm_990 wm_758 wm_759 wm_2 wm_760 (by decide +kernel) (by decide) (gC_0 E _) hc_10 rfl rfl rfl (Nat.le_of_ble_eq_true rfl) dX10_digest_221 rfl ?_
  refine a_i2l (pc' := 225) O dX10_digest_224 rfl rfl ?_
  obtain ⟨z59, h60, hf⟩ := bd_some hf
  refine a_callSL (pc' := 228) (n := 2) (As := [.long z55, .long (z57.toInt64)]) (st := []) O (ctX10_mix hE z55 (z57.toInt64) z53.2 z59 h60) wm_966 wm_967 wm_2 wm_968 (by decide +kernel) (by decide) rfl rfl (Nat.le_of_ble_eq_true rfl) dX10_digest_225 rfl ?_
  refine a_aload_n (pc' := 229) O dX10_digest_228 rfl 1 rfl rfl ?_
  refine a_iconst (pc' := 230) (v := 1) O dX10_digest_229 (by decide) rfl ?_
  obtain ⟨z61, h62, hf⟩ := bd_some hf
  refine a_callVI (pc' := 233) (n := 1) (As := [.int 1]) (st := [.long z59]) (q0 := 0) O (ctX10_first hE 1 z53.2 z61 h62) wm_990 wm_758 wm_759 wm_2 wm_760 (by decide +kernel) (by decide) (gC_0 E _) hc_10 rfl rfl rfl (Nat.le_of_ble_eq_true rfl) dX10_digest_230 rfl ?_
  refine a_i2l (pc' := 234) O dX10_digest_233 rfl rfl ?_
  obtain ⟨z63, h64, hf⟩ := bd_some hf
  refine a_callSL (pc' := 237) (n := 2) (As := [.long z59, .long (z61.toInt64)]) (st := []) O (ctX10_mix hE z59 (z61.toInt64) z53.2 z63 h64) wm_966 wm_967 wm_2 wm_968 (by decide +kernel) (by decide) rfl rfl (Nat.le_of_ble_eq_true rfl) dX10_digest_234 rfl ?_
  refine a_lstore_n (pc' := 238) (lv' := [(1, .long z63), (0, .ref (E.2.2.2.2 0))]) O dX10_digest_237 rfl (by decide) rfl rfl ?_
  refine a_lload_n (pc' := 239) O dX10_digest_238 rfl 0 rfl rfl ?_
  refine a_aload_n (pc' := 240) O dX10_digest_239 rfl 1 rfl rfl ?_
  refine a_iconst (pc' := 241) (v := 0) O dX10_digest_240 (by decide) rfl ?_
  obtain ⟨z65, h66, hf⟩ := bd_some hf
  refine a_callVL (pc' := 244) (n := 1) (As := [.int 0]) (st := [.long z63]) (q0 := 0) O (ctX10_mean hE 0 z53.2 z65 h66) wm_991 wm_779 wm_780 wm_2 wm_781 (by decide +kernel) (by decide) (gC_0 E _) hc_10 rfl rfl rfl (Nat.le_of_ble_eq_true rfl) dX10_digest_241 rfl ?_
  obtain ⟨z67, h68, hf⟩ := bd_some hf
  refine a_callSL (pc' := 247) (n := 2) (As := [.long z63, .long z65.1]) (st := []) O (ctX10_mix hE z63 z65.1 z65.2 z67 h68) wm_966 wm_967 wm_2 wm_968 (by decide +kernel) (by decide) rfl rfl (Nat.le_of_ble_eq_true rfl) dX10_digest_244 rfl ?_
  refine a_aload_n (pc' := 248) O dX10_digest_247 rfl 1 rfl rfl ?_
  refine a_iconst (pc' := 249) (v := 1) O dX10_digest_248 (by decide) rfl ?_
  obtain ⟨z69, h70, hf⟩ := bd_some hf
  refine a_callVL (pc' := 252) (n := 1) (As := [.int 1]) (st := [.long z67]) (q0 := 0) O (ctX10_mean hE 1 z65.2 z69 h70) wm_991 wm_779 wm_780 wm_2 wm_781 (by decide +kernel) (by decide) (gC_0 E _) hc_10 rfl rfl rfl (Nat.le_of_ble_eq_true rfl) dX10_digest_249 rfl ?_
  obtain ⟨z71, h72, hf⟩ := bd_some hf
  refine a_callSL (pc' := 255) (n := 2) (As := [.long z67, .long z69.1]) (st := []) O (ctX10_mix hE z67 z69.1 z69.2 z71 h72) wm_966 wm_967 wm_2 wm_968 (by decide +kernel) (by decide) rfl rfl (Nat.le_of_ble_eq_true rfl) dX10_digest_252 rfl ?_
  refine a_lstore_n (pc' := 256) (lv' := [(1, .long z71), (0, .ref (E.2.2.2.2 0))]) O dX10_digest_255 rfl (by decide) rfl rfl ?_
  refine a_lload_n (pc' := 257) O dX10_digest_256 rfl 0 rfl rfl ?_
  refine a_aload_n (pc' := 258) O dX10_digest_257 rfl 1 rfl rfl ?_
  obtain ⟨z73, h74, hf⟩ := bd_some hf
  refine a_callVI (pc' := 261) (n := 0) (As := []) (st := [.long z71]) (q0 := 0) O (ctX10_turned hE z69.2 z73 h74) wm_992 wm_825 wm_826 wm_2 wm_827 (by decide +kernel) (by decide) (gC_0 E _) hc_10 rfl rfl rfl (Nat.le_of_ble_eq_true rfl) dX10_digest_258 rfl ?_
  refine a_i2l (pc' := 262) O dX10_digest_261 rfl rfl ?_
  obtain ⟨z75, h76, hf⟩ := bd_some hf
  refine a_callSL (pc' := 265) (n := 2) (As := [.long z71, .long (z73.toInt64)]) (st := []) O (ctX10_mix hE z71 (z73.toInt64) z69.2 z75 h76) wm_966 wm_967 wm_2 wm_968 (by decide +kernel) (by decide) rfl rfl (Nat.le_of_ble_eq_true rfl) dX10_digest_262 rfl ?_
  exact a_lret O hf dX10_digest_265
def BX10_digest_65 (k65 : St → Int64 → Int32 → Int32 → Option (Int64 × St)) (k51 : St → Int64 → Int32 → Option (Int64 × St)) (σ : St) (x1 : Int64) (x3 : Int32) (x4 : Int32) : Option (Int64 × St) :=
  if 3 < x4 then bI (x3 + 1) (fun v77 => k51 σ x1 v77) else ((fX10_part x3 x4 σ).bind (fun z78 => (fX10_mix x1 (z78.toInt64)).bind (fun z80 => bI (x4 + 1) (fun v82 => k65 σ z80 x3 v82))))
set_option maxRecDepth 100000 in
theorem okBX10_digest_65 {E : ET} {X : XT} {z : Int64 × St} (O : Ok (YC E) X cX10_digest 5 RX10 (some .long) rmX10_digest (some (.long z.1)) z.2) (k65 : St → Int64 → Int32 → Int32 → Option (Int64 × St)) (hk65 : ∀ (σ : St) (x1 : Int64) (x3 : Int32) (x4 : Int32), k65 σ x1 x3 x4 = some z → At (YC E) X 5 65 [(0, .ref (E.2.2.2.2 0)), (1, .long x1), (3, .int x3), (4, .int x4)] [] σ) (k51 : St → Int64 → Int32 → Option (Int64 × St)) (hk51 : ∀ (σ : St) (x1 : Int64) (x3 : Int32), k51 σ x1 x3 = some z → At (YC E) X 5 51 [(0, .ref (E.2.2.2.2 0)), (1, .long x1), (3, .int x3)] [] σ) (σ : St) (x1 : Int64) (x3 : Int32) (x4 : Int32) (hf : BX10_digest_65 k65 k51 σ x1 x3 x4 = some z) : At (YC E) X 5 65 [(0, .ref (E.2.2.2.2 0)), (1, .long x1), (3, .int x3), (4, .int x4)] [] σ := by
  have hE := O.2.2.2.2.2.2.2.2.2.1
  unfold BX10_digest_65 at hf
  refine a_iload (pc' := 67) O dX10_digest_65 3 rfl rfl ?_
  refine a_iconst (pc' := 68) (v := 3) O dX10_digest_67 (by decide) rfl ?_
  refine a_icmp_gt (pc' := 71) (tgt := 90) O dX10_digest_68 (by decide) rfl hf (fun hf => ?_) (fun hf => ?_)
  · refine a_iincB (pc' := 93) (lv' := fun v77 => [(3, .int v77), (0, .ref (E.2.2.2.2 0)), (1, .long x1), (4, .int x4)]) (c0 := 1) O dX10_digest_90 2 rfl (by decide) (by decide) (fun _ => rfl) rfl hf (fun v77 hf => ?_)
    refine a_goto (tgt := 51) O dX10_digest_93 (by decide) ?_
    exact a_sub [1, 2, 0] rfl (hk51 σ x1 v77 hf)
  · refine a_lload_n (pc' := 72) O dX10_digest_71 rfl 1 rfl rfl ?_
    refine a_aload_n (pc' := 73) O dX10_digest_72 rfl 0 rfl rfl ?_
    refine a_iload_n (pc' := 74) O dX10_digest_73 rfl 2 rfl rfl ?_
    refine a_iload (pc' := 76) O dX10_digest_74 3 rfl rfl ?_
    obtain ⟨z78, h79, hf⟩ := bd_some hf
    refine a_callVI (pc' := 79) (n := 2) (As := [.int x3, .int x4]) (st := [.long x1]) (q0 := 0) O (ctX10_part hE x3 x4 σ z78 h79) wm_971 wm_270 wm_271 wm_2 wm_272 (by decide +kernel) (by decide) (gC_0 E _) hc_10 rfl rfl rfl (Nat.le_of_ble_eq_true rfl) dX10_digest_76 rfl ?_
    refine a_i2l (pc' := 80) O dX10_digest_79 rfl rfl ?_
    obtain ⟨z80, h81, hf⟩ := bd_some hf
    refine a_callSL (pc' := 83) (n := 2) (As := [.long x1, .long (z78.toInt64)]) (st := []) O (ctX10_mix hE x1 (z78.toInt64) σ z80 h81) wm_966 wm_967 wm_2 wm_968 (by decide +kernel) (by decide) rfl rfl (Nat.le_of_ble_eq_true rfl) dX10_digest_80 rfl ?_
    refine a_lstore_n (pc' := 84) (lv' := [(1, .long z80), (0, .ref (E.2.2.2.2 0)), (3, .int x3), (4, .int x4)]) O dX10_digest_83 rfl (by decide) rfl rfl ?_
    refine a_iincB (pc' := 87) (lv' := fun v82 => [(4, .int v82), (1, .long z80), (0, .ref (E.2.2.2.2 0)), (3, .int x3)]) (c0 := 1) O dX10_digest_84 3 rfl (by decide) (by decide) (fun _ => rfl) rfl hf (fun v82 hf => ?_)
    refine a_goto (tgt := 65) O dX10_digest_87 (by decide) ?_
    exact a_sub [2, 1, 3, 0] rfl (hk65 σ z80 x3 v82 hf)
def LX10_digest_65 (k51 : St → Int64 → Int32 → Option (Int64 × St)) : Nat → St → Int64 → Int32 → Int32 → Option (Int64 × St)
  | 0, _, _, _, _ => none
  | n + 1, σ, x1, x3, x4 => BX10_digest_65 (LX10_digest_65 k51 n) k51 σ x1 x3 x4
theorem okLX10_digest_65 {E : ET} {X : XT} {z : Int64 × St} (O : Ok (YC E) X cX10_digest 5 RX10 (some .long) rmX10_digest (some (.long z.1)) z.2) (k51 : St → Int64 → Int32 → Option (Int64 × St)) (hk51 : ∀ (σ : St) (x1 : Int64) (x3 : Int32), k51 σ x1 x3 = some z → At (YC E) X 5 51 [(0, .ref (E.2.2.2.2 0)), (1, .long x1), (3, .int x3)] [] σ) : ∀ (n : Nat) (σ : St) (x1 : Int64) (x3 : Int32) (x4 : Int32), LX10_digest_65 k51 n σ x1 x3 x4 = some z → At (YC E) X 5 65 [(0, .ref (E.2.2.2.2 0)), (1, .long x1), (3, .int x3), (4, .int x4)] [] σ := by
  intro n
  induction n with
  | zero =>
    intro σ x1 x3 x4 hf
    rw [LX10_digest_65] at hf
    cases hf
  | succ n ih =>
    intro σ x1 x3 x4 hf
    rw [LX10_digest_65] at hf
    exact okBX10_digest_65 O (LX10_digest_65 k51 n) ih k51 hk51 σ x1 x3 x4 hf
def BX10_digest_51 (k51 : St → Int64 → Int32 → Option (Int64 × St)) (σ : St) (x1 : Int64) (x3 : Int32) : Option (Int64 × St) :=
  (fX1_size σ).bind (fun z9 => if z9 ≤ x3 then BX10_digest_96 σ x1 else (LX10_digest_65 k51 fu σ x1 x3 0))
set_option maxRecDepth 100000 in
theorem okBX10_digest_51 {E : ET} {X : XT} {z : Int64 × St} (O : Ok (YC E) X cX10_digest 5 RX10 (some .long) rmX10_digest (some (.long z.1)) z.2) (k51 : St → Int64 → Int32 → Option (Int64 × St)) (hk51 : ∀ (σ : St) (x1 : Int64) (x3 : Int32), k51 σ x1 x3 = some z → At (YC E) X 5 51 [(0, .ref (E.2.2.2.2 0)), (1, .long x1), (3, .int x3)] [] σ) (σ : St) (x1 : Int64) (x3 : Int32) (hf : BX10_digest_51 k51 σ x1 x3 = some z) : At (YC E) X 5 51 [(0, .ref (E.2.2.2.2 0)), (1, .long x1), (3, .int x3)] [] σ := by
  have hE := O.2.2.2.2.2.2.2.2.2.1
  unfold BX10_digest_51 at hf
  refine a_iload_n (pc' := 52) O dX10_digest_51 rfl 2 rfl rfl ?_
  refine a_aload_n (pc' := 53) O dX10_digest_52 rfl 0 rfl rfl ?_
  refine gfC_0_2 (pc' := 56) O dX10_digest_53 rfl ?_
  obtain ⟨z9, h10, hf⟩ := bd_some hf
  refine a_callVI (pc' := 59) (n := 0) (As := []) (st := [.int x3]) (q0 := 5) O (ctX1_size hE σ z9 h10) wm_273 wm_274 wm_275 wm_19 wm_276 (by decide +kernel) (by decide) (gC_5 E _) hc_1 rfl rfl rfl (Nat.le_of_ble_eq_true rfl) dX10_digest_56 rfl ?_
  refine a_icmp_ge (pc' := 62) (tgt := 96) O dX10_digest_59 (by decide) rfl hf (fun hf => ?_) (fun hf => ?_)
  · exact a_sub [0, 1] rfl (okBX10_digest_96 O σ x1 hf)
  · refine a_iconst (pc' := 63) (v := 0) O dX10_digest_62 (by decide) rfl ?_
    refine a_istore (pc' := 65) (lv' := [(4, .int 0), (0, .ref (E.2.2.2.2 0)), (1, .long x1), (3, .int x3)]) O dX10_digest_63 (by decide) rfl rfl ?_
    exact a_sub [1, 2, 3, 0] rfl (okLX10_digest_65 O k51 hk51 fu σ x1 x3 0 hf)
def LX10_digest_51 : Nat → St → Int64 → Int32 → Option (Int64 × St)
  | 0, _, _, _ => none
  | n + 1, σ, x1, x3 => BX10_digest_51 (LX10_digest_51 n) σ x1 x3
theorem okLX10_digest_51 {E : ET} {X : XT} {z : Int64 × St} (O : Ok (YC E) X cX10_digest 5 RX10 (some .long) rmX10_digest (some (.long z.1)) z.2) : ∀ (n : Nat) (σ : St) (x1 : Int64) (x3 : Int32), LX10_digest_51 n σ x1 x3 = some z → At (YC E) X 5 51 [(0, .ref (E.2.2.2.2 0)), (1, .long x1), (3, .int x3)] [] σ := by
  intro n
  induction n with
  | zero =>
    intro σ x1 x3 hf
    rw [LX10_digest_51] at hf
    cases hf
  | succ n ih =>
    intro σ x1 x3 hf
    rw [LX10_digest_51] at hf
    exact okBX10_digest_51 O (LX10_digest_51 n) ih σ x1 x3 hf
def BX10_digest_29 (σ : St) (x1 : Int64) : Option (Int64 × St) :=
  (fX10_fault 0 σ).bind (fun z1 => (fX10_mix x1 (z1.toInt64)).bind (fun z3 => (fX10_fault 1 σ).bind (fun z5 => (fX10_mix z3 (z5.toInt64)).bind (fun z7 => LX10_digest_51 fu σ z7 0))))
set_option maxRecDepth 100000 in
theorem okBX10_digest_29 {E : ET} {X : XT} {z : Int64 × St} (O : Ok (YC E) X cX10_digest 5 RX10 (some .long) rmX10_digest (some (.long z.1)) z.2) (σ : St) (x1 : Int64) (hf : BX10_digest_29 σ x1 = some z) : At (YC E) X 5 29 [(0, .ref (E.2.2.2.2 0)), (1, .long x1)] [] σ := by
  have hE := O.2.2.2.2.2.2.2.2.2.1
  unfold BX10_digest_29 at hf
  refine a_lload_n (pc' := 30) O dX10_digest_29 rfl 1 rfl rfl ?_
  refine a_aload_n (pc' := 31) O dX10_digest_30 rfl 0 rfl rfl ?_
  refine a_iconst (pc' := 32) (v := 0) O dX10_digest_31 (by decide) rfl ?_
  obtain ⟨z1, h2, hf⟩ := bd_some hf
  refine a_callVI (pc' := 35) (n := 1) (As := [.int 0]) (st := [.long x1]) (q0 := 0) O (ctX10_fault hE 0 σ z1 h2) wm_970 wm_229 wm_230 wm_2 wm_231 (by decide +kernel) (by decide) (gC_0 E _) hc_10 rfl rfl rfl (Nat.le_of_ble_eq_true rfl) dX10_digest_32 rfl ?_
  refine a_i2l (pc' := 36) O dX10_digest_35 rfl rfl ?_
  obtain ⟨z3, h4, hf⟩ := bd_some hf
  refine a_callSL (pc' := 39) (n := 2) (As := [.long x1, .long (z1.toInt64)]) (st := []) O (ctX10_mix hE x1 (z1.toInt64) σ z3 h4) wm_966 wm_967 wm_2 wm_968 (by decide +kernel) (by decide) rfl rfl (Nat.le_of_ble_eq_true rfl) dX10_digest_36 rfl ?_
  refine a_aload_n (pc' := 40) O dX10_digest_39 rfl 0 rfl rfl ?_
  refine a_iconst (pc' := 41) (v := 1) O dX10_digest_40 (by decide) rfl ?_
  obtain ⟨z5, h6, hf⟩ := bd_some hf
  refine a_callVI (pc' := 44) (n := 1) (As := [.int 1]) (st := [.long z3]) (q0 := 0) O (ctX10_fault hE 1 σ z5 h6) wm_970 wm_229 wm_230 wm_2 wm_231 (by decide +kernel) (by decide) (gC_0 E _) hc_10 rfl rfl rfl (Nat.le_of_ble_eq_true rfl) dX10_digest_41 rfl ?_
  refine a_i2l (pc' := 45) O dX10_digest_44 rfl rfl ?_
  obtain ⟨z7, h8, hf⟩ := bd_some hf
  refine a_callSL (pc' := 48) (n := 2) (As := [.long z3, .long (z5.toInt64)]) (st := []) O (ctX10_mix hE z3 (z5.toInt64) σ z7 h8) wm_966 wm_967 wm_2 wm_968 (by decide +kernel) (by decide) rfl rfl (Nat.le_of_ble_eq_true rfl) dX10_digest_45 rfl ?_
  refine a_lstore_n (pc' := 49) (lv' := [(1, .long z7), (0, .ref (E.2.2.2.2 0))]) O dX10_digest_48 rfl (by decide) rfl rfl ?_
  refine a_iconst (pc' := 50) (v := 0) O dX10_digest_49 (by decide) rfl ?_
  refine a_istore_n (pc' := 51) (lv' := [(3, .int 0), (1, .long z7), (0, .ref (E.2.2.2.2 0))]) O dX10_digest_50 rfl (by decide) rfl rfl ?_
  exact a_sub [2, 1, 0] rfl (okLX10_digest_51 O fu σ z7 0 hf)
def BX10_digest_6 (k6 : St → Int64 → Int32 → Option (Int64 × St)) (σ : St) (x1 : Int64) (x3 : Int32) : Option (Int64 × St) :=
  if 7 < x3 then BX10_digest_29 σ x1 else ((fX10_count x3 σ).bind (fun z83 => (fX10_mix x1 (z83.toInt64)).bind (fun z85 => bI (x3 + 1) (fun v87 => k6 σ z85 v87))))
set_option maxRecDepth 100000 in
theorem okBX10_digest_6 {E : ET} {X : XT} {z : Int64 × St} (O : Ok (YC E) X cX10_digest 5 RX10 (some .long) rmX10_digest (some (.long z.1)) z.2) (k6 : St → Int64 → Int32 → Option (Int64 × St)) (hk6 : ∀ (σ : St) (x1 : Int64) (x3 : Int32), k6 σ x1 x3 = some z → At (YC E) X 5 6 [(0, .ref (E.2.2.2.2 0)), (1, .long x1), (3, .int x3)] [] σ) (σ : St) (x1 : Int64) (x3 : Int32) (hf : BX10_digest_6 k6 σ x1 x3 = some z) : At (YC E) X 5 6 [(0, .ref (E.2.2.2.2 0)), (1, .long x1), (3, .int x3)] [] σ := by
  have hE := O.2.2.2.2.2.2.2.2.2.1
  unfold BX10_digest_6 at hf
  refine a_iload_n (pc' := 7) O dX10_digest_6 rfl 2 rfl rfl ?_
  refine a_bipush (pc' := 9) (v := 7) O dX10_digest_7 (by decide) rfl ?_
  refine a_icmp_gt (pc' := 12) (tgt := 29) O dX10_digest_9 (by decide) rfl hf (fun hf => ?_) (fun hf => ?_)
  · exact a_sub [0, 1] rfl (okBX10_digest_29 O σ x1 hf)
  · refine a_lload_n (pc' := 13) O dX10_digest_12 rfl 1 rfl rfl ?_
    refine a_aload_n (pc' := 14) O dX10_digest_13 rfl 0 rfl rfl ?_
    refine a_iload_n (pc' := 15) O dX10_digest_14 rfl 2 rfl rfl ?_
    obtain ⟨z83, h84, hf⟩ := bd_some hf
    refine a_callVI (pc' := 18) (n := 1) (As := [.int x3]) (st := [.long x1]) (q0 := 0) O (ctX10_count hE x3 σ z83 h84) wm_965 wm_949 wm_950 wm_2 wm_951 (by decide +kernel) (by decide) (gC_0 E _) hc_10 rfl rfl rfl (Nat.le_of_ble_eq_true rfl) dX10_digest_15 rfl ?_
    refine a_i2l (pc' := 19) O dX10_digest_18 rfl rfl ?_
    obtain ⟨z85, h86, hf⟩ := bd_some hf
    refine a_callSL (pc' := 22) (n := 2) (As := [.long x1, .long (z83.toInt64)]) (st := []) O (ctX10_mix hE x1 (z83.toInt64) σ z85 h86) wm_966 wm_967 wm_2 wm_968 (by decide +kernel) (by decide) rfl rfl (Nat.le_of_ble_eq_true rfl) dX10_digest_19 rfl ?_
    refine a_lstore_n (pc' := 23) (lv' := [(1, .long z85), (0, .ref (E.2.2.2.2 0)), (3, .int x3)]) O dX10_digest_22 rfl (by decide) rfl rfl ?_
    refine a_iincB (pc' := 26) (lv' := fun v87 => [(3, .int v87), (1, .long z85), (0, .ref (E.2.2.2.2 0))]) (c0 := 1) O dX10_digest_23 2 rfl (by decide) (by decide) (fun _ => rfl) rfl hf (fun v87 hf => ?_)
    refine a_goto (tgt := 6) O dX10_digest_26 (by decide) ?_
    exact a_sub [2, 1, 0] rfl (hk6 σ z85 v87 hf)
def LX10_digest_6 : Nat → St → Int64 → Int32 → Option (Int64 × St)
  | 0, _, _, _ => none
  | n + 1, σ, x1, x3 => BX10_digest_6 (LX10_digest_6 n) σ x1 x3
theorem okLX10_digest_6 {E : ET} {X : XT} {z : Int64 × St} (O : Ok (YC E) X cX10_digest 5 RX10 (some .long) rmX10_digest (some (.long z.1)) z.2) : ∀ (n : Nat) (σ : St) (x1 : Int64) (x3 : Int32), LX10_digest_6 n σ x1 x3 = some z → At (YC E) X 5 6 [(0, .ref (E.2.2.2.2 0)), (1, .long x1), (3, .int x3)] [] σ := by
  intro n
  induction n with
  | zero =>
    intro σ x1 x3 hf
    rw [LX10_digest_6] at hf
    cases hf
  | succ n ih =>
    intro σ x1 x3 hf
    rw [LX10_digest_6] at hf
    exact okBX10_digest_6 O (LX10_digest_6 n) ih σ x1 x3 hf
def fX10_digest (σ : St) : Option (Int64 × St) :=
  LX10_digest_6 fu σ 17 0
set_option maxRecDepth 100000 in
theorem ctX10_digest {E : ET} (hE : Dj (YC E)) (σ : St) (z : Int64 × St) (hf : fX10_digest σ = some z) : Ct (YC E) yX10_digest cX10_digest 5 (some .long) rmX10_digest [.ref (E.2.2.2.2 0)] σ (some (.long z.1)) z.2 := by
  refine Ct.of hE (by decide) (Nat.le_of_ble_eq_true rfl) (fun X O => ?_)
  have O : Ok (YC E) X cX10_digest 5 RX10 (some .long) rmX10_digest (some (.long z.1)) z.2 := O
  show At (YC E) X 5 0 [(0, .ref (E.2.2.2.2 0))] [] σ
  unfold fX10_digest at hf
  refine a_ldc2 (pc' := 3) (v := 17) O wm_964 dX10_digest_0 rfl ?_
  refine a_lstore_n (pc' := 4) (lv' := [(1, .long 17), (0, .ref (E.2.2.2.2 0))]) O dX10_digest_3 rfl (by decide) rfl rfl ?_
  refine a_iconst (pc' := 5) (v := 0) O dX10_digest_4 (by decide) rfl ?_
  refine a_istore_n (pc' := 6) (lv' := [(3, .int 0), (1, .long 17), (0, .ref (E.2.2.2.2 0))]) O dX10_digest_5 rfl (by decide) rfl rfl ?_
  exact a_sub [2, 1, 0] rfl (okLX10_digest_6 O fu σ 17 0 hf)
