/-! System.arraycopy between rows of the sheets; textOf -/
def gCp {α : Type} (sp dp n : Int32) (n0 n1 : Nat) (k : Option α) : Option α := if 0 ≤ sp.toInt ∧ 0 ≤ dp.toInt ∧ 0 ≤ n.toInt ∧ sp.toInt + n.toInt ≤ n0 ∧ dp.toInt + n.toInt ≤ n1 then k else none
theorem gCp_some {α : Type} {sp dp n : Int32} {n0 n1 : Nat} {k : Option α} {z : α} (h : gCp sp dp n n0 n1 k = some z) : (¬ sp < 0 ∧ ¬ dp < 0 ∧ ¬ n < 0 ∧ sp.toNatClampNeg + n.toNatClampNeg ≤ n0 ∧ dp.toNatClampNeg + n.toNatClampNeg ≤ n1) ∧ k = some z := by
  unfold gCp at h
  split at h
  next c =>
    obtain ⟨h1, h2, h3, h4, h5⟩ := c
    have nn : ∀ x : Int32, 0 ≤ x.toInt → ¬ x < 0 := fun x hx q => by
      have := Int32.lt_iff_toInt_lt.mp q
      have e : (0 : Int32).toInt = 0 := by decide
      omega
    have cl : ∀ x : Int32, x.toNatClampNeg = x.toInt.toNat := fun _ => rfl
    refine ⟨⟨nn _ h1, nn _ h2, nn _ h3, ?_, ?_⟩, h⟩
    · rw [cl, cl]; omega
    · rw [cl, cl]; omega
  next => cases h
section CP
variable {E : ET} {X : XT} {cc : ByteArray} {nL pc pc' : Nat} {rt : Option FieldType} {rm : Room} {v0 : Option Value} {σ σ0 : St} {lv : List (Nat × Value)} {st : List Value}
theorem a_cp {α : Type} {z : α} {K : St → Option α} (O : Ok (YC E) X cc nL RX5 rt rm v0 σ0) {i j sp dp n : Int32} (hi : vp_in i 4) (hj : vp_in j 4) (hfr : 1 ≤ rm.frames) (hlo : 30 ≤ rm.locals) (hst : (st.map fun v => v.category).sum ≤ 8) (hf : gCp sp dp n 60 60 (bS (sR σ (44 + j.toNatClampNeg) (va_cpy (σ.2.2 (44 + i.toNatClampNeg)) (σ.2.2 (44 + j.toNatClampNeg)) sp.toNatClampNeg dp.toNatClampNeg n.toNatClampNeg)) K) = some z) (d : decode cc pc = .ok (.invokestatic 52, 3)) (hp : pc + 3 = pc') (k : ∀ σ2, K σ2 = some z → At (YC E) X nL pc' lv st σ2) : At (YC E) X nL pc lv (.int n :: .int dp :: .ref (E.2.2.2.2 (44 + j.toNatClampNeg)) :: .int sp :: .ref (E.2.2.2.2 (44 + i.toNatClampNeg)) :: st) σ := by
  subst hp
  obtain ⟨⟨h1, h2, h3, h4, h5⟩, hf⟩ := gCp_some hf
  obtain ⟨hx, hb, hml, hown, hts, hK, hr, hlk, hR, hD, hQ⟩ := O
  intro H locs ls hP hS hl
  refine va_copyi (ty := .int) hx hb (hml.trans hl.1.symm) hown (hts _ wm_932) (hts _ wm_933) (hts _ wm_934) (hts _ wm_935) hK hP (hD σ) hS (44 + i.toNatClampNeg) (44 + j.toNatClampNeg) 0 0 (gr_44 E σ _ (vi_44 hi)) (gr_44 E σ _ (vi_44 hj)) rfl rfl rfl h1 h2 h3 h4 h5 (fun _ _ => rfl) (by rw [hR]; exact hfr) ?_ d (fun H1 locs1 hP1 _ hS1 => k _ hf H1 locs1 ls (by rw [← sr_44 E σ _ (vi_44 hj)]; exact hP1) hS1 hl)
  rw [hR]
  have e : nativeFrameWords "java/lang/System" "arraycopy" 5 = 7 := by decide
  rw [e]
  omega
end CP
def rvE (E : ET) (n : Nat) : Value := if n = 1 then .ref (E.2.2.2.2 1) else if n = 3 then .ref (E.2.2.2.2 3) else .null
theorem rvE_1 {E : ET} {n : Nat} (h : n = 1) : rvE E n = .ref (E.2.2.2.2 1) := if_pos h
theorem rvE_3 {E : ET} {n : Nat} (h : n = 3) : rvE E n = .ref (E.2.2.2.2 3) := by subst h; rfl
theorem rvE_0 {E : ET} {n : Nat} (h : ¬ n = 1) (h3 : ¬ n = 3) : rvE E n = .null := by rw [rvE, if_neg h, if_neg h3]
def fX10_textOf (a0 : Int32) : Option Nat := if a0 = 0 then some 1 else (if a0 = 1 then some 3 else some 0)
def rmX10_textOf : Room := { frames := 0, cells := 0, slots := 0, locals := 0 }
set_option maxRecDepth 100000 in
theorem ctX10_textOf {E : ET} (hE : Dj (YC E)) (a0 : Int32) (σ : St) (z : Nat) (hf : fX10_textOf a0 = some z) : Ct (YC E) yX10_textOf cX10_textOf 2 (some (.object "TurnThird$Text")) rmX10_textOf [.ref (E.2.2.2.2 0), .int a0] σ (some (rvE E z)) σ := by
  refine Ct.of hE (by decide) (Nat.le_of_ble_eq_true rfl) (fun X O => ?_)
  have O : Ok (YC E) X cX10_textOf 2 RX10 (some (.object "TurnThird$Text")) rmX10_textOf (some (rvE E z)) σ := O
  show At (YC E) X 2 0 [(0, .ref (E.2.2.2.2 0)), (1, .int a0)] [] σ
  unfold fX10_textOf at hf
  refine a_iload_n (pc' := 1) O dX10_textOf_0 rfl 1 rfl rfl ?_
  refine a_if_ne (pc' := 4) (tgt := 9) O dX10_textOf_1 (by decide) rfl hf (fun hf => ?_) (fun hf => ?_)
  · refine a_iload_n (pc' := 10) O dX10_textOf_9 rfl 1 rfl rfl ?_
    refine a_iconst (pc' := 11) (v := 1) O dX10_textOf_10 (by decide) rfl ?_
    refine a_icmp_ne (pc' := 14) (tgt := 21) O dX10_textOf_11 (by decide) rfl hf (fun hf => ?_) (fun hf => ?_)
    · refine a_null (pc' := 22) O dX10_textOf_21 rfl ?_
      cases hf
      exact a_aretV (r := .null) (Or.inl rfl) O dX10_textOf_22
    · refine a_aload_n (pc' := 15) O dX10_textOf_14 rfl 0 rfl rfl ?_
      refine gfC_0_1 (pc' := 18) O dX10_textOf_15 rfl ?_
      refine a_goto (tgt := 22) O dX10_textOf_18 (by decide) ?_
      cases hf
      exact a_aretV (r := .ref (E.2.2.2.2 3)) (Or.inr ⟨_, rfl⟩) O dX10_textOf_22
  · refine a_aload_n (pc' := 5) O dX10_textOf_4 rfl 0 rfl rfl ?_
    refine gfC_0_0 (pc' := 8) O dX10_textOf_5 rfl ?_
    cases hf
    exact a_aretV (r := .ref (E.2.2.2.2 1)) (Or.inr ⟨_, rfl⟩) O dX10_textOf_8
