/-! help, least, forget, can, turned -/
theorem sameC_t2 {c c' : St} (h : SameC c c') (a b : Nat) : SameC c (tst c' a b) := h.tr (SameC.tst a b)
theorem helped_sp {n cc : Nat} (h1 : 1 ≤ n) (h2 : n ≤ 6) (h3 : cc ≤ 999) (c : St) : fX10_helped (nI n) (nI cc) c = some (tst c (cc * n) (n + 1)) := by
  have : cc * n ≤ 999 * 6 := Nat.mul_le_mul h3 h2
  unfold fX10_helped
  rw [nI_1, nI_l (by omega), nI_l (by omega), nI_l (by omega), lN_mul, set_sp (by omega) (by omega) (by omega), bd_e]
theorem sim_help (a0 a1 a2 : Int32) {c m : St} (h : Rel c m) : ∃ (r : Int64) (c1 : St), fX10_help a0 a1 a2 c = some (r, c1) ∧ fX11_help a0 a1 a2 = some r ∧ Rel c1 m := by
  unfold fX10_help fX11_help
  simp only [bd_e, within_sp, in_sp, isTwo_sp, ite10, i_64, lit_ti, lit_tl]
  by_cases v0 : 1 ≤ a0.toInt ∧ a0.toInt ≤ 6
  · rw [if_pos v0, if_pos v0]
    by_cases v1 : 1 ≤ a1.toInt ∧ a1.toInt ≤ 999
    · rw [if_pos v1, if_pos v1]
      by_cases v2 : 0 ≤ a2.toInt ∧ a2.toInt ≤ 1
      · rw [if_pos v2, if_pos v2]
        obtain ⟨n, n1, n2, rfl⟩ := i_rg (a := a0) (lo := 1) (hi := 6) v0.1 v0.2
        obtain ⟨cc, c1, c2, rfl⟩ := i_rg (a := a1) (lo := 1) (hi := 999) v1.1 v1.2
        have : cc * n ≤ 999 * 6 := Nat.mul_le_mul c2 n2
        rw [helped_sp n1 n2 c2, bd_e, term_sp, bd_e, nI_1, nI_l (by omega), nI_l (by omega), nI_l (by omega), lN_mul, part_sp (by omega) (by omega) (by omega), bd_e]
        exact ⟨_, _, rfl, rfl, h.same (SameC.tst _ _) SameM.rf⟩
      · rw [if_neg v2, if_neg v2]
        exact ⟨_, _, rfl, rfl, h⟩
    · rw [if_neg v1, if_neg v1]
      exact ⟨_, _, rfl, rfl, h⟩
  · rw [if_neg v0, if_neg v0]
    exact ⟨_, _, rfl, rfl, h⟩
theorem red_lt {P Q x : Nat} (h : 1 ≤ Q) : P / Nat.gcd P Q < x * (Q / Nat.gcd P Q) ↔ P < x * Q := by
  have hg := Nat.gcd_pos_of_pos_right P (show 0 < Q by omega)
  obtain ⟨A, hA⟩ := Nat.gcd_dvd_left P Q
  obtain ⟨B, hB⟩ := Nat.gcd_dvd_right P Q
  rw [Nat.div_eq_of_eq_mul_right hg hA, Nat.div_eq_of_eq_mul_right hg hB]
  generalize Nat.gcd P Q = G at hA hB hg
  rw [hA, hB, show x * (G * B) = G * (x * B) by ac_rfl]
  exact (Nat.mul_lt_mul_left hg).symm
theorem least_loop {need cc : Nat} (h1 : need ≤ 999) (h2 : cc ≤ 999) {c : St} : ∀ (f n : Nat) (c' : St), SameC c c' → 1 ≤ n → n ≤ 7 → 7 < f + n → ∃ (r : Int32) (c1 : St), LX10_least_27 f c' (nI need) (nI cc) (nI n) = some (r, c1) ∧ LX11_leastOf_2 f (nI need) (nI cc) (nI n) = some r ∧ SameC c c1 := by
  intro f
  induction f with
  | zero => intro n c' g1 g2 g3 g4; omega
  | succ f ih =>
    intro n c' g1 g2 g3 g4
    rw [LX10_least_27, LX11_leastOf_2]
    unfold BX10_least_27 BX11_leastOf_2
    by_cases q : n = 7
    · subst q
      exact ⟨_, _, rfl, rfl, g1⟩
    · have w1 : cc * n ≤ 999 * 6 := Nat.mul_le_mul h2 (by omega)
      have w2 : need * (n + 1) ≤ 999 * 7 := Nat.mul_le_mul h1 (by omega)
      have w3 : (n + 1) / Nat.gcd (cc * n) (n + 1) ≤ 7 := Nat.le_trans (Nat.div_le_self _ _) (by omega)
      have w4 : cc * n / Nat.gcd (cc * n) (n + 1) ≤ 999 * 6 := Nat.le_trans (Nat.div_le_self _ _) (by omega)
      have w5 : need * ((n + 1) / Nat.gcd (cc * n) (n + 1)) ≤ 999 * 7 := Nat.mul_le_mul h1 w3
      rw [if_neg (show ¬ (6 : Int32) < nI n from nI_nlt (b := n) (a := 6) (by omega) (by decide)), if_neg (show ¬ (7 : Int32) ≤ nI n from nI_ge (show n < 7 by omega) (by decide)), helped_sp g2 (by omega) h2, bd_e, show fX2_term 0 (tst c' (cc * n) (n + 1)) = some (lN (cc * n / Nat.gcd (cc * n) (n + 1))) from rfl, bd_e, show fX2_term 1 (tst c' (cc * n) (n + 1)) = some (lN ((n + 1) / Nat.gcd (cc * n) (n + 1))) from rfl, bd_e, nI_l (by omega), lN_mul, nI_1, pk_mul, pk_mul]
      by_cases z : cc * n < need * (n + 1)
      · rw [if_pos ((pk_lLT (by omega) (by omega)).mpr ((red_lt (by omega)).mpr z)), if_pos (nI_lt z (by omega)), bI_eq, bI_eq]
        exact ih (n + 1) _ (sameC_t2 g1 _ _) (by omega) (by omega) (by omega)
      · rw [if_neg (fun y => z ((red_lt (by omega)).mp ((pk_lLT (by omega) (by omega)).mp y))), if_neg (nI_nlt (by omega) (by omega))]
        exact ⟨_, _, rfl, rfl, sameC_t2 g1 _ _⟩
theorem sim_least (a0 a1 : Int32) {c m : St} (h : Rel c m) : ∃ (r : Int32) (c1 : St), fX10_least a0 a1 c = some (r, c1) ∧ fX11_least a0 a1 = some r ∧ Rel c1 m := by
  unfold fX10_least fX11_least
  simp only [bd_e, within_sp, in_sp, ite10, i_64, lit_ti, lit_tl]
  by_cases v0 : 1 ≤ a0.toInt ∧ a0.toInt ≤ 999
  · rw [if_pos v0, if_pos v0]
    by_cases v1 : 1 ≤ a1.toInt ∧ a1.toInt ≤ 999
    · rw [if_pos v1, if_pos v1]
      obtain ⟨n, n1, n2, rfl⟩ := i_rg (a := a0) (lo := 1) (hi := 999) v0.1 v0.2
      obtain ⟨cc, c1, c2, rfl⟩ := i_rg (a := a1) (lo := 1) (hi := 999) v1.1 v1.2
      obtain ⟨r, c1, e1, e2, e3⟩ := least_loop n2 c2 (c := c) fu 1 c SameC.rf (by decide) (by decide) (by unfold fu; omega)
      unfold fX11_leastOf
      rw [show LX10_least_27 fu c (nI n) (nI cc) 1 = _ from e1, show LX11_leastOf_2 fu (nI n) (nI cc) 1 = _ from e2, bd_e]
      exact ⟨_, _, rfl, rfl, h.same e3 SameM.rf⟩
    · rw [if_neg v1, if_neg v1]
      exact ⟨_, _, rfl, rfl, h⟩
  · rw [if_neg v0, if_neg v0]
    exact ⟨_, _, rfl, rfl, h⟩
/-- only cans have changed -/
theorem Rel.setK {c m c' m' : St} (h : Rel c m) (hi : ∀ k, k ≠ 15 → c'.1 k = c.1 k) (ha : ∀ k, k ≠ 19 → k ≠ 20 → k ≠ 21 → k ≠ 22 → c'.2.2 k = c.2.2 k) (ji : ∀ k, k ≠ 23 → m'.1 k = m.1 k) (ja : ∀ k, k ≠ 15 → m'.2.2 k = m.2.2 k) (hK : ∃ n pl ow re wy, RK n pl ow re wy c' m') : Rel c' m' := by
  obtain ⟨⟨n0, n1, t0, t1, h1, h2, h3⟩, ⟨g, w, h4⟩, ⟨n, ch, mi, od, h5⟩, -, h7⟩ := h
  refine ⟨⟨n0, n1, t0, t1, h1.fr ?_ ?_ ?_ ?_ ?_ ?_, h2.fr ?_ ?_ ?_ h1.1, h3.fr ?_ ?_⟩, ⟨g, w, h4.fr ?_ ?_ ?_ ?_⟩, ⟨n, ch, mi, od, h5.fr ?_ ?_ ?_ ?_ ?_ ?_⟩, hK, h7.fr ?_ ?_ ?_ ?_ ?_ ?_ ?_ ?_⟩
  all_goals first | exact hi _ (by decide) | exact ha _ (by decide) (by decide) (by decide) (by decide) | exact ji _ (by decide) | exact ja _ (by decide) | (intro s hs; exact ha _ (by omega) (by omega) (by omega) (by omega))
/-- only side ways have changed -/
theorem Rel.setS {c m c' m' : St} (h : Rel c m) (hi : ∀ k, k ≠ 14 → c'.1 k = c.1 k) (ha : ∀ k, k ≠ 15 → k ≠ 16 → k ≠ 17 → c'.2.2 k = c.2.2 k) (ji : ∀ k, k ≠ 20 → m'.1 k = m.1 k) (ja : ∀ k, k ≠ 13 → m'.2.2 k = m.2.2 k) (hS : ∃ n ch mi od, RS n ch mi od c' m') : Rel c' m' := by
  obtain ⟨⟨n0, n1, t0, t1, h1, h2, h3⟩, ⟨g, w, h4⟩, -, ⟨k, pl, ow, re, wy, h6⟩, h7⟩ := h
  refine ⟨⟨n0, n1, t0, t1, h1.fr ?_ ?_ ?_ ?_ ?_ ?_, h2.fr ?_ ?_ ?_ h1.1, h3.fr ?_ ?_⟩, ⟨g, w, h4.fr ?_ ?_ ?_ ?_⟩, hS, ⟨k, pl, ow, re, wy, h6.fr ?_ ?_ ?_ ?_ ?_ ?_ ?_⟩, h7.fr ?_ ?_ ?_ ?_ ?_ ?_ ?_ ?_⟩
  all_goals first | exact hi _ (by decide) | exact ha _ (by decide) (by decide) (by decide) | exact ji _ (by decide) | exact ja _ (by decide) | (intro s hs; exact ha _ (by omega) (by omega) (by omega))
theorem sim_forget {c m : St} (h : Rel c m) : ∃ (r : Int32) (c1 : St) (m1 : St), fX10_forget c = some (r, c1) ∧ fX11_forget m = some (r, m1) ∧ Rel c1 m1 := by
  obtain ⟨nc, pl, ow, re, wy, c1, c2, c3, -⟩ := h.2.2.2.1
  unfold fX10_forget fX11_forget fX0_size fX0_clear
  simp only [bd_e, bS_eq, bI_eq, c2, c3]
  refine ⟨_, _, _, rfl, rfl, h.setK (fun k hk => if_neg hk) (fun _ _ _ _ _ => rfl) (fun k hk => if_neg hk) (fun _ _ => rfl) ⟨0, pl, ow, re, wy, by decide, rfl, rfl, fun i hi => absurd hi (Nat.not_lt_zero _)⟩⟩
theorem sim_can (a0 a1 a2 a3 : Int32) {c m : St} (h : Rel c m) : ∃ (r : Int32) (c1 : St) (m1 : St), fX10_can a0 a1 a2 a3 c = some (r, c1) ∧ fX11_can a0 a1 a2 a3 m = some (r, m1) ∧ Rel c1 m1 := by
  obtain ⟨n, pl, ow, re, wy, c1, c2, c3, c4⟩ := h.2.2.2.1
  unfold fX10_can fX11_can BX10_can_44 BX10_can_45
  simp only [bd_e, within_sp, in_sp, isTwo_sp, ite10, i_64, lit_ti, lit_tl, if_pos (show (0 : Int32) = 0 from rfl), if_neg ne10]
  by_cases v0 : 0 ≤ a0.toInt ∧ a0.toInt ≤ 16
  case neg => rw [if_neg v0, if_neg v0]; exact ⟨_, _, _, rfl, rfl, h⟩
  by_cases v1 : 0 ≤ a1.toInt ∧ a1.toInt ≤ 3
  case neg => rw [if_pos v0, if_pos v0, if_neg v1, if_neg v1]; exact ⟨_, _, _, rfl, rfl, h⟩
  by_cases v2 : 0 ≤ a2.toInt ∧ a2.toInt ≤ 999
  case neg => rw [if_pos v0, if_pos v0, if_pos v1, if_pos v1, if_neg v2, if_neg v2]; exact ⟨_, _, _, rfl, rfl, h⟩
  by_cases v3 : 0 ≤ a3.toInt ∧ a3.toInt ≤ 1
  case neg => rw [if_pos v0, if_pos v0, if_pos v1, if_pos v1, if_pos v2, if_pos v2, if_neg v3, if_neg v3]; exact ⟨_, _, _, rfl, rfl, h⟩
  rw [if_pos v0, if_pos v0, if_pos v1, if_pos v1, if_pos v2, if_pos v2, if_pos v3, if_pos v3]
  obtain ⟨x0, -, y0, rfl⟩ := i_rg (a := a0) (lo := 0) (hi := 16) v0.1 v0.2
  obtain ⟨x1, -, y1, rfl⟩ := i_rg (a := a1) (lo := 0) (hi := 3) v1.1 v1.2
  obtain ⟨x2, -, y2, rfl⟩ := i_rg (a := a2) (lo := 0) (hi := 999) v2.1 v2.2
  obtain ⟨x3, -, y3, rfl⟩ := i_rg (a := a3) (lo := 0) (hi := 1) v3.1 v3.2
  unfold fX0_add fX0_size
  by_cases q : n = 6
  · subst q
    rw [c2, c3]
    exact ⟨_, _, _, rfl, rfl, h⟩
  · simp only [bS_eq, sA_1, c2, c3, sI_1, if_pos]
    have i0 : (4 : Int32) * nI n = nI (4 * n) := pk_mul 4 n
    have i1 : nI (4 * n) + 1 = nI (4 * n + 1) := nI_add _ 1
    have i2 : nI (4 * n) + 2 = nI (4 * n + 2) := nI_add _ 2
    have i3 : nI (4 * n) + 3 = nI (4 * n + 3) := nI_add _ 3
    rw [if_pos (show nI n < (6 : Int32) from nI_lt (b := 6) (by omega) (by decide)), gI_n (show n < 6 by omega) (by decide), gI_n (show n < 6 by omega) (by decide), gI_n (show n < 6 by omega) (by decide), gI_n (show n < 6 by omega) (by decide), bd_e, if_neg ne10, bd_e, if_neg (show ¬ nI n = (6 : Int32) from ne_n (b := 6) q (by omega) (by decide)), i0, i1, i2, i3, gI_n (show 4 * n < 24 by omega) (by decide), gI_n (show 4 * n + 1 < 24 by omega) (by decide), gI_n (show 4 * n + 2 < 24 by omega) (by decide), gI_n (show 4 * n + 3 < 24 by omega) (by decide), cl_n (by omega), cl_n (by omega), cl_n (by omega), cl_n (by omega), cl_n (by omega), nI_1]
    refine ⟨_, _, _, rfl, rfl, h.setK (fun k hk => if_neg hk) (fun k g1 g2 g3 g4 => ?_) (fun k hk => if_neg hk) (fun k hk => ?_) ⟨n + 1, fun i => if i = n then x0 else pl i, fun i => if i = n then x1 else ow i, fun i => if i = n then x2 else re i, fun i => if i = n then x3 else wy i, by omega, rfl, rfl, fun i hi => ?_⟩⟩
    · simp only [sI_2, sA_22, if_neg g1, if_neg g2, if_neg g3, if_neg g4]
    · simp only [sI_2, sA_22, if_neg hk]
    · simp only [sI_2, sA_3]
      by_cases z : i = n
      · subst z
        simp [y0, y1, y2, y3]
      · have := c4 i (by omega)
        have z0 : ¬ 4 * i = 4 * n := by omega
        have z1 : ¬ 4 * i + 1 = 4 * n + 1 := by omega
        have z2 : ¬ 4 * i + 2 = 4 * n + 2 := by omega
        have z3 : ¬ 4 * i + 3 = 4 * n + 3 := by omega
        have z4 : ¬ 4 * i = 4 * n + 1 := by omega
        have z5 : ¬ 4 * i = 4 * n + 2 := by omega
        have z6 : ¬ 4 * i = 4 * n + 3 := by omega
        have z7 : ¬ 4 * i + 1 = 4 * n := by omega
        have z8 : ¬ 4 * i + 1 = 4 * n + 2 := by omega
        have z9 : ¬ 4 * i + 1 = 4 * n + 3 := by omega
        have za : ¬ 4 * i + 2 = 4 * n := by omega
        have zb : ¬ 4 * i + 2 = 4 * n + 1 := by omega
        have zc : ¬ 4 * i + 2 = 4 * n + 3 := by omega
        have zd : ¬ 4 * i + 3 = 4 * n := by omega
        have ze : ¬ 4 * i + 3 = 4 * n + 1 := by omega
        have zf : ¬ 4 * i + 3 = 4 * n + 2 := by omega
        simp only [if_neg z, if_neg z0, if_neg z1, if_neg z2, if_neg z3, if_neg z4, if_neg z5, if_neg z6, if_neg z7, if_neg z8, if_neg z9, if_neg za, if_neg zb, if_neg zc, if_neg zd, if_neg ze, if_neg zf, z, z0, z1, z2, z3, z4, z5, z6, z7, z8, z9, za, zb, zc, zd, ze, zf, and_false, if_false]
        simpa using this
