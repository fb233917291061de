/-! copy -/
theorem copy_l2 {t j n : Nat} (ht : t < 4) (hj : j + n ≤ 60) : ∀ (k a : Nat) (m : St), a ≤ n → n - a < k → ∃ m', LX11_copy_157 k m (nI t) (nI j) (nI n) (nI a) = some (1, m') ∧ m'.1 = m.1 ∧ (∀ q, q ≠ 3 → m'.2.2 q = m.2.2 q) ∧ (∀ b, a ≤ b → b < n → m'.2.2 3 (60 * t + j + b) = m.2.2 4 b) ∧ ∀ b, (b < 60 * t + j + a ∨ 60 * t + j + n ≤ b) → m'.2.2 3 b = m.2.2 3 b := by
  intro k
  induction k with
  | zero => intro a m h1 h2; omega
  | succ k ih =>
    intro a m h1 h2
    rw [LX11_copy_157]
    unfold BX11_copy_157
    by_cases h : a = n
    · subst h
      rw [if_pos (nI_le (Nat.le_refl _) (by omega))]
      exact ⟨m, rfl, rfl, fun _ _ => rfl, fun j a b => by omega, fun _ _ => rfl⟩
    · have e : (60 : Int32) * nI t + nI j + nI a = nI (60 * t + j + a) := by
        rw [show (60 : Int32) * nI t + nI j = nI (60 * t + j) from idx_n 60 t j, nI_add]
      rw [if_neg (nI_ge (by omega) (by omega)), e, gI_n (show a < 60 by omega) (by decide), gI_n (show 60 * t + j + a < 240 by omega) (by decide), bS_eq, bI_eq, cl_n (by omega), cl_n (by omega), nI_1]
      obtain ⟨m', e1, e2, e3, e4, e5⟩ := ih (a + 1) (sA m 3 (60 * t + j + a) (m.2.2 4 a)) (by omega) (by omega)
      refine ⟨m', e1, e2, fun q hq => ?_, fun b hb1 hb2 => ?_, fun b hb => ?_⟩
      · rw [e3 q hq, sA_22, if_neg hq]
      · by_cases hba : b = a
        · subst hba
          rw [e5 _ (by omega), sA_3, if_pos ⟨rfl, rfl⟩]
        · rw [e4 b (by omega) hb2, sA_3, if_neg (by omega)]
      · rw [e5 b (by omega), sA_3, if_neg (by omega)]
theorem copy_l1 {s i t j n : Nat} (hs : s < 4) (hi : i + n ≤ 60) : ∀ (k a : Nat) (m : St), a ≤ n → n - a < k → ∃ m', LX11_copy_120 k m (nI s) (nI i) (nI t) (nI j) (nI n) (nI a) = LX11_copy_157 fu m' (nI t) (nI j) (nI n) (nI 0) ∧ m'.1 = m.1 ∧ (∀ q, q ≠ 4 → m'.2.2 q = m.2.2 q) ∧ (∀ b, a ≤ b → b < n → m'.2.2 4 b = m.2.2 3 (60 * s + i + b)) ∧ ∀ b, b < a → m'.2.2 4 b = m.2.2 4 b := by
  intro k
  induction k with
  | zero => intro a m h1 h2; omega
  | succ k ih =>
    intro a m h1 h2
    rw [LX11_copy_120]
    unfold BX11_copy_120
    by_cases h : a = n
    · subst h
      rw [if_pos (nI_le (Nat.le_refl _) (by omega))]
      exact ⟨m, rfl, rfl, fun _ _ => rfl, fun j a b => by omega, fun _ _ => rfl⟩
    · have e : (60 : Int32) * nI s + nI i + nI a = nI (60 * s + i + a) := by
        rw [show (60 : Int32) * nI s + nI i = nI (60 * s + i) from idx_n 60 s i, nI_add]
      rw [if_neg (nI_ge (by omega) (by omega)), e, gI_n (show 60 * s + i + a < 240 by omega) (by decide), gI_n (show a < 60 by omega) (by decide), bS_eq, bI_eq, cl_n (by omega), cl_n (by omega), nI_1]
      obtain ⟨m', e1, e2, e3, e4, e5⟩ := ih (a + 1) (sA m 4 a (m.2.2 3 (60 * s + i + a))) (by omega) (by omega)
      refine ⟨m', e1, e2, fun q hq => ?_, fun b hb1 hb2 => ?_, fun b hb => ?_⟩
      · rw [e3 q hq, sA_22, if_neg hq]
      · by_cases hba : b = a
        · subst hba
          rw [e5 _ (by omega), sA_3, if_pos ⟨rfl, rfl⟩]
        · rw [e4 b (by omega) hb2, sA_3, if_neg (by omega)]
      · rw [e5 b (by omega), sA_3, if_neg (by omega)]
theorem gCp_pos {α : Type} {sp dp n n0 n1 : Nat} {k : Option α} (h1 : sp + n ≤ n0) (h2 : dp + n ≤ n1) (h3 : n0 < 2 ^ 31) (h4 : n1 < 2 ^ 31) : gCp (nI sp) (nI dp) (nI n) n0 n1 k = k := by
  unfold gCp
  rw [i_ti (by omega), i_ti (by omega), i_ti (by omega), if_pos (by omega)]
theorem sim_copy (a0 a1 a2 a3 a4 : Int32) {c m : St} (h : Rel c m) : ∃ (r : Int32) (c1 : St) (m1 : St), fX10_copy a0 a1 a2 a3 a4 c = some (r, c1) ∧ fX11_copy a0 a1 a2 a3 a4 m = some (r, m1) ∧ Rel c1 m1 := by
  unfold fX10_copy fX11_copy
  simp only [exists_sp, isSheet_sp, bd_e, ite10]
  by_cases v0 : 0 ≤ a0.toInt ∧ a0.toInt ≤ 3
  · rw [if_pos v0, if_pos v0]
    by_cases v1 : 0 ≤ a2.toInt ∧ a2.toInt ≤ 3
    · rw [if_pos v1, if_pos v1]
      obtain ⟨s, -, hs, rfl⟩ := i_rg (lo := 0) (hi := 3) v0.1 v0.2
      obtain ⟨t, -, ht, rfl⟩ := i_rg (lo := 0) (hi := 3) v1.1 v1.2
      have hs4 : s < 4 := by omega
      have ht4 : t < 4 := by omega
      simp only [gI_n hs4 (show 4 < 2 ^ 31 by decide), gI_n ht4 (show 4 < 2 ^ 31 by decide), cl_n (show s < 2 ^ 31 by omega), cl_n (show t < 2 ^ 31 by omega)]
      rcases h.2.2.2.2.2 s hs4 with ⟨h1, h2⟩ | ⟨f, z, h1, h2, h3, h4, h5, h6, h7⟩
      · rw [lost_y hs4 h1, bd_e, if_neg ne10, h2, if_pos (show (-1 : Int32) < 0 by decide), found_e, met_e]
        exact ⟨_, _, _, rfl, rfl, h.find 1⟩
      · rw [lost_n hs4 (by omega) h5, bd_e, if_pos rfl, h4, if_neg (nI_pos (show f < 2 ^ 31 by omega))]
        rcases h.2.2.2.2.2 t ht4 with ⟨k1, k2⟩ | ⟨f', z', k1, k2, k3, k4, k5, k6, k7⟩
        · rw [lost_y ht4 k1, bd_e, if_neg ne10, k2, if_neg (show ¬ (0 : Int32) ≤ -1 by decide), found_e, met_e]
          exact ⟨_, _, _, rfl, rfl, h.find 1⟩
        · rw [lost_n ht4 (by omega) k5, bd_e, if_pos rfl, k4, if_pos (pos_n (show f' < 2 ^ 31 by omega))]
          unfold fX5_alike
          rw [ex_n hs4, bd_e, if_neg ne10, ex_n ht4, bd_e, if_neg ne10, gI_n hs4 (by decide), gI_n ht4 (by decide), cl_n (by omega), cl_n (by omega), h3, k3]
          by_cases hff : nI f = nI f'
          · rw [if_pos hff, bd_e, if_neg ne10, if_pos hff, holds_sp hs4 h2 h5, bd_e, ite10, holds_sp ht4 k2 k5, bd_e, ite10]
            simp only [i_lt, j_lt, j_le, add64, i_64, h6, k6, i_ti (show z < 2 ^ 31 by omega), i_ti (show z' < 2 ^ 31 by omega), lit_ti.1]
            by_cases w1 : 0 ≤ a1.toInt ∧ 0 ≤ a4.toInt ∧ a1.toInt + a4.toInt ≤ z
            · by_cases w2 : 0 ≤ a3.toInt ∧ 0 ≤ a4.toInt ∧ a3.toInt + a4.toInt ≤ z'
              · rw [if_pos w1, if_pos w2, if_neg (by omega), if_neg (by omega), if_neg (by omega), if_neg (by omega), if_pos (by omega)]
                obtain ⟨n, -, hn, rfl⟩ := i_rg (a := a4) (lo := 0) (hi := 60) w1.2.1 (by omega)
                obtain ⟨i, -, hi, rfl⟩ := i_rg (a := a1) (lo := 0) (hi := 60) w1.1 (by omega)
                obtain ⟨j, -, hj, rfl⟩ := i_rg (a := a3) (lo := 0) (hi := 60) w2.1 (by omega)
                rw [i_ti (by omega), i_ti (by omega)] at w1 w2
                unfold fX5_move
                rw [holds_sp hs4 h2 h5, bd_e, ite10, if_pos (by rw [i_ti (by omega), i_ti (by omega)]; exact w1), holds_sp ht4 k2 k5, bd_e, ite10, if_pos (by rw [i_ti (by omega), i_ti (by omega)]; exact w2), gI_n hs4 (by decide), gI_n ht4 (by decide), gCp_pos (by omega) (by omega) (by decide) (by decide), bS_eq, bd_e, cl_n (show s < 2 ^ 31 by omega), cl_n (show t < 2 ^ 31 by omega), cl_n (show i < 2 ^ 31 by omega), cl_n (show j < 2 ^ 31 by omega), cl_n (show n < 2 ^ 31 by omega)]
                obtain ⟨m1, e1, e2, e3, e4, -⟩ := copy_l1 (s := s) (i := i) (t := t) (j := j) (n := n) hs4 (by omega) fu 0 m (by omega) (by unfold fu; omega)
                obtain ⟨m2, g1, g2, g3, g4, g5⟩ := copy_l2 (t := t) (j := j) (n := n) ht4 (by omega) fu 0 m1 (by omega) (by unfold fu; omega)
                rw [show (0 : Int32) = nI 0 from rfl, e1, g1]
                refine ⟨_, _, _, rfl, rfl, h.setH rfl (fun k a b d => ?_) (g2.trans e2) (fun k a b d e => ?_) (fun q hq => ?_)⟩
                · rw [sR_22, if_neg (by omega)]
                · rw [g3 k d, e3 k e]
                · by_cases hqt : q = t
                  · subst hqt
                    refine Or.inr ⟨f', z', k1, k2, ?_, ?_, ?_, ?_, fun x hx => ?_⟩
                    · rw [sR_22, if_neg (by omega), k3]
                    · rw [g3 1 (by decide), e3 1 (by decide), k4]
                    · rw [sR_22, if_neg (by omega), k5]
                    · rw [g3 2 (by decide), e3 2 (by decide), k6]
                    · rw [sR_22, if_pos rfl]
                      unfold va_cpy
                      by_cases hx2 : j ≤ x ∧ x < j + n
                      · rw [if_pos hx2, h7 _ (by omega)]
                        have := g4 (x - j) (by omega) (by omega)
                        rw [show 60 * q + x = 60 * q + j + (x - j) by omega, this, e4 (x - j) (by omega) (by omega)]
                        exact congrArg (m.2.2 3) (by omega)
                      · rw [if_neg hx2, k7 x hx, g5 _ (by omega), e3 3 (by decide)]
                  · refine (h.2.2.2.2.2 q hq).fr ?_ ?_ (fun x hx => ?_) ?_ ?_ (fun x hx => ?_)
                    · rw [sR_22, if_neg (by omega)]
                    · rw [sR_22, if_neg (by omega)]
                    · rw [sR_22, if_neg (by omega)]
                    · rw [g3 1 (by decide), e3 1 (by decide)]
                    · rw [g3 2 (by decide), e3 2 (by decide)]
                    · rw [g5 _ (by omega), e3 3 (by decide)]
              · rw [if_pos w1, if_neg w2, found_e]
                refine ⟨_, _, sI m 4 2, rfl, ?_, h.find 2⟩
                by_cases u1 : a3.toInt < 0
                · rw [if_neg (by omega), if_pos u1]; rfl
                · rw [if_neg (by omega), if_neg u1, if_neg (by omega), if_neg (by omega), if_neg (by omega)]; rfl
            · rw [if_neg w1, found_e]
              refine ⟨_, _, sI m 4 2, rfl, ?_, h.find 2⟩
              by_cases u1 : a1.toInt < 0
              · rw [if_pos u1]; rfl
              · by_cases u2 : a3.toInt < 0
                · rw [if_neg u1, if_pos u2]; rfl
                · by_cases u3 : a4.toInt < 0
                  · rw [if_neg u1, if_neg u2, if_pos u3]; rfl
                  · rw [if_neg u1, if_neg u2, if_neg u3, if_pos (by omega)]; rfl
          · rw [if_neg hff, bd_e, if_pos rfl, if_neg hff, found_e, met_e]
            exact ⟨_, _, _, rfl, rfl, h.find 4⟩
    · rw [if_neg v1, if_neg v1]
      exact ⟨_, _, _, rfl, rfl, h⟩
  · rw [if_neg v0, if_neg v0]
    exact ⟨_, _, _, rfl, rfl, h⟩
