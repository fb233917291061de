/-! write -/
theorem write_loop {s f z q : Nat} (hs : s < 4) (hf : f ≤ 2) (hz : z ≤ 60) (hq : q ≤ z) (hq4 : q ≤ 4) : ∀ (fl i : Nat) (c m : St), i ≤ q → q < fl + i → Rel c m → c.2.2 25 s = nI f → m.2.2 1 s = nI f → c.2.2 26 s = nI z → m.2.2 2 s = nI z → (∀ i, i < z → c.2.2 (44 + s) i = m.2.2 3 (60 * s + i)) → (∀ j, j < 4 → c.2.2 11 j = m.2.2 10 j) → ∃ (c1 m1 : St), LX10_write_77 fl c (nI s) (nI q) (nI i) = some (nI q, c1) ∧ LX11_write_45 fl m (nI s) (nI q) (nI i) = some (nI q, m1) ∧ Rel c1 m1 := by
  intro fl
  induction fl with
  | zero => intro i c m a1 a2; omega
  | succ fl ih =>
    intro i c m a1 a2 h h3 h4 h5 h6 h7 h8
    rw [LX10_write_77, LX11_write_45]
    unfold BX10_write_77 BX11_write_45
    by_cases y : i = q
    · subst y
      rw [if_pos (nI_le (Nat.le_refl _) (by omega)), if_pos (nI_le (Nat.le_refl _) (by omega))]
      exact ⟨_, _, rfl, rfl, h⟩
    · obtain ⟨w, hw⟩ := cut_some (nI f) (m.2.2 10 i)
      unfold fX9_remains fX5_put
      rw [if_neg (nI_ge (show i < q by omega) (by omega)), if_neg (nI_ge (show i < q by omega) (by omega)), if_neg (nI_pos (show i < 2 ^ 31 by omega)), if_neg (show ¬ (4 : Int32) ≤ nI i from nI_ge (show i < 4 by omega) (by decide)), gI_n (show i < 4 by omega) (by decide), bd_e, cl_n (show i < 2 ^ 31 by omega), h8 i (by omega), holds_sp hs hz h5, bd_e, ite10, if_pos (by rw [i_ti (by omega), show (1 : Int32).toInt = 1 by decide]; omega), gI_n hs (by decide), gI_n hs (by decide), cl_n (show s < 2 ^ 31 by omega), h3, hw, bd_e, gI_n (show i < 60 by omega) (by decide), bS_eq, bd_e, bI_eq, gI_n hs (by decide), gI_n (show i < 4 by omega) (by decide), h4, cut_eq, hw, bd_e, show (60 : Int32) * nI s + nI i = nI (60 * s + i) from idx_n 60 s i, gI_n (show 60 * s + i < 240 by omega) (by decide), bS_eq, bI_eq, cl_n (show 60 * s + i < 2 ^ 31 by omega), nI_1]
      refine ih (i + 1) _ _ (by omega) (by omega) (h.item hs hz (show i < z by omega) hf h3 h4 h5 h6 h7 w) ?_ ?_ ?_ ?_ (fun j hj => ?_) (fun j hj => ?_)
      · rw [sA_22, if_neg (by omega)]; exact h3
      · rw [sA_22, if_neg (by omega)]; exact h4
      · rw [sA_22, if_neg (by omega)]; exact h5
      · rw [sA_22, if_neg (by omega)]; exact h6
      · rw [sA_3, sA_3]
        by_cases e : j = i
        · subst e
          rw [if_pos ⟨rfl, rfl⟩, if_pos ⟨rfl, rfl⟩]
        · rw [if_neg (by omega), if_neg (by omega)]
          exact h7 j hj
      · rw [sA_22, if_neg (by omega), sA_22, if_neg (by omega)]
        exact h8 j hj
theorem sim_write (a0 : Int32) {c m : St} (h : Rel c m) : ∃ (r : Int32) (c1 : St) (m1 : St), fX10_write a0 c = some (r, c1) ∧ fX11_write a0 m = some (r, m1) ∧ Rel c1 m1 := by
  unfold fX10_write fX11_write
  rw [exists_sp, isSheet_sp, bd_e, bd_e, ite10, ite10]
  by_cases v0 : 0 ≤ a0.toInt ∧ a0.toInt ≤ 3
  · rw [if_pos v0, if_pos v0]
    obtain ⟨s, -, hs, rfl⟩ := i_rg (a := a0) (lo := 0) (hi := 3) v0.1 v0.2
    have hs4 : s < 4 := by omega
    rw [gI_n hs4 (by decide), cl_n (by omega)]
    rcases h.2.2.2.2.2 s hs4 with ⟨h1, h2⟩ | ⟨f, z, h1, h2, h3, h4, h5, h6, h7⟩
    · rw [lost_y hs4 h1, bd_e, if_neg ne10, h2, if_neg (show ¬ (0 : Int32) ≤ -1 by decide), found_e, met_e]
      exact ⟨_, _, _, rfl, rfl, h.find 1⟩
    · obtain ⟨c', m', f1, f2, f3, f4, f5, f6, f7, f8, f9, f10⟩ := plansAll_sp h
      obtain ⟨g, w, hL⟩ := f3.2.1
      have g2 := hL.2.1
      have k3 : c'.2.2 25 s = nI f := by rw [f9.2 25 (by decide) (by decide)]; exact h3
      have k5 : c'.2.2 26 s = nI z := by rw [f9.2 26 (by decide) (by decide)]; exact h5
      have k4 : m'.2.2 1 s = nI f := by rw [f10.2 1 (by decide) (by decide) (by decide) (by decide) (by decide) (by decide) (by decide)]; exact h4
      have k6 : m'.2.2 2 s = nI z := by rw [f10.2 2 (by decide) (by decide) (by decide) (by decide) (by decide) (by decide) (by decide)]; exact h6
      have k7 : ∀ i, i < z → c'.2.2 (44 + s) i = m'.2.2 3 (60 * s + i) := fun i hi => by
        rw [f9.2 (44 + s) (by omega) (by omega), f10.2 3 (by decide) (by decide) (by decide) (by decide) (by decide) (by decide) (by decide)]
        exact h7 i hi
      unfold fX4_size fX3_party fX11_lesser
      rw [lost_n hs4 (by omega) h5, bd_e, if_pos rfl, bd_e, f1, bd_e, size_n hs4 (by omega) k5, bd_e, bd_e, bI_eq, h4, if_pos (pos_n (by omega)), f2, bd_e, gI_n hs4 (by decide), k6, hL.2.2.1, hL.2.2.2.1]
      have e1 : (if nI g < nI z then nI g else nI z) = nI (min g z) := by
        by_cases y : g < z
        · rw [if_pos (nI_lt y (by omega)), Nat.min_eq_left (by omega)]
        · rw [if_neg (nI_nlt (by omega) (by omega)), Nat.min_eq_right (by omega)]
      have e2 : (if nI g ≤ nI z then some (nI g) else some (nI z)) = some (nI (min g z)) := by
        by_cases y : g ≤ z
        · rw [if_pos (nI_le y (by omega)), Nat.min_eq_left (by omega)]
        · rw [if_neg (nI_ge (by omega) (by omega)), Nat.min_eq_right (by omega)]
      rw [e1, e2, bd_e]
      obtain ⟨c1, m1, j1, j2, j3⟩ := write_loop (q := min g z) hs4 h1 h2 (by omega) (by omega) fu 0 c' m' (by omega) (by unfold fu; omega) f3 k3 k4 k5 k6 k7 f7
      rw [show LX10_write_77 fu c' (nI s) (nI (min g z)) 0 = _ from j1, show LX11_write_45 fu m' (nI s) (nI (min g z)) 0 = _ from j2]
      exact ⟨_, _, _, rfl, rfl, j3⟩
  · rw [if_neg v0, if_neg v0]
    exact ⟨_, _, _, rfl, rfl, h⟩
