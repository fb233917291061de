/-! sheets -/
theorem nI_nm1 {z : Nat} (h : z < 2 ^ 31) : ¬ nI z = -1 := fun q => by
  have := (i_eq _ _).mp q
  rw [i_ti h, i_m1] at this
  omega
theorem idx_n (a s i : Nat) : nI a * nI s + nI i = nI (a * s + i) := by rw [pk_mul, nI_add]
theorem ex_n {s : Nat} (hs : s < 4) : fX5_exists (nI s) = some 1 := by
  rw [exists_sp, if_pos (by rw [i_ti (by omega)]; omega)]
theorem sh_n {s : Nat} (hs : s < 4) : fX11_isSheet (nI s) = some 1 := by
  rw [isSheet_sp, if_pos (by rw [i_ti (by omega)]; omega)]
theorem fm_n {f : Nat} (hs : f ≤ 2) : fX5_isForm (nI f) = some 1 := by
  rw [isForm_sp, if_pos (by rw [i_ti (by omega)]; omega)]
theorem lost_y {c : St} {s : Nat} (hs : s < 4) (h : c.2.2 26 s = -1) : fX5_isLost (nI s) c = some 1 := by
  unfold fX5_isLost
  rw [ex_n hs, bd_e, if_neg ne10, gI_n hs (by decide), cl_n (by omega), if_pos h]
theorem lost_n {c : St} {s z : Nat} (hs : s < 4) (hz : z < 2 ^ 31) (h : c.2.2 26 s = nI z) : fX5_isLost (nI s) c = some 0 := by
  unfold fX5_isLost
  rw [ex_n hs, bd_e, if_neg ne10, gI_n hs (by decide), cl_n (by omega), if_neg (by rw [h]; exact nI_nm1 hz)]
theorem size_n {c : St} {s z : Nat} (hs : s < 4) (hz : z < 2 ^ 31) (h : c.2.2 26 s = nI z) : fX5_size (nI s) c = some (nI z) := by
  unfold fX5_size
  rw [lost_n hs hz h, bd_e, if_pos rfl, gI_n hs (by decide), cl_n (by omega), h]
theorem found_e (k : Int32) (c : St) : fX5_found k c = some ((-10) - k, sI c 16 k) := rfl
theorem met_e (k : Int32) (m : St) : fX11_met k m = some ((-10) - k, sI m 4 k) := rfl
/-- a finding: the two states stay related -/
theorem Rel.find {c m : St} (h : Rel c m) (k : Int32) : Rel (sI c 16 k) (sI m 4 k) := by
  obtain ⟨⟨n0, n1, t0, t1, h1, h2, h3⟩, ⟨g, w, h4⟩, ⟨n, ch, mi, od, h5⟩, ⟨k, pl, ow, re, wy, h6⟩, h7⟩ := h
  exact ⟨⟨n0, n1, t0, t1, h1.fr rfl rfl rfl rfl rfl rfl, h2.fr rfl rfl (fun _ _ => rfl) h1.1, h3.fr rfl rfl⟩, ⟨g, w, h4.fr rfl rfl rfl rfl⟩, ⟨n, ch, mi, od, h5.fr rfl rfl rfl rfl rfl rfl⟩, ⟨_, pl, ow, re, wy, h6.fr rfl rfl rfl rfl rfl rfl rfl⟩, rfl, fun s hs => (h7.2 s hs).fr rfl rfl (fun _ _ => rfl) rfl rfl (fun _ _ => rfl)⟩
/-- only sheets have changed -/
theorem Rel.setH {c m c' m' : St} (h : Rel c m) (hi : c'.1 = c.1) (ha : ∀ k, k ≠ 25 → k ≠ 26 → k < 44 → c'.2.2 k = c.2.2 k) (ji : m'.1 = m.1) (ja : ∀ k, k ≠ 1 → k ≠ 2 → k ≠ 3 → k ≠ 4 → m'.2.2 k = m.2.2 k) (hH : ∀ s, s < 4 → RH1 c' m' s) : Rel c' m' := by
  obtain ⟨⟨n0, n1, t0, t1, h1, h2, h3⟩, ⟨g, w, h4⟩, ⟨n, ch, mi, od, h5⟩, ⟨k, pl, ow, re, wy, h6⟩, h7⟩ := h
  refine ⟨⟨n0, n1, t0, t1, h1.fr ?_ ?_ ?_ ?_ ?_ ?_, h2.fr ?_ ?_ ?_ h1.1, h3.fr ?_ ?_⟩, ⟨g, w, h4.fr ?_ ?_ ?_ ?_⟩, ⟨n, ch, mi, od, h5.fr ?_ ?_ ?_ ?_ ?_ ?_⟩, ⟨k, pl, ow, re, wy, h6.fr ?_ ?_ ?_ ?_ ?_ ?_ ?_⟩, ?_, hH⟩
  all_goals first | rw [hi] | exact ha _ (by decide) (by decide) (by decide) | rw [ji] | exact ja _ (by decide) (by decide) (by decide) (by decide) | (intro p hp; exact ha _ (by omega) (by omega) (by omega)) | skip
  rw [ji]
  exact h7.1
theorem make_loop {s : Nat} (hs : s < 4) (f z : Int32) : ∀ (n i : Nat) (c : St), i ≤ 60 → 60 - i < n → ∃ c', LX5_make_11 n c (nI s) f z (nI i) = BX5_make_34 c' (nI s) f z ∧ c'.1 = c.1 ∧ (∀ k, k ≠ 44 + s → c'.2.2 k = c.2.2 k) ∧ (∀ j, i ≤ j → j < 60 → c'.2.2 (44 + s) j = 0) ∧ ∀ j, j < i → c'.2.2 (44 + s) j = c.2.2 (44 + s) j := by
  intro n
  induction n with
  | zero => intro i c h1 h2; omega
  | succ n ih =>
    intro i c h1 h2
    rw [LX5_make_11]
    unfold BX5_make_11
    by_cases h : i = 60
    · subst h
      rw [if_pos (show (60 : Int32) ≤ nI 60 from nI_le (Nat.le_refl _) (by decide))]
      exact ⟨c, rfl, rfl, fun _ _ => rfl, fun j a b => by omega, fun _ _ => rfl⟩
    · rw [if_neg (show ¬ (60 : Int32) ≤ nI i from nI_ge (a := i) (b := 60) (by omega) (by decide)), gI_n hs (by decide), gI_n (show i < 60 by omega) (by decide), bS_eq, bI_eq, cl_n (by omega), cl_n (by omega), nI_1]
      obtain ⟨c', e1, e2, e3, e4, e5⟩ := ih (i + 1) (sA c (44 + s) i 0) (by omega) (by omega)
      refine ⟨c', e1, e2, fun k hk => ?_, fun j a b => ?_, fun j a => ?_⟩
      · rw [e3 k hk, sA_22, if_neg hk]
      · by_cases hj : j = i
        · subst hj
          rw [e5 j (by omega), sA_3, if_pos ⟨rfl, rfl⟩]
        · exact e4 j (by omega) b
      · rw [e5 j (by omega), sA_3, if_neg (by omega)]
theorem sheet_loop {s z : Nat} (hs : s < 4) (hz : z ≤ 60) : ∀ (n i : Nat) (m : St), i ≤ z → z - i < n → ∃ m', LX11_sheet_55 n m (nI s) (nI z) (nI i) = some (nI z, m') ∧ m'.1 = m.1 ∧ (∀ k, k ≠ 3 → m'.2.2 k = m.2.2 k) ∧ (∀ j, i ≤ j → j < z → m'.2.2 3 (60 * s + j) = 0) ∧ ∀ j, (j < 60 * s + i ∨ 60 * s + z ≤ j) → m'.2.2 3 j = m.2.2 3 j := by
  intro n
  induction n with
  | zero => intro i c h1 h2; omega
  | succ n ih =>
    intro i m h1 h2
    rw [LX11_sheet_55]
    unfold BX11_sheet_55
    by_cases h : i = z
    · subst h
      rw [if_pos (nI_le (Nat.le_refl _) (by omega))]
      exact ⟨m, rfl, rfl, fun _ _ => rfl, fun j a b => by omega, fun _ _ => rfl⟩
    · rw [if_neg (nI_ge (by omega) (by omega)), show (60 : Int32) * nI s + nI i = nI (60 * s + i) from idx_n 60 s i, gI_n (show 60 * s + i < 240 by omega) (by decide), bS_eq, bI_eq, cl_n (by omega), nI_1]
      obtain ⟨m', e1, e2, e3, e4, e5⟩ := ih (i + 1) (sA m 3 (60 * s + i) 0) (by omega) (by omega)
      refine ⟨m', e1, e2, fun k hk => ?_, fun j a b => ?_, fun j a => ?_⟩
      · rw [e3 k hk, sA_22, if_neg hk]
      · by_cases hj : j = i
        · subst hj
          rw [e5 _ (by omega), sA_3, if_pos ⟨rfl, rfl⟩]
        · exact e4 j (by omega) b
      · rw [e5 j (by omega), sA_3, if_neg (by omega)]
theorem sim_sheet (a0 a1 a2 : Int32) {c m : St} (h : Rel c m) : ∃ (r : Int32) (c1 : St) (m1 : St), fX10_sheet a0 a1 a2 c = some (r, c1) ∧ fX11_sheet a0 a1 a2 m = some (r, m1) ∧ Rel c1 m1 := by
  unfold fX10_sheet fX11_sheet
  rw [exists_sp, isSheet_sp, isForm_sp, in_sp, i_64]
  by_cases v0 : 0 ≤ a0.toInt ∧ a0.toInt ≤ 3
  · rw [if_pos v0]
    simp only [bd_e, if_neg ne10]
    by_cases v1 : 0 ≤ a1.toInt ∧ a1.toInt ≤ 2
    · have v1' : (0 : Int64).toInt ≤ a1.toInt ∧ a1.toInt ≤ (2 : Int64).toInt := v1
      rw [if_pos v1, if_pos v1', if_neg ne10, if_neg ne10]
      by_cases v2 : a2 ≤ 60
      · rw [if_pos v2, if_pos v2]
        by_cases v3 : 0 ≤ a2
        · rw [if_pos v3, if_pos v3]
          obtain ⟨s, -, hs, rfl⟩ := i_rg (lo := 0) (hi := 3) v0.1 v0.2
          obtain ⟨f, -, hf, rfl⟩ := i_rg (lo := 0) (hi := 2) v1.1 v1.2
          obtain ⟨z, -, hz, rfl⟩ := i_rg (lo := 0) (hi := 60) (a := a2) ((i_le _ _).mp v3) ((i_le _ _).mp v2)
          have hs4 : s < 4 := by omega
          unfold fX5_make
          rw [ex_n hs4, bd_e, if_neg ne10, gI_n hs4 (by decide), bS_eq, gI_n hs4 (by decide), bS_eq, cl_n (by omega)]
          obtain ⟨c', e1, e2, e3, e4, -⟩ := make_loop hs4 (nI f) (nI z) fu 0 c (by decide) (by decide)
          obtain ⟨m', g1, g2, g3, g4, g5⟩ := sheet_loop hs4 hz fu 0 (sA (sA m 1 s (nI f)) 2 s (nI z)) (by omega) (by unfold fu; omega)
          rw [show (0 : Int32) = nI 0 from rfl, e1, g1]
          unfold BX5_make_34
          rw [gI_n hs4 (by decide), bS_eq, gI_n hs4 (by decide), bS_eq, cl_n (by omega)]
          refine ⟨_, _, _, rfl, rfl, h.setH e2 (fun k a b d => ?_) g2 (fun k a b d e => ?_) (fun q hq => ?_)⟩
          · rw [sA_22, if_neg b, sA_22, if_neg a, e3 k (by omega)]
          · rw [g3 k d, sA_22, if_neg b, sA_22, if_neg a]
          · by_cases hqs : q = s
            · subst hqs
              refine Or.inr ⟨f, z, hf, hz, ?_, ?_, ?_, ?_, fun i hi => ?_⟩
              · rw [sA_3, if_neg (by omega), sA_3, if_pos ⟨rfl, rfl⟩]
              · rw [g3 1 (by decide), sA_3, if_neg (by omega), sA_3, if_pos ⟨rfl, rfl⟩]
              · rw [sA_3, if_pos ⟨rfl, rfl⟩]
              · rw [g3 2 (by decide), sA_3, if_pos ⟨rfl, rfl⟩]
              · rw [sA_3, if_neg (by omega), sA_3, if_neg (by omega), e4 i (by omega) (by omega), g4 i (by omega) hi]
            · obtain ⟨-, -, -, -, h7⟩ := h
              refine (h7.2 q hq).fr ?_ ?_ (fun i hi => ?_) ?_ ?_ (fun i hi => ?_)
              · rw [sA_3, if_neg (by omega), sA_3, if_neg (by omega), e3 25 (by omega)]
              · rw [sA_3, if_neg (by omega), sA_3, if_neg (by omega), e3 26 (by omega)]
              · rw [sA_3, if_neg (by omega), sA_3, if_neg (by omega), e3 (44 + q) (by omega)]
              · rw [g3 1 (by decide), sA_3, if_neg (by omega), sA_3, if_neg (by omega)]
              · rw [g3 2 (by decide), sA_3, if_neg (by omega), sA_3, if_neg (by omega)]
              · rw [g5 (60 * q + i) (by omega), sA_3, if_neg (by omega), sA_3, if_neg (by omega)]
        · rw [if_neg v3, if_neg v3, found_e, met_e]
          exact ⟨_, _, _, rfl, rfl, h.find 5⟩
      · rw [if_neg v2, if_neg v2]
        exact ⟨_, _, _, rfl, rfl, h⟩
    · have v1' : ¬ ((0 : Int64).toInt ≤ a1.toInt ∧ a1.toInt ≤ (2 : Int64).toInt) := v1
      rw [if_neg v1, if_neg v1', if_pos rfl, if_pos rfl]
      exact ⟨_, _, _, rfl, rfl, h⟩
  · rw [if_neg v0]
    exact ⟨_, _, _, rfl, rfl, h⟩
theorem sim_lose (a0 : Int32) {c m : St} (h : Rel c m) : ∃ (r : Int32) (c1 : St) (m1 : St), fX10_lose a0 c = some (r, c1) ∧ fX11_lose a0 m = some (r, m1) ∧ Rel c1 m1 := by
  unfold fX10_lose fX11_lose
  rw [exists_sp, isSheet_sp]
  by_cases v0 : 0 ≤ a0.toInt ∧ a0.toInt ≤ 3
  · rw [if_pos v0]
    simp only [bd_e, if_neg ne10]
    obtain ⟨s, -, hs, rfl⟩ := i_rg (lo := 0) (hi := 3) v0.1 v0.2
    have hs4 : s < 4 := by omega
    rw [gI_n hs4 (by decide), gI_n hs4 (by decide), bS_eq, gI_n hs4 (by decide), cl_n (by omega)]
    have h7 := h.2.2.2.2.2 s hs4
    rcases h7 with ⟨h1, h2⟩ | ⟨f, z, h1, h2, h3, h4, h5, h6, h7⟩
    · rw [lost_y hs4 h1, bd_e, if_neg ne10, h2, if_neg (show ¬ (0 : Int32) ≤ -1 by decide), found_e, met_e]
      exact ⟨_, _, _, rfl, rfl, h.find 1⟩
    · rw [lost_n hs4 (by omega) h5, bd_e, if_pos rfl, size_n hs4 (by omega) h5, bd_e, h4, if_pos (show (0 : Int32) ≤ nI f from nI_le (a := 0) (b := f) (by omega) (by omega))]
      unfold fX5_drop
      rw [ex_n hs4, bd_e, if_neg ne10, gI_n hs4 (by decide), bS_eq, bd_e, cl_n (by omega), sA_3, if_neg (by omega), h6]
      refine ⟨_, _, _, rfl, rfl, h.setH rfl (fun k a b d => ?_) rfl (fun k a b d e => ?_) (fun q hq => ?_)⟩
      · rw [sA_22, if_neg b]
      · rw [sA_22, if_neg a]
      · by_cases hqs : q = s
        · subst hqs
          exact Or.inl ⟨by rw [sA_3, if_pos ⟨rfl, rfl⟩], by rw [sA_3, if_pos ⟨rfl, rfl⟩]⟩
        · refine (h.2.2.2.2.2 q hq).fr ?_ ?_ (fun i hi => ?_) ?_ ?_ (fun i hi => ?_)
          all_goals rw [sA_3, if_neg (by omega)]
  · rw [if_neg v0]
    exact ⟨_, _, _, rfl, rfl, h⟩
theorem pos_n {f : Nat} (h : f < 2 ^ 31) : (0 : Int32) ≤ nI f := nI_le (a := 0) (b := f) (Nat.zero_le _) h
theorem add64 (x y : Int32) : (x.toInt64 + y.toInt64).toInt = x.toInt + y.toInt := by
  have a1 := Int32.toInt_lt x
  have a2 := Int32.le_toInt x
  have b1 := Int32.toInt_lt y
  have b2 := Int32.le_toInt y
  rw [Int64.toInt_add, i_64, i_64, Int.bmod_def]
  split <;> omega
/-- the class's look and the reference's lacks, of a sheet that there is -/
theorem holds_sp {c : St} {s z : Nat} (hs : s < 4) (hz : z ≤ 60) (h5 : c.2.2 26 s = nI z) (i n : Int32) : fX5_holds (nI s) i n c = some (if 0 ≤ i.toInt ∧ 0 ≤ n.toInt ∧ i.toInt + n.toInt ≤ z then 1 else 0) := by
  unfold fX5_holds
  have e0 : (0 : Int32).toInt = 0 := by decide
  simp only [i_lt, e0]
  by_cases h1 : i.toInt < 0
  · rw [if_pos h1, if_neg (by omega)]
  · by_cases h2 : n.toInt < 0
    · rw [if_neg h1, if_pos h2, if_neg (by omega)]
    · rw [if_neg h1, if_neg h2, size_n hs (by omega) h5, bd_e]
      simp only [j_lt, i_64, add64, i_ti (show z < 2 ^ 31 by omega)]
      by_cases h3 : (z : Int) < i.toInt + n.toInt
      · rw [if_pos h3, if_neg (by omega)]
      · rw [if_neg h3, if_pos (by omega)]
theorem look_sp {c m : St} (h : Rel c m) {s f : Nat} (hs : s < 4) (hf : f ≤ 2) (i : Int32) : (∃ k : Int32, fX5_look (nI s) (nI f) i c = some ((-10) - k, sI c 16 k) ∧ fX11_lacks (nI s) (nI f) i m = some ((-10) - k, sI m 4 k) ∧ ¬ (-10) - k = 0) ∨ ∃ z j : Nat, z ≤ 60 ∧ j < z ∧ i = nI j ∧ c.2.2 25 s = nI f ∧ m.2.2 1 s = nI f ∧ c.2.2 26 s = nI z ∧ m.2.2 2 s = nI z ∧ (∀ i, i < z → c.2.2 (44 + s) i = m.2.2 3 (60 * s + i)) ∧ fX5_look (nI s) (nI f) i c = some (0, c) ∧ fX11_lacks (nI s) (nI f) i m = some (0, m) := by
  have hl : fX5_look (nI s) (nI f) i c = (fX5_isLost (nI s) c).bind (fun z5 => if z5 = 0 then if c.2.2 25 s = nI f then (fX5_holds (nI s) i 1 c).bind (fun z7 => if z7 = 0 then (fX5_found 2 c).bind (fun z9 => some (z9.1, z9.2)) else (some (0, c))) else ((fX5_found 3 c).bind (fun z11 => some (z11.1, z11.2))) else ((fX5_found 1 c).bind (fun z13 => some (z13.1, z13.2)))) := by
    unfold fX5_look
    rw [ex_n hs, bd_e, if_neg ne10, fm_n hf, bd_e, if_neg ne10, gI_n hs (by decide), cl_n (by omega)]
  have hm : fX11_lacks (nI s) (nI f) i m = if 0 ≤ m.2.2 1 s then (if m.2.2 1 s = nI f then (fX11_in (i.toInt64) 0 ((m.2.2 2 s - 1).toInt64)).bind (fun z1 => if z1 = 0 then (fX11_met 2 m).bind (fun z3 => some (z3.1, z3.2)) else (some (0, m))) else ((fX11_met 3 m).bind (fun z5 => some (z5.1, z5.2)))) else ((fX11_met 1 m).bind (fun z7 => some (z7.1, z7.2))) := by
    unfold fX11_lacks
    rw [gI_n hs (by decide), gI_n hs (by decide), gI_n hs (by decide), cl_n (by omega)]
  rw [hl, hm]
  rcases h.2.2.2.2.2 s hs with ⟨h1, h2⟩ | ⟨f', z, h1, h2, h3, h4, h5, h6, h7⟩
  · left
    refine ⟨1, ?_, ?_, by decide⟩
    · rw [lost_y hs h1, bd_e, if_neg ne10]; rfl
    · rw [h2, if_neg (show ¬ (0 : Int32) ≤ -1 by decide)]; rfl
  · rw [lost_n hs (by omega) h5, bd_e, if_pos rfl, h3, h4, if_pos (pos_n (by omega))]
    by_cases hff : nI f' = nI f
    · rw [if_pos hff, if_pos hff, holds_sp hs h2 h5, in_sp, h6]
      have e1 : ((nI z - 1).toInt64).toInt = (z : Int) - 1 := by
        rw [i_64]
        exact pk_sub_toInt (a := z) (b := 1) (by omega) (by decide)
      simp only [bd_e, e1, i_64]
      have l1 : (1 : Int32).toInt = 1 := by decide
      have l2 : (0 : Int64).toInt = 0 := by decide
      rw [l1, l2, ite10, ite10]
      by_cases hv : 0 ≤ i.toInt ∧ i.toInt ≤ (z : Int) - 1
      · right
        obtain ⟨j, -, hj, rfl⟩ := i_rg (a := i) (lo := 0) (hi := z - 1) hv.1 (by omega)
        refine ⟨z, j, h2, by omega, rfl, by rw [hff], by rw [hff], h5, rfl, h7, ?_, ?_⟩
        · rw [if_pos (by omega)]
        · rw [if_pos hv]
      · left
        refine ⟨2, ?_, ?_, by decide⟩
        · rw [if_neg (by omega)]; rfl
        · rw [if_neg hv]; rfl
    · left
      refine ⟨3, ?_, ?_, by decide⟩
      · rw [if_neg hff]; rfl
      · rw [if_neg hff]; rfl
theorem look_bad {s f i : Int32} {c : St} (h : ¬ ((0 ≤ s.toInt ∧ s.toInt ≤ 3) ∧ (0 ≤ f.toInt ∧ f.toInt ≤ 2))) : fX5_look s f i c = some (-2, c) := by
  unfold fX5_look
  rw [exists_sp, bd_e]
  by_cases v0 : 0 ≤ s.toInt ∧ s.toInt ≤ 3
  · rw [if_pos v0, if_neg ne10, isForm_sp, bd_e, if_neg (fun q => h ⟨v0, q⟩), if_pos rfl]
  · rw [if_neg v0, if_pos rfl]
theorem cut_eq (f v : Int32) : fX11_cut f v = fX5_cut f v := rfl
theorem cut_some (f v : Int32) : ∃ w, fX5_cut f v = some w := by
  unfold fX5_cut
  by_cases h1 : f = 0
  · exact ⟨_, by rw [if_pos h1]⟩
  · by_cases h2 : f = 1
    · exact ⟨_, by rw [if_neg h1, if_pos h2]⟩
    · exact ⟨_, by rw [if_neg h1, if_neg h2]⟩
/-- an item of both is written -/
theorem Rel.item {c m : St} (h : Rel c m) {s z j f : Nat} (hs : s < 4) (hz : z ≤ 60) (hj : j < z) (hf : f ≤ 2) (h3 : c.2.2 25 s = nI f) (h4 : m.2.2 1 s = nI f) (h5 : c.2.2 26 s = nI z) (h6 : m.2.2 2 s = nI z) (h7 : ∀ i, i < z → c.2.2 (44 + s) i = m.2.2 3 (60 * s + i)) (v : Int32) : Rel (sA c (44 + s) j v) (sA m 3 (60 * s + j) v) := by
  refine h.setH rfl (fun k a b d => ?_) rfl (fun k a b d e => ?_) (fun q hq => ?_)
  · rw [sA_22, if_neg (by omega)]
  · rw [sA_22, if_neg d]
  · by_cases hqs : q = s
    · subst hqs
      refine Or.inr ⟨f, z, hf, hz, ?_, ?_, ?_, ?_, fun i hi => ?_⟩
      · rw [sA_3, if_neg (by omega), h3]
      · rw [sA_3, if_neg (by omega), h4]
      · rw [sA_3, if_neg (by omega), h5]
      · rw [sA_3, if_neg (by omega), h6]
      · rw [sA_3, sA_3]
        by_cases hij : i = j
        · subst hij
          rw [if_pos ⟨rfl, rfl⟩, if_pos ⟨rfl, rfl⟩]
        · rw [if_neg (by omega), if_neg (by omega)]
          exact h7 i hi
    · refine (h.2.2.2.2.2 q hq).fr ?_ ?_ (fun i hi => ?_) ?_ ?_ (fun i hi => ?_)
      all_goals rw [sA_3, if_neg (by omega)]
theorem sim_lay (a0 a1 a2 a3 : Int32) {c m : St} (h : Rel c m) : ∃ (r : Int32) (c1 : St) (m1 : St), fX10_lay a0 a1 a2 a3 c = some (r, c1) ∧ fX11_lay a0 a1 a2 a3 m = some (r, m1) ∧ Rel c1 m1 := by
  by_cases v : (0 ≤ a0.toInt ∧ a0.toInt ≤ 3) ∧ (0 ≤ a1.toInt ∧ a1.toInt ≤ 2)
  · obtain ⟨v0, v1⟩ := v
    obtain ⟨s, -, hs, rfl⟩ := i_rg (lo := 0) (hi := 3) v0.1 v0.2
    obtain ⟨f, -, hf, rfl⟩ := i_rg (lo := 0) (hi := 2) v1.1 v1.2
    have hs4 : s < 4 := by omega
    unfold fX10_lay fX11_lay
    have v1' : (0 : Int64).toInt ≤ (nI f).toInt ∧ (nI f).toInt ≤ (2 : Int64).toInt := v1
    rw [sh_n hs4, bd_e, if_neg ne10, in_sp, i_64, if_pos v1', bd_e, if_neg ne10]
    rcases look_sp h hs4 hf a2 with ⟨k, e1, e2, e3⟩ | ⟨z, j, hz, hj, rfl, h3, h4, h5, h6, h7, e1, e2⟩
    · rw [e1, e2, bd_e, bd_e, bI_eq, bI_eq, if_neg e3, if_neg e3]
      exact ⟨_, _, _, rfl, rfl, h.find k⟩
    · rw [e1, e2, bd_e, bd_e, bI_eq, bI_eq, if_pos rfl, if_pos rfl]
      unfold fX5_put
      obtain ⟨w, hw⟩ := cut_some (nI f) a3
      rw [holds_sp hs4 hz h5, bd_e, ite10, if_pos (by rw [i_ti (by omega), show (1 : Int32).toInt = 1 by decide]; omega), gI_n hs4 (by decide), gI_n hs4 (by decide), cl_n (by omega), h3, hw, bd_e, gI_n (show j < 60 by omega) (by decide), bS_eq, bd_e, cut_eq, hw, bd_e, show (60 : Int32) * nI s + nI j = nI (60 * s + j) from idx_n 60 s j, gI_n (show 60 * s + j < 240 by omega) (by decide), bS_eq, cl_n (by omega), cl_n (by omega)]
      exact ⟨_, _, _, rfl, rfl, h.item hs4 hz hj hf h3 h4 h5 h6 h7 w⟩
  · unfold fX10_lay fX11_lay
    rw [look_bad v, bd_e, bI_eq, if_neg (show ¬ (-2 : Int32) = 0 by decide), isSheet_sp, bd_e]
    refine ⟨_, _, m, rfl, ?_, h⟩
    by_cases v0 : 0 ≤ a0.toInt ∧ a0.toInt ≤ 3
    · have v1' : ¬ ((0 : Int64).toInt ≤ a1.toInt ∧ a1.toInt ≤ (2 : Int64).toInt) := fun q => v ⟨v0, q⟩
      rw [if_pos v0, if_neg ne10, in_sp, i_64, if_neg v1', bd_e, if_pos rfl]
    · rw [if_neg v0, if_pos rfl]
theorem sim_get (a0 a1 a2 : Int32) {c m : St} (h : Rel c m) : ∃ (r : Int32) (c1 : St) (m1 : St), fX10_get a0 a1 a2 c = some (r, c1) ∧ fX11_get a0 a1 a2 m = some (r, m1) ∧ Rel c1 m1 := by
  by_cases v : (0 ≤ a0.toInt ∧ a0.toInt ≤ 3) ∧ (0 ≤ a1.toInt ∧ a1.toInt ≤ 2)
  · obtain ⟨v0, v1⟩ := v
    obtain ⟨s, -, hs, rfl⟩ := i_rg (lo := 0) (hi := 3) v0.1 v0.2
    obtain ⟨f, -, hf, rfl⟩ := i_rg (lo := 0) (hi := 2) v1.1 v1.2
    have hs4 : s < 4 := by omega
    unfold fX10_get fX11_get
    have v1' : (0 : Int64).toInt ≤ (nI f).toInt ∧ (nI f).toInt ≤ (2 : Int64).toInt := v1
    rw [sh_n hs4, bd_e, if_neg ne10, in_sp, i_64, if_pos v1', bd_e, if_neg ne10]
    rcases look_sp h hs4 hf a2 with ⟨k, e1, e2, e3⟩ | ⟨z, j, hz, hj, rfl, h3, h4, h5, h6, h7, e1, e2⟩
    · rw [e1, e2, bd_e, bd_e, if_neg e3, if_neg e3]
      exact ⟨_, _, _, rfl, rfl, h.find k⟩
    · rw [e1, e2, bd_e, bd_e, if_pos rfl, if_pos rfl]
      unfold fX5_item
      rw [holds_sp hs4 hz h5, bd_e, ite10, if_pos (by rw [i_ti (by omega), show (1 : Int32).toInt = 1 by decide]; omega), gI_n hs4 (by decide), gI_n (show j < 60 by omega) (by decide), bd_e, cl_n (by omega), cl_n (by omega), show (60 : Int32) * nI s + nI j = nI (60 * s + j) from idx_n 60 s j, gI_n (show 60 * s + j < 240 by omega) (by decide), cl_n (by omega), h7 j hj]
      exact ⟨_, _, _, rfl, rfl, h⟩
  · unfold fX10_get fX11_get
    rw [look_bad v, bd_e, if_neg (show ¬ (-2 : Int32) = 0 by decide), isSheet_sp, bd_e]
    refine ⟨_, _, m, rfl, ?_, h⟩
    by_cases v0 : 0 ≤ a0.toInt ∧ a0.toInt ≤ 3
    · have v1' : ¬ ((0 : Int64).toInt ≤ a1.toInt ∧ a1.toInt ≤ (2 : Int64).toInt) := fun q => v ⟨v0, q⟩
      rw [if_pos v0, if_neg ne10, in_sp, i_64, if_neg v1', bd_e, if_pos rfl]
    · rw [if_neg v0, if_pos rfl]
