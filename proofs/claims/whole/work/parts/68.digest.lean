/-! digest -/
theorem Cv.so {k : Nat} {F : Nat → Nat → Nat} {c m c' m' : St} (h : Cv k F c m) (a : SameC c c') (b1 : m'.1 = m.1) (b2 : ∀ k, k ≠ 14 → m'.2.2 k = m.2.2 k) : Cv k F c' m' := h.fr (a.1 _ (by decide)) (fun p _ => a.2 _ (by omega) (by omega)) (by rw [b1]) (b2 _ (by decide)) (b2 _ (by decide))
theorem d_count {c : St} : ∀ (f j : Nat) (m : St) (x : Int64), Rel c m → j ≤ 8 → 8 < f + j → ∃ x' m1, LX10_digest_6 f c x (nI j) = BX10_digest_29 c x' ∧ LX11_digest_6 f m x (nI j) = LX11_digest_33 fu m1 x' 0 ∧ Rel c m1 := by
  intro f
  induction f with
  | zero => intro j m x h h1 h2; omega
  | succ f ih =>
    intro j m x h h1 h2
    rw [LX10_digest_6, LX11_digest_6]
    unfold BX10_digest_6 BX11_digest_6 fX10_mix
    by_cases z : j = 8
    · subst z
      rw [if_pos (show (7 : Int32) < nI 8 by decide), if_pos (show (8 : Int32) ≤ nI 8 by decide)]
      exact ⟨x, m, rfl, rfl, h⟩
    · obtain ⟨r, m1, e1, e2, e3⟩ := sim_count (nI j) h
      rw [if_neg (show ¬ (7 : Int32) < nI j from nI_nlt (b := j) (a := 7) (by omega) (by decide)), if_neg (show ¬ (8 : Int32) ≤ nI j from nI_ge (show j < 8 by omega) (by decide)), e1, e2, bd_e, bd_e, bd_e, bI_eq, bL_eq, bI_eq, nI_1]
      exact ih (j + 1) m1 _ e3 (by omega) (by omega)
theorem d_fault {c m : St} (h : Rel c m) : ∃ (r0 r1 : Int32) (m1 m2 : St), fX10_fault 0 c = some r0 ∧ fX11_fault 0 m = some (r0, m1) ∧ fX10_fault 1 c = some r1 ∧ fX11_fault 1 m1 = some (r1, m2) ∧ Rel c m2 ∧ ∃ k F, Cv k F c m2 := by
  obtain ⟨r0, m1, e1, e2, e3⟩ := sim_fault 0 h
  obtain ⟨r1, m2, f1, f2, f3⟩ := sim_fault 1 e3
  refine ⟨r0, r1, m1, m2, e1, e2, f1, f2, f3, ?_⟩
  obtain ⟨⟨n0, n1, t0, t1, ⟨h1, h2, h3, h4, h5, h6, h7, h8, h9, h10, h11, h12⟩, ⟨j, k1, k2, k3, k4⟩, -⟩, -⟩ := id h
  obtain ⟨r, m1', g0, ⟨j', g1, g2, g3, g4⟩, g5, g6⟩ := readsCave_sp h1 h3 h7 h11
  obtain rfl := fst_bad_u k1 g1
  have c1 : Cv (szc n0 j) (figc t0) c m1' := ⟨by unfold szc; split <;> omega, k2, g3, fun p hp => ⟨figc_bd k1 hp, k4 p hp, fun s hs => (g4 p hp).1 s hs, (g4 p hp).2⟩⟩
  have q1 : m1 = m1' := by
    have e := e2
    unfold fX11_fault at e
    rw [show fX11_isTwo 0 = some 1 from rfl, bd_e, if_neg ne10, if_pos rfl, g0, bd_e] at e
    injection e with e
    injection e with _ e
    exact e.symm
  subst q1
  obtain ⟨⟨n0', n1', t0', t1', ⟨-, i2, -, i4, -, -, -, i8, -, -, -, i12⟩, -, -⟩, -⟩ := id e3
  obtain ⟨r2, m2', l1, -, l3⟩ := readsPlan_sp (m := m1) i2 i4 i8 i12
  have q2 : m2 = m2' := by
    have e := f2
    unfold fX11_fault at e
    rw [show fX11_isTwo 1 = some 1 from rfl, bd_e, if_neg ne10, if_neg ne10, l1, bd_e] at e
    injection e with e
    injection e with _ e
    exact e.symm
  subst q2
  exact ⟨_, _, c1.fr rfl (fun _ _ => rfl) (l3.1 8 (by decide) (by decide)) (by rw [l3.2]) (by rw [l3.2])⟩
theorem part_of {k : Nat} {F : Nat → Nat → Nat} {c m : St} (h : Cv k F c m) {p s : Nat} (hp : p < k) (hs : s < 4) : fX10_part (nI p) (nI s) c = some (nI (F p s)) ∧ fX11_partOf (nI p) (nI s) m = some (nI (F p s)) := by
  obtain ⟨h1, h2, h3, h4⟩ := id h
  have lk : (nI k - 1).toInt = (k : Int) - 1 := pk_sub_toInt (a := k) (b := 1) (by omega) (by decide)
  constructor
  · unfold fX10_part fX1_size
    simp only [bd_e, within_sp, ite10, h2, lk, lit_ti]
    rw [i_ti (by omega), i_ti (by omega), if_pos (show (0 : Int) ≤ (p : Int) ∧ (p : Int) ≤ (k : Int) - 1 by omega), if_pos (show (0 : Int) ≤ (s : Int) ∧ (s : Int) ≤ 3 by omega), figure_n h hp hs, bd_e]
  · unfold fX11_partOf
    obtain ⟨b1, b2, b3, b4⟩ := h4 p hp
    by_cases hs3 : s = 3
    · subst hs3
      rw [if_pos (show nI 3 = (3 : Int32) from rfl), gI_n (show p < 16 by omega) (by decide), cl_n (by omega), b4]
      by_cases hz : F p 3 = 0
      · rw [hz]; rfl
      · rw [show F p 3 = 1 by omega]; rfl
    · rw [if_neg (show ¬ nI s = (3 : Int32) from ne_n (b := 3) hs3 (by omega) (by decide)), show (3 : Int32) * nI p + nI s = nI (3 * p + s) from idx_n 3 p s, gI_n (show 3 * p + s < 48 by omega) (by decide), cl_n (by omega), b3 s (by omega)]
theorem d_part1 {k p : Nat} {F : Nat → Nat → Nat} {c m : St} (h : Cv k F c m) (hp : p < k) (k51 k59 : St → Int64 → Int32 → Option (Int64 × St)) : ∀ (f j : Nat) (x : Int64), j ≤ 4 → 4 < f + j → ∃ x', LX10_digest_65 k51 f c x (nI p) (nI j) = k51 c x' (nI (p + 1)) ∧ LX11_digest_70 k59 f m x (nI p) (nI j) = k59 m x' (nI (p + 1)) := by
  intro f
  induction f with
  | zero => intro j x h1 h2; omega
  | succ f ih =>
    intro j x h1 h2
    rw [LX10_digest_65, LX11_digest_70]
    unfold BX10_digest_65 BX11_digest_70 fX10_mix
    by_cases z : j = 4
    · subst z
      rw [if_pos (show (3 : Int32) < nI 4 by decide), if_pos (show (4 : Int32) ≤ nI 4 by decide), bI_eq, bI_eq, nI_1]
      exact ⟨x, rfl, rfl⟩
    · obtain ⟨e1, e2⟩ := part_of h hp (show j < 4 by omega)
      rw [if_neg (show ¬ (3 : Int32) < nI j from nI_nlt (b := j) (a := 3) (by omega) (by decide)), if_neg (show ¬ (4 : Int32) ≤ nI j from nI_ge (show j < 4 by omega) (by decide)), e1, e2, bd_e, bd_e, bd_e, bI_eq, bL_eq, bI_eq, nI_1]
      exact ih (j + 1) _ (by omega) (by omega)
theorem d_part {k : Nat} {F : Nat → Nat → Nat} {c m : St} (h : Cv k F c m) : ∀ (f i : Nat) (x : Int64), i ≤ k → k < f + i → ∃ x', LX10_digest_51 f c x (nI i) = BX10_digest_96 c x' ∧ LX11_digest_59 f m x (nI i) = LX11_digest_105 fu m x' 0 := by
  intro f
  induction f with
  | zero => intro i x h1 h2; omega
  | succ f ih =>
    intro i x h1 h2
    have hk := h.1
    rw [LX10_digest_51, LX11_digest_59]
    unfold BX10_digest_51 BX11_digest_59 fX1_size
    rw [bd_e, h.2.1, h.2.2.1]
    by_cases z : i = k
    · subst z
      rw [if_pos (nI_le (Nat.le_refl _) (by omega)), if_pos (nI_le (Nat.le_refl _) (by omega))]
      exact ⟨x, rfl, rfl⟩
    · obtain ⟨x1, e1, e2⟩ := d_part1 h (show i < k by omega) (LX10_digest_51 f) (LX11_digest_59 f) fu 0 x (by omega) (by unfold fu; omega)
      rw [if_neg (nI_ge (show i < k by omega) (by omega)), if_neg (nI_ge (show i < k by omega) (by omega)), show LX10_digest_65 (LX10_digest_51 f) fu c x (nI i) 0 = _ from e1, show LX11_digest_70 (LX11_digest_59 f) fu m x (nI i) 0 = _ from e2]
      exact ih (i + 1) x1 (by omega) (by omega)
theorem SameC.sy {c c' : St} (h : SameC c c') : SameC c' c := ⟨fun k hk => (h.1 k hk).symm, fun k a b => (h.2 k a b).symm⟩
theorem d_goers {ci c0 : St} (hrun : fX9_run (ci.1 4) ci = some c0) : ∀ (f i : Nat) (c m : St) (x : Int64) (g : Nat), Rel c m → c.1 6 = nI g → g ≤ 4 → SameC ci c → (∀ j, j < 4 → c.2.2 11 j = c0.2.2 11 j) → i ≤ g → g < f + i → ∃ x' c1 m1, LX10_mixGoers_31 f c x (nI i) = some (x', c1) ∧ LX11_digest_105 f m x (nI i) = LX11_digest_197 fu m1 x' 0 ∧ Rel c1 m1 := by
  intro f
  induction f with
  | zero => intro i c m x g _ _ _ _ _ h1 h2; omega
  | succ f ih =>
    intro i c m x g hR hg hg4 hS hA h1 h2
    have hgm : m.1 12 = nI g := by
      obtain ⟨g', w, hL⟩ := hR.2.1
      rw [hL.2.2.2.1, ← hL.2.2.1, hg]
    rw [LX10_mixGoers_31, LX11_digest_105]
    unfold BX10_mixGoers_31 BX11_digest_105 fX3_party
    rw [bd_e, hg, hgm]
    by_cases z : i = g
    · subst z
      rw [if_pos (nI_le (Nat.le_refl _) (by omega)), if_pos (nI_le (Nat.le_refl _) (by omega))]
      exact ⟨x, c, m, rfl, rfl, hR⟩
    · obtain ⟨r1, c1, m1, a1, a2, a3, a4, a5, a6⟩ := far_rd (nI i) 0 hR
      obtain ⟨r2, c2, m2, b1, b2, b3, b4, b5, b6⟩ := far_rd (nI i) 1 a3
      have hS2 : SameC ci c2 := (hS.tr a5).tr b5
      have hA2 : c2.2.2 = c.2.2 := b6.trans a6
      have hci : Rel ci m2 := b3.same hS2.sy SameM.rf
      obtain ⟨n, n1, n2, n3⟩ := plans_sp hci
      obtain ⟨cx, m3, d1, d2, d3, -, -, -, d4, -, d5, -⟩ := n3 n (Nat.le_refl _)
      have hm11 : m2.1 11 = nI n := by
        obtain ⟨k, n', F, t, -, hP⟩ := b4
        rw [hP.2.2.1, ← hP.2.1, ← n2]
        exact hS2.1 4 (by decide)
      have hcx : cx = c0 := by
        rw [n2, d1] at hrun
        injection hrun
      subst hcx
      have hR3 : Rel c2 m3 := d3.same (d5.sy.tr hS2) SameM.rf
      have hrem : fX9_remains (nI i) c2 = some (m3.2.2 10 i) := by
        unfold fX9_remains
        rw [if_neg (nI_pos (show i < 2 ^ 31 by omega)), if_neg (show ¬ (4 : Int32) ≤ nI i from nI_ge (show i < 4 by omega) (by decide)), gI_n (show i < 4 by omega) (by decide), cl_n (by omega), hA2, hA i (by omega), d4 i (by omega)]
      have hleft : fX11_leftOf (m2.1 11) (nI i) m2 = some (m3.2.2 10 i, m3) := by
        unfold fX11_leftOf
        rw [hm11, d2, bd_e, gI_n (show i < 4 by omega) (by decide), cl_n (by omega)]
      obtain ⟨r4, c4, m4, g1, g2, g3, g4, g5⟩ := unlit_fr 3 (nI i) 0 hR3
      obtain ⟨r5, c5, m5, j1, j2, j3, j4, j5⟩ := unlit_fr 3 (nI i) 1 g3
      unfold fX10_mix
      rw [if_neg (nI_ge (show i < g by omega) (by omega)), if_neg (nI_ge (show i < g by omega) (by omega)), a1, bd_e, bd_e, b1, bd_e, bd_e, hrem, bd_e, bd_e, g1, bd_e, bd_e, j1, bd_e, bd_e, bI_eq, nI_1, show LX11_digest_116 (LX11_digest_105 f) fu m x (nI i) 0 = BX11_digest_116 (LX11_digest_116 (LX11_digest_105 f) 4999) (LX11_digest_105 f) m x (nI i) 0 from rfl]
      have s5 : SameC ci c5 := (hS2.tr g4).tr j4
      obtain ⟨x', cz, mz, p1, p2, p3⟩ := ih (i + 1) c5 m5 (31 * (31 * (31 * (31 * (31 * x + r1) + r2) + (m3.2.2 10 i).toInt64) + r4.toInt64) + r5.toInt64) g j3 (by rw [s5.1 6 (by decide), ← hS.1 6 (by decide)]; exact hg) hg4 s5 (fun j hj => by rw [j5, g5, hA2]; exact hA j hj) (by omega) (by omega)
      refine ⟨x', cz, mz, p1, ?_, p3⟩
      unfold BX11_digest_116
      rw [if_neg (show ¬ (2 : Int32) ≤ 0 by decide), a2, bd_e, bL_eq, bI_eq, show (0 : Int32) + 1 = 1 from rfl, show LX11_digest_116 (LX11_digest_105 f) 4999 m1 (31 * x + r1) (nI i) 1 = BX11_digest_116 (LX11_digest_116 (LX11_digest_105 f) 4998) (LX11_digest_105 f) m1 (31 * x + r1) (nI i) 1 from rfl]
      unfold BX11_digest_116
      rw [if_neg (show ¬ (2 : Int32) ≤ 1 by decide), b2, bd_e, bL_eq, bI_eq, show (1 : Int32) + 1 = 2 from rfl, show LX11_digest_116 (LX11_digest_105 f) 4998 m2 (31 * (31 * x + r1) + r2) (nI i) 2 = BX11_digest_116 (LX11_digest_116 (LX11_digest_105 f) 4997) (LX11_digest_105 f) m2 (31 * (31 * x + r1) + r2) (nI i) 2 from rfl]
      unfold BX11_digest_116 BX11_digest_142
      rw [if_pos (show (2 : Int32) ≤ 2 by decide), hleft, bd_e, bL_eq, g2, bd_e, bL_eq, j2, bd_e, bL_eq, bI_eq, nI_1]
      exact p2
theorem d_rules {i : Nat} (k5 k197 : St → Int64 → Int32 → Option (Int64 × St)) : ∀ (f j : Nat) (c m : St) (x : Int64), Rel c m → (j = 0 ∨ Rd c m) → j ≤ 3 → 3 < f + j → ∃ x' c1 m1, LX10_mixFailures_36 k5 f c x (nI i) (nI j) = k5 c1 x' (nI (i + 1)) ∧ LX11_digest_234 k197 f m x (nI i) (nI j) = k197 m1 x' (nI (i + 1)) ∧ Rel c1 m1 ∧ Rd c1 m1 := by
  intro f
  induction f with
  | zero => intro j c m x _ _ h1 h2; omega
  | succ f ih =>
    intro j c m x hR hD h1 h2
    rw [LX10_mixFailures_36, LX11_digest_234]
    unfold BX10_mixFailures_36 BX11_digest_234 fX10_mix
    by_cases z : j = 3
    · subst z
      rw [if_pos (show (2 : Int32) < nI 3 by decide), if_pos (show (3 : Int32) ≤ nI 3 by decide), bI_eq, bI_eq, nI_1]
      exact ⟨x, c, m, rfl, rfl, hR, hD.resolve_left (by decide)⟩
    · obtain ⟨r, c1, m1, e1, e2, e3, e4⟩ := rule_rd 3 (nI i) (nI j) hR
      rw [if_neg (show ¬ (2 : Int32) < nI j from nI_nlt (b := j) (a := 2) (by omega) (by decide)), if_neg (show ¬ (3 : Int32) ≤ nI j from nI_ge (show j < 3 by omega) (by decide)), e1, e2, bd_e, bd_e, bd_e, bI_eq, bL_eq, bI_eq, nI_1]
      exact ih (j + 1) c1 m1 _ e3 (Or.inr e4) (by omega) (by omega)
theorem d_fail : ∀ (f i : Nat) (c m : St) (x : Int64), Rel c m → (i = 0 ∨ Rd c m) → i ≤ 4 → 4 < f + i → ∃ x' c1 m1, LX10_mixFailures_5 f c x (nI i) = some (x', c1) ∧ LX11_digest_197 f m x (nI i) = LX11_digest_269 fu m1 x' 0 ∧ Rel c1 m1 ∧ Rd c1 m1 := by
  intro f
  induction f with
  | zero => intro i c m x _ _ h1 h2; omega
  | succ f ih =>
    intro i c m x hR hD h1 h2
    rw [LX10_mixFailures_5, LX11_digest_197]
    unfold BX10_mixFailures_5 BX11_digest_197 fX10_mix
    by_cases z : i = 4
    · subst z
      rw [if_pos (show (3 : Int32) < nI 4 by decide), if_pos (show (4 : Int32) ≤ nI 4 by decide)]
      exact ⟨x, c, m, rfl, rfl, hR, hD.resolve_left (by decide)⟩
    · obtain ⟨r1, c1, m1, a1, a2, a3⟩ := sim_safe (nI i) 0 hR
      obtain ⟨r2, c2, m2, b1, b2, b3⟩ := sim_safe (nI i) 1 a3
      obtain ⟨x3, c3, m3, d1, d2, d3, d4⟩ := d_rules (i := i) (LX10_mixFailures_5 f) (LX11_digest_197 f) fu 0 c2 m2 (31 * (31 * x + r1) + r2) b3 (Or.inl rfl) (by decide) (by unfold fu; omega)
      obtain ⟨x', cz, mz, p1, p2, p3⟩ := ih (i + 1) c3 m3 x3 d3 (Or.inr d4) (by omega) (by omega)
      rw [if_neg (show ¬ (3 : Int32) < nI i from nI_nlt (b := i) (a := 3) (by omega) (by decide)), if_neg (show ¬ (4 : Int32) ≤ nI i from nI_ge (show i < 4 by omega) (by decide)), a1, bd_e, bd_e, b1, bd_e, bd_e, show LX10_mixFailures_36 (LX10_mixFailures_5 f) fu c2 (31 * (31 * x + r1) + r2) (nI i) 0 = _ from d1, show LX11_digest_205 (LX11_digest_197 f) fu m x (nI i) 0 = BX11_digest_205 (LX11_digest_205 (LX11_digest_197 f) 4999) (LX11_digest_197 f) m x (nI i) 0 from rfl]
      refine ⟨x', cz, mz, p1, ?_, p3⟩
      unfold BX11_digest_205
      rw [if_neg (show ¬ (2 : Int32) ≤ 0 by decide), a2, bd_e, bL_eq, bI_eq, show (0 : Int32) + 1 = 1 from rfl, show LX11_digest_205 (LX11_digest_197 f) 4999 m1 (31 * x + r1) (nI i) 1 = BX11_digest_205 (LX11_digest_205 (LX11_digest_197 f) 4998) (LX11_digest_197 f) m1 (31 * x + r1) (nI i) 1 from rfl]
      unfold BX11_digest_205
      rw [if_neg (show ¬ (2 : Int32) ≤ 1 by decide), b2, bd_e, bL_eq, bI_eq, show (1 : Int32) + 1 = 2 from rfl, show LX11_digest_205 (LX11_digest_197 f) 4998 m2 (31 * (31 * x + r1) + r2) (nI i) 2 = BX11_digest_205 (LX11_digest_205 (LX11_digest_197 f) 4997) (LX11_digest_197 f) m2 (31 * (31 * x + r1) + r2) (nI i) 2 from rfl]
      unfold BX11_digest_205
      rw [if_pos (show (2 : Int32) ≤ 2 by decide), show LX11_digest_234 (LX11_digest_197 f) fu m2 (31 * (31 * x + r1) + r2) (nI i) 0 = _ from d2]
      exact p2
theorem point_of {c m : St} (h : Rel c m) (hD : Rd c m) (w : Int32) (hw : w = 0 ∨ w = 1) : ∃ r c1, fX10_point w c = some (r, c1) ∧ fX11_pointOf w m = some r ∧ Rel c1 m ∧ Rd c1 m := by
  obtain ⟨k, n, F, t, e3, e4⟩ := id hD
  have v1 : 0 ≤ w.toInt ∧ w.toInt ≤ 1 := by rcases hw with rfl | rfl <;> decide
  unfold fX10_point fX11_pointOf
  simp only [bd_e, within_sp, ite10, lit_ti]
  have hk := e3.1
  have hs := sm_le e3 (s := 0) (by decide) k (Nat.le_refl _)
  rw [if_pos v1, allIn_sp e3, bd_e, show (1 : Int32) = nI 1 from rfl, reach_sp e3 (by decide) (co1 e3 (by decide)) (by decide) (by omega), bd_e, term_sp, bd_e, inAll_sp e3, bd_e, show LX11_pointOf_10 m fu w (nI (sm F 0 k)) 0 0 = _ from point_loop e3 w fu k 0 (sm F 0 k) 0 (by omega) (by omega) (by omega) rfl (Or.inl rfl) (by unfold fu; omega)]
  exact ⟨_, _, rfl, rfl, h.same (SameC.tst _ _) SameM.rf, hD⟩
theorem judged_rd {c m : St} (h : Rel c m) : ∃ (r : Int32) (c1 : St) (m1 : St), fX10_judged c = some (r, c1) ∧ fX11_judged m = some (r, m1) ∧ Rel c1 m1 ∧ Rd c1 m1 := by
  obtain ⟨c', m', e1, e2, e3, e4, e5, e6, e7, e8, -⟩ := plansAll_sp h
  unfold fX10_judged fX11_judged fX4_size fX9_stuckAt
  rw [bd_e, e1, bd_e, bd_e, e2, bd_e, e6]
  exact ⟨_, _, _, rfl, rfl, e3, e8⟩
theorem state_of {c m : St} (h : Rel c m) (hD : Rd c m) (w : Int32) (hw : w = 0 ∨ w = 1) : ∃ (r : Int32) (c1 : St) (m1 : St), fX10_state (c.1 4) w c = some (r, c1) ∧ fX11_stateOf (m.1 11) w m = some (r, m1) ∧ Rel c1 m1 ∧ Rd c1 m1 := by
  obtain ⟨k, n', F, t, -, hP⟩ := hD
  obtain ⟨n, n1, n2, n3⟩ := plans_sp h
  obtain ⟨c', m', f1, f2, f3, f4, f5, f6, f7, f8, -⟩ := n3 n (Nat.le_refl _)
  have hm : m.1 11 = nI n := by rw [hP.2.2.1, ← hP.2.1, n2]
  have v1 : 0 ≤ w.toInt ∧ w.toInt ≤ 1 := by rcases hw with rfl | rfl <;> decide
  unfold fX10_state fX11_stateOf fX4_size fX9_depth fX9_spent
  simp only [bd_e, within_sp, ite10, lit_ti, n2, hm, i_ti (show n < 2 ^ 31 by omega)]
  rw [if_pos (show (0 : Int) ≤ (n : Int) ∧ (n : Int) ≤ (n : Int) by omega), if_pos v1, f1, f2, bd_e, bd_e, f4, f5]
  by_cases q : w = 0
  · rw [if_pos q, if_pos q]
    exact ⟨_, _, _, rfl, rfl, f3, f8⟩
  · rw [if_neg q, if_neg q]
    exact ⟨_, _, _, rfl, rfl, f3, f8⟩
theorem help_of {c : St} (w : Int32) (hw : w = 0 ∨ w = 1) : ∃ r c1, fX10_help 4 60 w c = some (r, c1) ∧ fX11_help 4 60 w = some r ∧ SameC c c1 := by
  have v1 : 0 ≤ w.toInt ∧ w.toInt ≤ 1 := by rcases hw with rfl | rfl <;> decide
  unfold fX10_help fX11_help
  simp only [bd_e, within_sp, in_sp, isTwo_sp, ite10, i_64, lit_ti, lit_tl]
  rw [if_pos (by decide), if_pos (by decide), if_pos v1, if_pos (by decide), if_pos (by decide), if_pos v1, show fX10_helped 4 60 c = _ from helped_sp (n := 4) (cc := 60) (by decide) (by decide) (by decide) c, bd_e, term_sp, bd_e, show ((60 : Int32).toInt64 * (4 : Int32).toInt64) = lN 240 from rfl, show ((4 : Int32) + 1).toInt64 = lN 5 from rfl, part_sp (by decide) (by decide) (by decide), bd_e]
  exact ⟨_, _, rfl, rfl, SameC.tst _ _⟩
theorem least_of {c : St} : ∃ r c1, fX10_least 50 60 c = some (r, c1) ∧ fX11_leastOf 50 60 = some r ∧ SameC c c1 := by
  obtain ⟨r, c1, e1, e2, e3⟩ := least_loop (need := 50) (cc := 60) (by decide) (by decide) (c := c) fu 1 c SameC.rf (by decide) (by decide) (by unfold fu; omega)
  unfold fX10_least fX11_leastOf
  simp only [bd_e, within_sp, ite10, lit_ti]
  rw [if_pos (by decide), if_pos (by decide)]
  exact ⟨r, c1, e1, e2, e3⟩
theorem first_of {c m : St} (h : Rel c m) (x : Nat) (hx : x ≤ 1) : ∃ r m1, fX10_first (nI x) c = some r ∧ fX11_firstOf (nI x) m = some (r, m1) ∧ Rel c m1 ∧ m1.1 = m.1 ∧ ∀ k, k ≠ 14 → m1.2.2 k = m.2.2 k := by
  obtain ⟨n, ch, mi, od, hS⟩ := h.2.2.1
  obtain ⟨s1, s2, s3, s4, s5, s6, s7⟩ := id hS
  obtain ⟨m', e1, e2, e3, e4⟩ := order_sp hS
  unfold fX10_first fX11_firstOf fX6_tried
  simp only [bd_e, within_sp, ite10, show (5 : Int32).toInt = 5 by decide, lit_ti]
  rw [i_ti (by omega), if_pos (show (0 : Int) ≤ (x : Int) ∧ (x : Int) ≤ 5 by omega), e1, bd_e, if_neg (nI_pos (show x < 2 ^ 31 by omega)), s2, e2, s3]
  have hR := h.same SameC.rf (sameM_14 e2 e3)
  by_cases z : n ≤ x
  · rw [if_pos (nI_le z (by omega)), if_pos (nI_le z (by omega))]
    exact ⟨_, _, rfl, rfl, hR, e2, e3⟩
  · rw [if_neg (nI_ge (show x < n by omega) (by omega)), if_neg (nI_ge (show x < n by omega) (by omega)), gI_n (show x < 6 by omega) (by decide), gI_n (show x < 6 by omega) (by decide), cl_n (by omega), e4 x (by omega), (s6 x (by omega)).2]
    exact ⟨_, _, rfl, rfl, hR, e2, e3⟩
theorem mean_of {c m : St} (h : Rel c m) (w : Int32) (hw : w = 0 ∨ w = 1) : ∃ r c1 m1, fX10_mean w c = some (r, c1) ∧ fX11_meanOf w m = some (r, m1) ∧ Rel c1 m1 ∧ SameC c c1 ∧ m1.1 = m.1 ∧ ∀ k, k ≠ 14 → m1.2.2 k = m.2.2 k := by
  obtain ⟨n, ch, mi, od, hS⟩ := h.2.2.1
  obtain ⟨m', e1, e2, e3, e4⟩ := order_sp hS
  have v1 : 0 ≤ w.toInt ∧ w.toInt ≤ 1 := by rcases hw with rfl | rfl <;> decide
  unfold fX10_mean fX11_meanOf
  simp only [bd_e, within_sp, ite10, lit_ti]
  have hR := h.same SameC.rf (sameM_14 e2 e3)
  have hS2 : RS n ch mi od c m' := hS.fr rfl rfl rfl rfl (by rw [e2]) (e3 13 (by decide))
  obtain ⟨M, m1, f1, f2⟩ := mean_loop hS2 e4 w fu 0 0 0 (by omega) (by have := hS.1; unfold fu; omega) (by omega) (by omega)
  rw [if_pos v1, e1, bd_e, show LX11_meanOf_12 fu m' w 0 0 0 = _ from f2]
  unfold fX6_meanSixteenths
  rw [show LX6_meanSixteenths_6 c fu 0 0 0 = _ from f1, bd_e, nI_l (by omega), show (16 : Int64) = lN 16 from rfl, set_sp (by omega) (by decide) (by decide), bd_e, term_sp, bd_e]
  exact ⟨_, _, _, rfl, rfl, hR.same (SameC.tst _ _) SameM.rf, SameC.tst _ _, e2, e3⟩
theorem d_96 {c m : St} (h : Rel c m) (x : Int64) : ∃ r c1 m1, BX10_digest_96 c x = some (r, c1) ∧ LX11_digest_105 fu m x 0 = some (r, m1) ∧ Rel c1 m1 := by
  obtain ⟨c0, m0, z1, z2, z3, -, -, -, -, -, z4, -⟩ := plansAll_sp h
  obtain ⟨g, w, hL⟩ := h.2.1
  have hR0 : Rel c0 m := h.same z4 SameM.rf
  obtain ⟨x1, c1, m1, a1, a2, a3⟩ := d_goers z1 fu 0 c0 m x g hR0 (by rw [z4.1 6 (by decide)]; exact hL.2.2.1) hL.2.1 z4 (fun j _ => rfl) (by omega) (by have := hL.2.1; unfold fu; omega)
  obtain ⟨x2, c2, m2, b1, b2, b3, b4⟩ := d_fail fu 0 c1 m1 x1 a3 (Or.inl rfl) (by omega) (by unfold fu; omega)
  obtain ⟨p0, c3, d1, d2, d3, d4⟩ := point_of b3 b4 0 (Or.inl rfl)
  obtain ⟨p1, c4, e1, e2, e3, e4⟩ := point_of d3 d4 1 (Or.inr rfl)
  obtain ⟨jd, c5, m5, f1, f2, f3, f4⟩ := judged_rd e3
  obtain ⟨s0, c6, m6, g1, g2, g3, g4⟩ := state_of f3 f4 0 (Or.inl rfl)
  obtain ⟨s1, c7, m7, i1, i2, i3, i4⟩ := state_of g3 g4 1 (Or.inr rfl)
  obtain ⟨hm, c8, m8, j1, j2, j3, j4⟩ := home_rd i3
  obtain ⟨h0, c9, k1, k2, k3⟩ := help_of (c := c8) 0 (Or.inl rfl)
  obtain ⟨h1, ca, l1, l2, l3⟩ := help_of (c := c9) 1 (Or.inr rfl)
  obtain ⟨ls, cb, n1, n2, n3⟩ := least_of (c := ca)
  have hRb : Rel cb m8 := j3.same ((k3.tr l3).tr n3) SameM.rf
  obtain ⟨t0, ma, o1, o2, o3, o4, o5⟩ := first_of hRb 0 (by decide)
  obtain ⟨t1, mb, q1, q2, q3, q4, q5⟩ := first_of o3 1 (by decide)
  obtain ⟨u0, cc, mc, r1, r2, r3, r4, r5, r6⟩ := mean_of q3 0 (Or.inl rfl)
  obtain ⟨u1, cd, md, v1, v2, v3, v4, v5, v6⟩ := mean_of r3 1 (Or.inr rfl)
  obtain ⟨k, n, F, t, hC, hP⟩ := j4
  have hC2 : Cv k F cd md := (((hC.so ((k3.tr l3).tr n3) rfl (fun _ _ => rfl)).so SameC.rf o4 o5).so SameC.rf q4 q5 |>.so r4 r5 r6).so v4 v5 v6
  obtain ⟨g', w', hL'⟩ := v3.2.1
  obtain ⟨nc, pl, ow, re, wy, hK⟩ := v3.2.2.2.1
  obtain ⟨tn, w1, w2⟩ := turned_loop hC2 hK hL' fu 0 0 (by omega) (by have := hC2.1; unfold fu; omega)
  unfold BX10_digest_96 fX10_mixGoers fX10_mixFailures fX10_mix fX4_size
  rw [bd_e, z1, bd_e, show LX10_mixGoers_31 fu c0 x 0 = _ from a1, bd_e, bL_eq, show LX10_mixFailures_5 fu c1 x1 0 = _ from b1, bd_e, bL_eq, d1, bd_e, bd_e, e1, bd_e, bd_e, f1, bd_e, bd_e, bd_e, g1, bd_e, bd_e, bd_e, i1, bd_e, bd_e, j1, bd_e, bd_e, k1, bd_e, bd_e, l1, bd_e, bd_e, n1, bd_e, bd_e, show fX10_first 0 cb = _ from o1, bd_e, bd_e, show fX10_first 1 cb = _ from q1, bd_e, bd_e, r1, bd_e, bd_e, v1, bd_e, bd_e, show fX10_turned cd = some tn from w1, bd_e, bd_e]
  refine ⟨_, _, md, rfl, ?_, v3⟩
  rw [show LX11_digest_105 fu m x 0 = _ from a2, show LX11_digest_197 fu m1 x1 0 = _ from b2]
  rw [show LX11_digest_269 fu m2 x2 0 = BX11_digest_269 (LX11_digest_269 4999) m2 x2 0 from rfl]
  unfold BX11_digest_269
  rw [if_neg (show ¬ (2 : Int32) ≤ 0 by decide), d2, bd_e, bL_eq, bI_eq, show (0 : Int32) + 1 = 1 from rfl, show LX11_digest_269 4999 m2 (31 * x2 + p0) 1 = BX11_digest_269 (LX11_digest_269 4998) m2 (31 * x2 + p0) 1 from rfl]
  unfold BX11_digest_269
  rw [if_neg (show ¬ (2 : Int32) ≤ 1 by decide), e2, bd_e, bL_eq, bI_eq, show (1 : Int32) + 1 = 2 from rfl, show LX11_digest_269 4998 m2 (31 * (31 * x2 + p0) + p1) 2 = BX11_digest_292 m2 (31 * (31 * x2 + p0) + p1) from rfl]
  unfold BX11_digest_292
  rw [f2, bd_e, bL_eq, g2, bd_e, bL_eq, i2, bd_e, bL_eq, j2, bd_e, bL_eq]
  generalize 31 * (31 * (31 * (31 * (31 * (31 * x2 + p0) + p1) + jd.toInt64) + s0.toInt64) + s1.toInt64) + hm.toInt64 = y
  rw [show LX11_digest_352 fu m8 y 0 = BX11_digest_352 (LX11_digest_352 4999) m8 y 0 from rfl]
  unfold BX11_digest_352
  rw [if_neg (show ¬ (2 : Int32) ≤ 0 by decide), k2, bd_e, bL_eq, bI_eq, show (0 : Int32) + 1 = 1 from rfl, show LX11_digest_352 4999 m8 (31 * y + h0) 1 = BX11_digest_352 (LX11_digest_352 4998) m8 (31 * y + h0) 1 from rfl]
  unfold BX11_digest_352
  rw [if_neg (show ¬ (2 : Int32) ≤ 1 by decide), l2, bd_e, bL_eq, bI_eq, show (1 : Int32) + 1 = 2 from rfl, show LX11_digest_352 4998 m8 (31 * (31 * y + h0) + h1) 2 = BX11_digest_378 m8 (31 * (31 * y + h0) + h1) from rfl]
  unfold BX11_digest_378
  rw [n2, bd_e, bL_eq, show fX11_firstOf 0 m8 = _ from o2, bd_e, bL_eq, show fX11_firstOf 1 ma = _ from q2, bd_e, bL_eq]
  generalize 31 * (31 * (31 * (31 * (31 * y + h0) + h1) + ls.toInt64) + t0.toInt64) + t1.toInt64 = y2
  rw [show LX11_digest_421 fu mb y2 0 = BX11_digest_421 (LX11_digest_421 4999) mb y2 0 from rfl]
  unfold BX11_digest_421
  rw [if_neg (show ¬ (2 : Int32) ≤ 0 by decide), r2, bd_e, bL_eq, bI_eq, show (0 : Int32) + 1 = 1 from rfl, show LX11_digest_421 4999 mc (31 * y2 + u0) 1 = BX11_digest_421 (LX11_digest_421 4998) mc (31 * y2 + u0) 1 from rfl]
  unfold BX11_digest_421
  rw [if_neg (show ¬ (2 : Int32) ≤ 1 by decide), v2, bd_e, bL_eq, bI_eq, show (1 : Int32) + 1 = 2 from rfl, show LX11_digest_421 4998 md (31 * (31 * y2 + u0) + u1) 2 = BX11_digest_444 md (31 * (31 * y2 + u0) + u1) from rfl]
  unfold BX11_digest_444
  rw [show fX11_turnedNow md = some tn from w2, bd_e]
theorem sim_digest {c m : St} (h : Rel c m) : ∃ (r : Int64) (c1 : St) (m1 : St), fX10_digest c = some (r, c1) ∧ fX11_digest m = some (r, m1) ∧ Rel c1 m1 := by
  obtain ⟨x1, m1, a1, a2, a3⟩ := d_count fu 0 m 17 h (by omega) (by unfold fu; omega)
  obtain ⟨r0, r1, m2, m3, b1, b2, b3, b4, b5, k, F, hC⟩ := d_fault a3
  obtain ⟨x2, d1, d2⟩ := d_part hC fu 0 (31 * (31 * x1 + r0.toInt64) + r1.toInt64) (by omega) (by have := hC.1; unfold fu; omega)
  obtain ⟨r, c1, m4, e1, e2, e3⟩ := d_96 b5 x2
  refine ⟨r, c1, m4, ?_, ?_, e3⟩
  · unfold fX10_digest
    rw [show LX10_digest_6 fu c 17 0 = _ from a1]
    unfold BX10_digest_29 fX10_mix
    rw [b1, bd_e, bd_e, b3, bd_e, bd_e, show LX10_digest_51 fu c _ 0 = _ from d1, e1]
  · unfold fX11_digest
    rw [show LX11_digest_6 fu m 17 0 = _ from a2, show LX11_digest_33 fu m1 x1 0 = BX11_digest_33 (LX11_digest_33 4999) m1 x1 0 from rfl]
    unfold BX11_digest_33
    rw [if_neg (show ¬ (2 : Int32) ≤ 0 by decide), b2, bd_e, bL_eq, bI_eq, show (0 : Int32) + 1 = 1 from rfl, show LX11_digest_33 4999 m2 (31 * x1 + r0.toInt64) 1 = BX11_digest_33 (LX11_digest_33 4998) m2 (31 * x1 + r0.toInt64) 1 from rfl]
    unfold BX11_digest_33
    rw [if_neg (show ¬ (2 : Int32) ≤ 1 by decide), b4, bd_e, bL_eq, bI_eq, show (1 : Int32) + 1 = 2 from rfl, show LX11_digest_33 4998 m3 (31 * (31 * x1 + r0.toInt64) + r1.toInt64) 2 = LX11_digest_59 fu m3 (31 * (31 * x1 + r0.toInt64) + r1.toInt64) 0 from rfl, show LX11_digest_59 fu m3 _ 0 = _ from d2, e2]
