/-! judged, state, left, home -/
def gof (g j : Nat) : Nat := if g ≤ j then 0 else 1
theorem begC_loop {g : Nat} {w : Nat → Nat} {c m : St} (hL : RLm g w c m) : ∀ (f i : Nat) (c' : St), i ≤ 4 → 4 < f + i → fA c c' → (∀ j, j < i → c'.2.2 11 j = nI (w j) ∧ c'.2.2 12 j = nI (gof g j)) → ∃ c2, LX9_begin_2 f c' (nI i) = some c2 ∧ FC c c2 ∧ c2.1 7 = 0 ∧ c2.1 8 = 0 ∧ c2.1 9 = -1 ∧ c2.1 10 = 0 ∧ c2.1 11 = 0 ∧ ∀ j, j < 4 → c2.2.2 11 j = nI (w j) ∧ c2.2.2 12 j = nI (gof g j) := by
  intro f
  induction f with
  | zero => intro i c' a1 a2; omega
  | succ f ih =>
    intro i c' a1 a2 a3 a4
    have g2 := hL.2.1
    rw [LX9_begin_2]
    unfold BX9_begin_2
    by_cases z : i = 4
    · subst z
      rw [if_pos (show (4 : Int32) ≤ nI 4 by decide)]
      unfold BX9_begin_43
      simp only [bS_eq]
      refine ⟨_, rfl, ⟨fun j hj => ?_, fun k x y => a3.2 k x y⟩, rfl, rfl, rfl, rfl, rfl, a4⟩
      rw [sI_1, if_neg (by omega), sI_1, if_neg (by omega), sI_1, if_neg (by omega), sI_1, if_neg (by omega), sI_1, if_neg (by omega), a3.1]
    · have g5 := hL.2.2.2.2 i (by omega)
      unfold fX3_party
      rw [if_neg (show ¬ (4 : Int32) ≤ nI i from nI_ge (show i < 4 by omega) (by decide)), burns_n (by omega), bd_e, a3.2 9 (by decide) (by decide), g5.2.1]
      simp only [gI_n (show i < 4 by omega) (show 4 < 2 ^ 31 by decide), cl_n (show i < 2 ^ 31 by omega), bS_eq, bI_eq, bd_e, nI_1, sA_1, a3.1, hL.2.2.1]
      have fin : ∀ v : Int32, v = nI (gof g i) → ∃ c2, LX9_begin_2 f (sA (sA c' 11 i (nI (w i))) 12 i v) (nI (i + 1)) = some c2 ∧ FC c c2 ∧ c2.1 7 = 0 ∧ c2.1 8 = 0 ∧ c2.1 9 = -1 ∧ c2.1 10 = 0 ∧ c2.1 11 = 0 ∧ ∀ j, j < 4 → c2.2.2 11 j = nI (w j) ∧ c2.2.2 12 j = nI (gof g j) := by
        intro v hv
        refine ih (i + 1) _ (by omega) (by omega) ⟨a3.1, fun k x y => by rw [sA_22, if_neg y, sA_22, if_neg x]; exact a3.2 k x y⟩ (fun j hj => ?_)
        simp only [sA_3]
        by_cases q : j = i
        · subst q
          simp [hv]
        · simp [q, a4 j (by omega)]
      by_cases y : g ≤ i
      · rw [if_pos (nI_le y (by omega))]
        exact fin 0 (by unfold gof; rw [if_pos y]; rfl)
      · rw [if_neg (nI_ge (show i < g by omega) (by omega))]
        exact fin 1 (by unfold gof; rw [if_neg y]; rfl)
theorem begM_loop {g : Nat} {w : Nat → Nat} {c m : St} (hL : RLm g w c m) (N : Int32) : ∀ (f i : Nat) (m' : St), i ≤ 4 → 4 < f + i → fB m m' → (∀ j, j < i → m'.2.2 10 j = nI (w j) ∧ m'.2.2 11 j = nI (gof g j)) → ∃ m2, LX11_plans_21 f m' N (nI i) = LX11_plans_67 fu m2 N 0 0 ∧ fB m m2 ∧ ∀ j, j < 4 → m2.2.2 10 j = nI (w j) ∧ m2.2.2 11 j = nI (gof g j) := by
  intro f
  induction f with
  | zero => intro i m' a1 a2; omega
  | succ f ih =>
    intro i m' a1 a2 a3 a4
    have g2 := hL.2.1
    rw [LX11_plans_21]
    unfold BX11_plans_21
    by_cases z : i = 4
    · subst z
      rw [if_pos (show (4 : Int32) ≤ nI 4 by decide)]
      exact ⟨m', rfl, a3, a4⟩
    · have g5 := hL.2.2.2.2 i (by omega)
      rw [if_neg (show ¬ (4 : Int32) ≤ nI i from nI_ge (show i < 4 by omega) (by decide))]
      simp only [gI_n (show i < 4 by omega) (show 4 < 2 ^ 31 by decide), cl_n (show i < 2 ^ 31 by omega), bS_eq, bI_eq, nI_1, sA_1, a3.1, hL.2.2.2.1, a3.2 9 (by decide) (by decide), g5.2.2]
      have fin : ∀ v : Int32, v = nI (gof g i) → ∃ m2, LX11_plans_21 f (sA (sA m' 10 i (nI (w i))) 11 i v) N (nI (i + 1)) = LX11_plans_67 fu m2 N 0 0 ∧ fB m m2 ∧ ∀ j, j < 4 → m2.2.2 10 j = nI (w j) ∧ m2.2.2 11 j = nI (gof g j) := by
        intro v hv
        refine ih (i + 1) _ (by omega) (by omega) ⟨a3.1, fun k x y => by rw [sA_22, if_neg y, sA_22, if_neg x]; exact a3.2 k x y⟩ (fun j hj => ?_)
        simp only [sA_3]
        by_cases q : j = i
        · subst q
          simp [hv]
        · simp [q, a4 j (by omega)]
      by_cases y : g ≤ i
      · rw [if_pos (nI_le y (by omega))]
        exact fin 0 (by unfold gof; rw [if_pos y]; rfl)
      · rw [if_neg (nI_ge (show i < g by omega) (by omega))]
        exact fin 1 (by unfold gof; rw [if_neg y]; rfl)
theorem at3_fr {c c' : St} (e1 : c'.1 1 = c.1 1) (e2 : c'.2.2 4 = c.2.2 4) (a : Int32) : fX7_at_3 a c' = fX7_at_3 a c := by
  unfold fX7_at_3
  rw [e1, e2]
theorem run_loop {g k n N : Nat} {w t : Nat → Nat} {F : Nat → Nat → Nat} (hN : N ≤ n) (hn : n ≤ 40) (hk : ∀ i, i < n → okp t i) (ht : ∀ i, t i < 256) : ∀ (f i d : Nat) (go : Nat → Nat) (c m : St) (x2 : Int32), i ≤ N → N < f + i → Wk g d go c m → RLm g w c m → Cv k F c m → d ≤ k → c.1 9 = m.1 16 → c.1 10 = x2 → c.1 11 = b01 (duep t i) → (∀ i, i < n → fX7_at_3 (nI i) c = some (nI (t i)) ∧ m.2.2 5 (80 + i) = nI (t i)) → ∃ (c' m' : St), LX9_run_9 f c (nI N) (nI i) = some c' ∧ LX11_plans_67 f m (nI N) x2 (nI i) = some m' ∧ FC c c' ∧ FN m m' ∧ c'.1 7 = m'.1 14 ∧ c'.1 8 = m'.1 15 ∧ c'.1 9 = m'.1 16 ∧ ∀ j, j < 4 → c'.2.2 11 j = m'.2.2 10 j := by
  intro f
  induction f with
  | zero => intro i d go c m x2 a1 a2; omega
  | succ f ih =>
    intro i d go c m x2 a1 a2 a3 a4 a5 a6 a7 a8 a9 a10
    have done : ∃ (c' m' : St), some c = some c' ∧ some m = some m' ∧ FC c c' ∧ FN m m' ∧ c'.1 7 = m'.1 14 ∧ c'.1 8 = m'.1 15 ∧ c'.1 9 = m'.1 16 ∧ ∀ j, j < 4 → c'.2.2 11 j = m'.2.2 10 j := ⟨c, m, rfl, rfl, FC.rf, FN.rf, by rw [a3.2.1, a3.2.2.1], a3.2.2.2, a7, fun j hj => (a3.1.1 j hj).1⟩
    rw [LX9_run_9, LX11_plans_67]
    unfold BX9_run_9 BX11_plans_67
    by_cases z : i = N
    · subst z
      rw [if_pos (nI_le (Nat.le_refl _) (by omega)), if_pos (nI_le (Nat.le_refl _) (by omega))]
      exact done
    rw [if_neg (nI_ge (show i < N by omega) (by omega)), if_neg (nI_ge (show i < N by omega) (by omega)), a7]
    by_cases z2 : m.1 16 = -1
    case neg =>
      rw [if_neg z2, if_neg z2]
      exact done
    obtain ⟨t1, t2⟩ := a10 i (by omega)
    have hb := ht i
    have ho := hk i (by omega)
    unfold okp at ho
    have hlen : ∀ {c' m' : St}, FC c c' → FN m m' → ∀ i, i < n → fX7_at_3 (nI i) c' = some (nI (t i)) ∧ m'.2.2 5 (80 + i) = nI (t i) := fun hc hm i hi => ⟨by rw [at3_fr (hc.1 1 (by decide)) (hc.2 4 (by decide) (by decide))]; exact (a10 i hi).1, by rw [hm.2 5 (by decide) (by decide)]; exact (a10 i hi).2⟩
    have hdue : duep t (i + 1) = (!(duep t i) && (t i == 120)) := rfl
    rw [if_pos z2, if_pos z2, t1, bd_e, show (80 : Int32) + nI i = nI (80 + i) from nI_add 80 i, gI_n (show 80 + i < 120 by omega) (by decide), bI_eq, cl_n (by omega), t2, a9]
    have go2 : ∀ {c' m' : St} {d' : Nat} {go' : Nat → Nat} {x' : Int32}, FC c c' → FN m m' → Wk g d' go' c' m' → d' ≤ k → c'.1 9 = m'.1 16 → c'.1 10 = x' → c'.1 11 = b01 (duep t (i + 1)) → ∃ (c2 m2 : St), LX9_run_9 f c' (nI N) (nI (i + 1)) = some c2 ∧ LX11_plans_67 f m' (nI N) x' (nI (i + 1)) = some m2 ∧ FC c c2 ∧ FN m m2 ∧ c2.1 7 = m2.1 14 ∧ c2.1 8 = m2.1 15 ∧ c2.1 9 = m2.1 16 ∧ ∀ j, j < 4 → c2.2.2 11 j = m2.2.2 10 j := by
      intro c' m' d' go' x' h1 h2 h3 h4 h5 h6 h7
      obtain ⟨c2, m2, e1, e2, e3, e4, e5⟩ := ih (i + 1) d' go' c' m' x' (by omega) (by omega) h3 (a4.cn h1 h2) (a5.cn h1 h2) h4 h5 h6 h7 (hlen h1 h2)
      exact ⟨c2, m2, e1, e2, h1.tr e3, h2.tr e4, e5⟩
    cases hd : duep t i with
    | true =>
      rw [hd, if_pos rfl] at ho
      rw [if_neg (show ¬ b01 true = 0 by decide), if_neg (show ¬ nI (t i) = (117 : Int32) from ne_n (b := 117) (by omega) (by omega) (by decide)), if_neg (show ¬ nI (t i) = (43 : Int32) from ne_n (b := 43) (by omega) (by omega) (by decide)), if_neg (show ¬ nI (t i) = (45 : Int32) from ne_n (b := 45) (by omega) (by omega) (by decide)), if_neg (show ¬ nI (t i) = (120 : Int32) from ne_n (b := 120) (by omega) (by omega) (by decide)), bS_eq, sub48 ho.1, putOut_n (by omega), fails_n (by omega), bd_e, bd_e, bI_eq, bI_eq, nI_1]
      refine go2 (go' := off go (t i - 48)) (d' := d) ⟨fun j hj => ?_, fun j x y => ?_⟩ ⟨fun j _ _ _ => rfl, fun j x y => ?_⟩ ⟨?_, a3.2.1, a3.2.2.1, a3.2.2.2⟩ a6 a7 a8 ?_
      · show (if j = 11 then (0 : Int32) else c.1 j) = c.1 j
        rw [if_neg (by omega)]
      · rw [sA_22, if_neg x, sA_22, if_neg y]; rfl
      · rw [sA_22, if_neg x, sA_22, if_neg y]
      · have w1 : Wg g go (sI c 11 0) m := a3.1
        exact w1.out (t i - 48)
      · rw [hdue, hd]; rfl
    | false =>
      rw [hd, if_neg (by decide)] at ho
      rw [if_pos (show b01 false = 0 from rfl)]
      have stp : ∀ a : Int32, (a = 0 ∨ a = 1) → ¬ t i = 120 → ∃ (c2 m2 : St), BX9_run_98 (LX9_run_9 f) c (nI N) (nI i) a = some c2 ∧ BX11_plans_131 (LX11_plans_67 f) m (nI N) x2 (nI i) a = some m2 ∧ FC c c2 ∧ FN m m2 ∧ c2.1 7 = m2.1 14 ∧ c2.1 8 = m2.1 15 ∧ c2.1 9 = m2.1 16 ∧ ∀ j, j < 4 → c2.2.2 11 j = m2.2.2 10 j := by
        intro a ha h120
        have hd2 : duep t (i + 1) = false := by rw [hdue, hd, beq_false_of_ne h120]; rfl
        unfold BX9_run_98 BX11_plans_131
        obtain ⟨b, d', go', c', m', e1, e2, e3, e4, e5, e6, e7, e8⟩ := step9_sp a3 a4 a5 a6 a x2 ha a8
        rw [e1, e2, bd_e, bd_e]
        have n11 : c'.1 11 = b01 (duep t (i + 1)) := by rw [e6.1 11 (by decide) (by decide) (by decide), a9, hd, hd2]
        rcases e3 with rfl | rfl
        · rw [if_pos rfl, if_pos rfl, bS_eq, bS_eq, bI_eq, bI_eq, nI_1]
          refine go2 (d' := d') (go' := go') (e6.fc.tr ⟨fun j hj => ?_, fun _ _ _ => rfl⟩) (e7.fn.tr ⟨fun j _ _ x => if_neg x, fun _ _ _ => rfl⟩) ⟨e4.1, e4.2.1, e4.2.2.1, e4.2.2.2⟩ e5 rfl e8 n11
          show (if j = 9 then _ else c'.1 j) = c'.1 j
          rw [if_neg (by omega)]
        · rw [if_neg ne10, if_neg ne10, bI_eq, bS_eq, bI_eq, nI_1]
          refine go2 (d' := d') (go' := go') e6.fc (e7.fn.tr ⟨fun j _ _ x => if_neg x, fun _ _ _ => rfl⟩) ⟨e4.1, e4.2.1, e4.2.2.1, e4.2.2.2⟩ e5 ?_ e8 n11
          rw [e6.1 9 (by decide) (by decide) (by decide), a7, z2]
          rfl
      rcases ho with h | h | h | h
      · rw [h, if_neg (show ¬ nI 43 = (120 : Int32) by decide), if_neg (show ¬ nI 43 = (117 : Int32) by decide), if_pos (show nI 43 = (43 : Int32) from rfl), if_neg (show ¬ nI 43 = (117 : Int32) by decide), if_pos (show nI 43 = (43 : Int32) from rfl)]
        unfold BX11_plans_117
        rw [if_pos (show nI 43 = (43 : Int32) from rfl)]
        exact stp 1 (Or.inr rfl) (by omega)
      · rw [h, if_neg (show ¬ nI 45 = (120 : Int32) by decide), if_neg (show ¬ nI 45 = (117 : Int32) by decide), if_neg (show ¬ nI 45 = (43 : Int32) by decide), if_neg (show ¬ nI 45 = (117 : Int32) by decide), if_neg (show ¬ nI 45 = (43 : Int32) by decide), if_pos (show nI 45 = (45 : Int32) from rfl)]
        unfold BX11_plans_117
        rw [if_neg (show ¬ nI 45 = (43 : Int32) by decide)]
        exact stp 0 (Or.inl rfl) (by omega)
      · rw [h, if_neg (show ¬ nI 117 = (120 : Int32) by decide), if_pos (show nI 117 = (117 : Int32) from rfl), if_pos (show nI 117 = (117 : Int32) from rfl), bS_eq, bI_eq, bI_eq, nI_1]
        refine go2 (d' := d) (go' := go) ⟨fun j hj => ?_, fun _ _ _ => rfl⟩ FN.rf ⟨a3.1, a3.2.1, a3.2.2.1, a3.2.2.2⟩ a6 a7 rfl ?_
        · show (if j = 10 then _ else c.1 j) = c.1 j
          rw [if_neg (by omega)]
        · rw [hdue, hd, h]
          show c.1 11 = _
          rw [a9, hd]; rfl
      · rw [h, if_pos (show nI 120 = (120 : Int32) from rfl), if_neg (show ¬ nI 120 = (117 : Int32) by decide), if_neg (show ¬ nI 120 = (43 : Int32) by decide), if_neg (show ¬ nI 120 = (45 : Int32) by decide), if_pos (show nI 120 = (120 : Int32) from rfl), bS_eq, bI_eq, bI_eq, nI_1]
        refine go2 (d' := d) (go' := go) ⟨fun j hj => ?_, fun _ _ _ => rfl⟩ FN.rf ⟨a3.1, a3.2.1, a3.2.2.1, a3.2.2.2⟩ a6 a7 a8 ?_
        · show (if j = 11 then _ else c.1 j) = c.1 j
          rw [if_neg (by omega)]
        · rw [hdue, hd, h]; rfl
theorem at3_rel {c m m1 : St} (h : Rel c m) {n : Nat} {t : Nat → Nat} (hP : Pv n t c m1) : ∀ i, i < n → fX7_at_3 (nI i) c = some (nI (t i)) := by
  intro i hi
  obtain ⟨⟨n0, n1, t0, t1, ⟨h1, h2, h3, h4, h5, h6, h7, h8, h9, h10, h11, h12⟩, -, ⟨j, l1, l2, l3⟩⟩, -⟩ := id h
  have hz : szp t1 n1 j ≤ n1 := by unfold szp; split <;> omega
  have e : n = szp t1 n1 j := (nI_eq (by have := hP.1; omega) (by omega)).mp (hP.2.1.symm.trans l2)
  rw [at3_sp h2 h6 h10 (show i < n1 by omega), ← h10 i (by omega), (hP.2.2.2.2.2 i hi).2.1]
theorem Pv.cn {n : Nat} {t : Nat → Nat} {c m c' m' : St} (h : Pv n t c m) (a : FC c c') (b : FN m m') : Pv n t c' m' := by
  obtain ⟨h1, h2, h3, h4, h5, h6⟩ := h
  refine ⟨h1, (a.1 _ (by decide)).trans h2, (b.1 _ (by decide) (by decide) (by decide)).trans h3, h4, h5, fun i hi => ?_⟩
  rw [a.2 4 (by decide) (by decide), b.2 5 (by decide) (by decide)]
  exact h6 i hi
theorem plans_sp {c m : St} (h : Rel c m) : ∃ n, n ≤ 40 ∧ c.1 4 = nI n ∧ ∀ N, N ≤ n → ∃ (c' m' : St), fX9_run (nI N) c = some c' ∧ fX11_plans (nI N) m = some m' ∧ Rel c' m' ∧ c'.1 7 = m'.1 14 ∧ c'.1 8 = m'.1 15 ∧ c'.1 9 = m'.1 16 ∧ (∀ j, j < 4 → c'.2.2 11 j = m'.2.2 10 j) ∧ Rd c' m' ∧ SameC c c' ∧ SameM m m' := by
  obtain ⟨m1, k, n, F, t, e1, e2, e3, e4⟩ := reads_sp h
  have hR := h.same SameC.rf e2.same
  obtain ⟨g, w, hL⟩ := hR.2.1
  refine ⟨n, e4.1, e4.2.1, fun N hN => ?_⟩
  obtain ⟨c2, b1, b2, b3, b4, b5, b6, b7, b8⟩ := begC_loop hL fu 0 c (by omega) (by unfold fu; omega) fA.rf (fun j hj => by omega)
  have hn0 : FN m1 (sI (sI (sI m1 14 0) 15 0) 16 (-1)) := ⟨fun j x y z => by rw [sI_1, if_neg z, sI_1, if_neg y, sI_1, if_neg x], fun _ _ _ => rfl⟩
  have hL3 := hL.cn FC.rf hn0
  obtain ⟨m2, d1, d2, d3⟩ := begM_loop hL3 (nI N) fu 0 _ (by omega) (by unfold fu; omega) fB.rf (fun j hj => by omega)
  have hn2 : FN m1 m2 := hn0.tr ⟨fun j x y z => by rw [d2.1], d2.2⟩
  have hW : Wk g 0 (gof g) c2 m2 := ⟨⟨fun i hi => ⟨by rw [(b8 i hi).1, (d3 i hi).1], by unfold gof; split <;> omega, (b8 i hi).2, (d3 i hi).2⟩, fun i x y => by unfold gof; rw [if_pos x]⟩, b3, by rw [d2.1]; rfl, by rw [b4, d2.1]; rfl⟩
  obtain ⟨c3, m3, f1, f2, f3, f4, f5⟩ := run_loop (g := g) (k := k) (n := n) (N := N) (w := w) (t := t) (F := F) hN e4.1 (fun i hi => (e4.2.2.2.2.2 i hi).1) e4.2.2.2.2.1 fu 0 0 (gof g) c2 m2 0 (by omega) (by have := e4.1; unfold fu; omega) hW (hL.cn b2 hn2) (e3.cn b2 hn2) (by omega) (by rw [b5, d2.1]; rfl) b6 b7 (fun i hi => ⟨by rw [at3_fr (b2.1 1 (by decide)) (b2.2 4 (by decide) (by decide))]; exact at3_rel h e4 i hi, by rw [hn2.2 5 (by decide) (by decide)]; exact (e4.2.2.2.2.2 i hi).2.2⟩)
  refine ⟨c3, m3, ?_, ?_, hR.same (b2.tr f3).sC (hn2.tr f4).sM, f5.1, f5.2.1, f5.2.2.1, f5.2.2.2, ⟨k, n, F, t, e3.cn (b2.tr f3) (hn2.tr f4), e4.cn (b2.tr f3) (hn2.tr f4)⟩, (b2.tr f3).sC, e2.same.tr (hn2.tr f4).sM⟩
  · unfold fX9_run fX9_begin
    rw [show LX9_begin_2 fu c 0 = _ from b1, bd_e]
    exact f1
  · unfold fX11_plans
    rw [e1, bd_e, bS_eq, bS_eq, bS_eq, show LX11_plans_21 fu (sI (sI (sI m1 14 0) 15 0) 16 (-1)) (nI N) 0 = _ from d1]
    exact f2
theorem rPlan_rel {c m : St} (h : Rel c m) : ∃ (r : Int32) (m1 : St), fX11_readsPlan m = some (r, m1) ∧ m1.1 11 = c.1 4 ∧ Rel c m1 ∧ SameM m m1 := by
  obtain ⟨⟨n0, n1, t0, t1, ⟨h1, h2, h3, h4, h5, h6, h7, h8, h9, h10, h11, h12⟩, -, ⟨i, l1, l2, l3⟩⟩, -⟩ := id h
  obtain ⟨r2, m2, f1, ⟨i', f2, f3, f4⟩, f5⟩ := readsPlan_sp (m := m) h2 h4 h8 h12
  obtain rfl := fst_bad_u l1 f2
  have hS : SameM m m2 := ⟨fun k x _ y _ _ _ => f5.1 k x y, fun k _ _ _ _ _ _ _ => by rw [f5.2]⟩
  exact ⟨r2, m2, f1, by rw [f4, l2], h.same SameC.rf hS, hS⟩
theorem plansAll_sp {c m : St} (h : Rel c m) : ∃ (c' m' : St), fX9_run (c.1 4) c = some c' ∧ fX11_plansAll m = some m' ∧ Rel c' m' ∧ c'.1 7 = m'.1 14 ∧ c'.1 8 = m'.1 15 ∧ c'.1 9 = m'.1 16 ∧ (∀ j, j < 4 → c'.2.2 11 j = m'.2.2 10 j) ∧ Rd c' m' ∧ SameC c c' ∧ SameM m m' := by
  obtain ⟨r, m1, e1, e2, e3, e4⟩ := rPlan_rel h
  obtain ⟨n, n1, n2, n3⟩ := plans_sp e3
  obtain ⟨c', m', f1, f2, f3, f4, f5, f6, f7, f8, f9, f10⟩ := n3 n (Nat.le_refl _)
  refine ⟨c', m', by rw [n2]; exact f1, ?_, f3, f4, f5, f6, f7, f8, f9, e4.tr f10⟩
  unfold fX11_plansAll
  rw [e1, bd_e, e2, n2, f2, bd_e]
theorem sim_judged {c m : St} (h : Rel c m) : ∃ (r : Int32) (c1 : St) (m1 : St), fX10_judged c = some (r, c1) ∧ fX11_judged m = some (r, m1) ∧ Rel c1 m1 := by
  obtain ⟨c', m', e1, e2, e3, e4, e5, e6, e7, e8, -⟩ := plansAll_sp h
  unfold fX10_judged fX11_judged fX4_size fX9_stuckAt
  rw [bd_e, e1, bd_e, bd_e, e2, bd_e, e6]
  exact ⟨_, _, _, rfl, rfl, e3⟩
theorem home_rd {c m : St} (h : Rel c m) : ∃ (r : Int32) (c1 : St) (m1 : St), fX10_home c = some (r, c1) ∧ fX11_homeNow m = some (r, m1) ∧ Rel c1 m1 ∧ Rd c1 m1 := by
  obtain ⟨c', m', e1, e2, e3, e4, e5, e6, e7, e8, -⟩ := plansAll_sp h
  unfold fX10_home fX11_homeNow fX4_size fX9_stuckAt fX9_depth
  rw [bd_e, e1, bd_e, bd_e, e2, bd_e, bd_e, e6, e4]
  by_cases q : m'.1 16 = -1
  · rw [if_pos q, if_pos q]
    by_cases q2 : m'.1 14 = 0
    · rw [if_pos q2, if_pos q2]
      exact ⟨_, _, _, rfl, rfl, e3, e8⟩
    · rw [if_neg q2, if_neg q2]
      exact ⟨_, _, _, rfl, rfl, e3, e8⟩
  · rw [if_neg q, if_neg q]
    exact ⟨_, _, _, rfl, rfl, e3, e8⟩
theorem sim_home {c m : St} (h : Rel c m) : ∃ (r : Int32) (c1 : St) (m1 : St), fX10_home c = some (r, c1) ∧ fX11_home m = some (r, m1) ∧ Rel c1 m1 := by
  obtain ⟨r, c1, m1, e1, e2, e3, -⟩ := home_rd h
  unfold fX11_home
  rw [e2, bd_e]
  exact ⟨r, c1, m1, e1, rfl, e3⟩
theorem sim_state (a0 a1 : Int32) {c m : St} (h : Rel c m) : ∃ (r : Int32) (c1 : St) (m1 : St), fX10_state a0 a1 c = some (r, c1) ∧ fX11_state a0 a1 m = some (r, m1) ∧ Rel c1 m1 := by
  obtain ⟨r, m1, e1, e2, e3, -⟩ := rPlan_rel h
  obtain ⟨n, n1, n2, n3⟩ := plans_sp e3
  unfold fX10_state fX11_state fX11_stateOf fX4_size
  simp only [e1, bd_e, within_sp, in_sp, isTwo_sp, ite10, i_64, e2, n2, i_ti (show n < 2 ^ 31 by omega), lit_ti, lit_tl]
  by_cases v0 : 0 ≤ a0.toInt ∧ a0.toInt ≤ (n : Int)
  case neg => rw [if_neg v0, if_neg v0]; exact ⟨_, _, _, rfl, rfl, e3⟩
  by_cases v1 : 0 ≤ a1.toInt ∧ a1.toInt ≤ 1
  case neg => rw [if_pos v0, if_pos v0, if_neg v1, if_neg v1]; exact ⟨_, _, _, rfl, rfl, e3⟩
  obtain ⟨N, -, hN, rfl⟩ := i_rg (a := a0) (lo := 0) (hi := n) v0.1 v0.2
  obtain ⟨c', m', f1, f2, f3, f4, f5, f6, f7, -⟩ := n3 N hN
  unfold fX9_depth fX9_spent
  rw [if_pos v0, if_pos v0, if_pos v1, if_pos v1, f1, f2, bd_e, bd_e, bd_e, bd_e, f4, f5]
  by_cases q : a1 = 0
  · rw [if_pos q, if_pos q, bd_e]
    exact ⟨_, _, _, rfl, rfl, f3⟩
  · rw [if_neg q, if_neg q, bd_e]
    exact ⟨_, _, _, rfl, rfl, f3⟩
theorem sim_left (a0 a1 : Int32) {c m : St} (h : Rel c m) : ∃ (r : Int32) (c1 : St) (m1 : St), fX10_left a0 a1 c = some (r, c1) ∧ fX11_left a0 a1 m = some (r, m1) ∧ Rel c1 m1 := by
  obtain ⟨r, m1, e1, e2, e3, -⟩ := rPlan_rel h
  obtain ⟨n, n1, n2, n3⟩ := plans_sp e3
  obtain ⟨g, w, hL⟩ := e3.2.1
  have g2 := hL.2.1
  unfold fX10_left fX11_left fX11_leftOf fX4_size
  simp only [e1, bd_e, within_sp, in_sp, goer_c hL, goer_m hL, ite10, i_64, e2, n2, i_ti (show n < 2 ^ 31 by omega), lit_ti, lit_tl]
  by_cases v0 : 0 ≤ a0.toInt ∧ a0.toInt ≤ (n : Int)
  case neg => rw [if_neg v0, if_neg v0]; exact ⟨_, _, _, rfl, rfl, e3⟩
  by_cases v1 : 0 ≤ a1.toInt ∧ a1.toInt ≤ (g : Int) - 1
  case neg => rw [if_pos v0, if_pos v0, if_neg v1, if_neg v1]; exact ⟨_, _, _, rfl, rfl, e3⟩
  obtain ⟨N, -, hN, rfl⟩ := i_rg (a := a0) (lo := 0) (hi := n) v0.1 v0.2
  obtain ⟨x, -, hx, rfl⟩ := i_rg (a := a1) (lo := 0) (hi := 3) v1.1 (by omega)
  obtain ⟨c', m', f1, f2, f3, f4, f5, f6, f7, -⟩ := n3 N hN
  unfold fX9_remains
  rw [if_pos v0, if_pos v0, if_pos v1, if_pos v1, f1, f2, bd_e, bd_e, if_neg (nI_pos (show x < 2 ^ 31 by omega)), if_neg (show ¬ (4 : Int32) ≤ nI x from nI_ge (show x < 4 by omega) (by decide)), gI_n (show x < 4 by omega) (by decide), gI_n (show x < 4 by omega) (by decide), cl_n (by omega), bd_e, bd_e, f7 x (by omega)]
  exact ⟨_, _, _, rfl, rfl, f3⟩
