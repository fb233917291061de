/-! the walk, in lock-step: what goes, what burns, how long -/
def fA (c c' : St) : Prop := c'.1 = c.1 ∧ ∀ k, k ≠ 11 → k ≠ 12 → c'.2.2 k = c.2.2 k
def fB (m m' : St) : Prop := m'.1 = m.1 ∧ ∀ k, k ≠ 10 → k ≠ 11 → m'.2.2 k = m.2.2 k
theorem fA.rf {c : St} : fA c c := ⟨rfl, fun _ _ _ => rfl⟩
theorem fB.rf {c : St} : fB c c := ⟨rfl, fun _ _ _ => rfl⟩
theorem fA.tr {a b c : St} (h : fA a b) (g : fA b c) : fA a c := ⟨g.1.trans h.1, fun k x y => (g.2 k x y).trans (h.2 k x y)⟩
theorem fB.tr {a b c : St} (h : fB a b) (g : fB b c) : fB a c := ⟨g.1.trans h.1, fun k x y => (g.2 k x y).trans (h.2 k x y)⟩
theorem fA.up {c : St} (j : Nat) (x y : Int32) : fA c (sA (sA c 12 j x) 11 j y) := ⟨rfl, fun k h1 h2 => by rw [sA_22, if_neg h1, sA_22, if_neg h2]⟩
theorem fB.up {c : St} (j : Nat) (x y : Int32) : fB c (sA (sA c 11 j x) 10 j y) := ⟨rfl, fun k h1 h2 => by rw [sA_22, if_neg h1, sA_22, if_neg h2]⟩
theorem fA.u1 {c : St} (j : Nat) (y : Int32) : fA c (sA c 11 j y) := ⟨rfl, fun k h1 h2 => by rw [sA_22, if_neg h1]⟩
theorem fB.u1 {c : St} (j : Nat) (y : Int32) : fB c (sA c 10 j y) := ⟨rfl, fun k h1 h2 => by rw [sA_22, if_neg h1]⟩
theorem Cv.fr {k : Nat} {F : Nat → Nat → Nat} {c m c' m' : St} (h : Cv k F c m) (e1 : c'.1 2 = c.1 2) (e2 : ∀ p, p < 16 → c'.2.2 (28 + p) = c.2.2 (28 + p)) (f1 : m'.1 8 = m.1 8) (f2 : m'.2.2 7 = m.2.2 7) (f3 : m'.2.2 8 = m.2.2 8) : Cv k F c' m' := by
  obtain ⟨h1, h2, h3, h4⟩ := h
  refine ⟨h1, e1.trans h2, f1.trans h3, fun p hp => ?_⟩
  rw [e2 p (by omega), f2, f3]
  exact h4 p hp
theorem Cv.ab {k : Nat} {F : Nat → Nat → Nat} {c m c' m' : St} (h : Cv k F c m) (a : fA c c') (b : fB m m') : Cv k F c' m' := h.fr (by rw [a.1]) (fun p _ => a.2 _ (by omega) (by omega)) (by rw [b.1]) (b.2 _ (by decide) (by decide)) (b.2 _ (by decide) (by decide))
theorem RLm.ab {g : Nat} {w : Nat → Nat} {c m c' m' : St} (h : RLm g w c m) (a : fA c c') (b : fB m m') : RLm g w c' m' := h.fr (by rw [a.1]) (a.2 _ (by decide) (by decide)) (by rw [b.1]) (b.2 _ (by decide) (by decide))
/-- who goes, and what each lamp has left -/
def Wg (g : Nat) (go : Nat → Nat) (c m : St) : Prop := (∀ i, i < 4 → c.2.2 11 i = m.2.2 10 i ∧ go i ≤ 1 ∧ c.2.2 12 i = nI (go i) ∧ m.2.2 11 i = nI (go i)) ∧ ∀ i, g ≤ i → i < 4 → go i = 0
def off (go : Nat → Nat) (i : Nat) : Nat → Nat := fun j => if j = i then 0 else go j
theorem Wg.out {g : Nat} {go : Nat → Nat} {c m : St} (h : Wg g go c m) (i : Nat) : Wg g (off go i) (sA (sA c 12 i 0) 11 i 0) (sA (sA m 11 i 0) 10 i 0) := by
  refine ⟨fun j hj => ?_, fun j h1 h2 => ?_⟩
  · have := h.1 j hj
    simp only [sA_3, off]
    by_cases q : j = i
    · simp [q, nI_0]
    · simp [q, this]
  · unfold off
    split
    · rfl
    · exact h.2 j h1 h2
def cnt (go : Nat → Nat) : Nat → Nat
  | 0 => 0
  | n + 1 => cnt go n + go n
theorem cnt_off {go : Nat → Nat} {i : Nat} (hi : i < 4) (h : go i = 1) : cnt (off go i) 4 + 1 = cnt go 4 := by
  rcases (show i = 0 ∨ i = 1 ∨ i = 2 ∨ i = 3 by omega) with rfl | rfl | rfl | rfl <;> simp [cnt, off, h] <;> omega
theorem cnt_4 {g : Nat} {go : Nat → Nat} (h : ∀ i, g ≤ i → i < 4 → go i = 0) : ∀ d i, i + d = 4 → g ≤ i → cnt go i = cnt go 4 := by
  intro d
  induction d with
  | zero => intro i h1 h2; rw [show i = 4 by omega]
  | succ d ih =>
    intro i h1 h2
    rw [← ih (i + 1) (by omega) (by omega)]
    show cnt go i = cnt go i + go i
    rw [h i h2 (by omega)]
    rfl
theorem goingC_loop {g : Nat} {go : Nat → Nat} {c m : St} (h : Wg g go c m) : ∀ (f i : Nat), i ≤ 4 → 4 < f + i → LX9_going_4 c f (nI (cnt go i)) (nI i) = some (nI (cnt go 4)) := by
  intro f
  induction f with
  | zero => intro i a1 a2; omega
  | succ f ih =>
    intro i a1 a2
    rw [LX9_going_4]
    unfold BX9_going_4
    by_cases z : i = 4
    · subst z; rfl
    · obtain ⟨p1, p2, p3, p4⟩ := h.1 i (by omega)
      rw [if_neg (show ¬ (4 : Int32) ≤ nI i from nI_ge (show i < 4 by omega) (by decide)), gI_n (show i < 4 by omega) (by decide), cl_n (by omega), p3]
      have e : cnt go (i + 1) = cnt go i + go i := rfl
      rcases (show go i = 0 ∨ go i = 1 by omega) with q | q
      · rw [q, if_pos (show nI 0 = (0 : Int32) from rfl), bI_eq, bI_eq, nI_1, show nI (cnt go i) + 0 = nI (cnt go (i + 1)) by rw [e, q]; exact nI_add _ 0]
        exact ih (i + 1) (by omega) (by omega)
      · rw [q, if_neg (show ¬ nI 1 = (0 : Int32) by decide), bI_eq, bI_eq, nI_1, nI_1, show cnt go i + 1 = cnt go (i + 1) by rw [e, q]]
        exact ih (i + 1) (by omega) (by omega)
theorem goingM_loop {g w4 : Nat} {go : Nat → Nat} {w : Nat → Nat} {c m : St} (h : Wg g go c m) (hL : RLm g w c m) : ∀ (f i : Nat), i ≤ g → g < f + i → LX11_going_4 m f (nI (cnt go i)) (nI i) = some (nI (cnt go g)) := by
  intro f
  induction f with
  | zero => intro i a1 a2; omega
  | succ f ih =>
    intro i a1 a2
    have g2 := hL.2.1
    rw [LX11_going_4]
    unfold BX11_going_4
    rw [hL.2.2.2.1]
    by_cases z : i = g
    · subst z
      rw [if_pos (nI_le (by omega) (by omega))]
    · obtain ⟨p1, p2, p3, p4⟩ := h.1 i (by omega)
      rw [if_neg (nI_ge (show i < g by omega) (by omega)), gI_n (show i < 4 by omega) (by decide), cl_n (by omega), p4]
      have e : cnt go (i + 1) = cnt go i + go i := rfl
      rcases (show go i = 0 ∨ go i = 1 by omega) with q | q
      · rw [q, if_pos (show nI 0 = (0 : Int32) from rfl), bI_eq, bI_eq, nI_1, show nI (cnt go i) + 0 = nI (cnt go (i + 1)) by rw [e, q]; exact nI_add _ 0]
        exact ih (i + 1) (by omega) (by omega)
      · rw [q, if_neg (show ¬ nI 1 = (0 : Int32) by decide), bI_eq, bI_eq, nI_1, nI_1, show cnt go i + 1 = cnt go (i + 1) by rw [e, q]]
        exact ih (i + 1) (by omega) (by omega)
theorem goingC {g : Nat} {go : Nat → Nat} {c m : St} (h : Wg g go c m) : fX9_going c = some (nI (cnt go 4)) := goingC_loop h fu 0 (by omega) (by unfold fu; omega)
theorem goingM {g : Nat} {go : Nat → Nat} {w : Nat → Nat} {c m : St} (h : Wg g go c m) (hL : RLm g w c m) : fX11_going m = some (nI (cnt go 4)) := by
  have g2 := hL.2.1
  rw [← cnt_4 h.2 (4 - g) g (by omega) (Nat.le_refl _)]
  exact goingM_loop (w4 := 0) h hL fu 0 (by omega) (by unfold fu; omega)
theorem putOut_n {i : Nat} (hi : i < 4) (c : St) : fX9_putOut (nI i) c = some (sA (sA c 12 i 0) 11 i 0) := by
  unfold fX9_putOut
  rw [if_neg (nI_pos (show i < 2 ^ 31 by omega)), if_neg (show ¬ (4 : Int32) ≤ nI i from nI_ge (show i < 4 by omega) (by decide)), gI_n hi (by decide), bS_eq, gI_n hi (by decide), bS_eq, cl_n (by omega)]
theorem fails_n {i : Nat} (hi : i < 4) (c : St) : fX11_fails (nI i) c = some (sA (sA c 11 i 0) 10 i 0) := by
  unfold fX11_fails
  rw [gI_n hi (by decide), bS_eq, gI_n hi (by decide), bS_eq, cl_n (by omega)]
/-- the class's rounds reach beyond the goers, where none goes -/
theorem pob_tail {g : Nat} {go : Nat → Nat} {c m : St} (h : Wg g go c m) (T fl : Int32) (hf : fl = 0 ∨ fl = 1) : ∀ (f i : Nat), g ≤ i → i ≤ 4 → 4 < f + i → LX9_putOutBelow_4 f c T fl (nI i) = some (fl, c) := by
  intro f
  induction f with
  | zero => intro i a1 a2; omega
  | succ f ih =>
    intro i a1 a2 a3
    rw [LX9_putOutBelow_4]
    unfold BX9_putOutBelow_4
    by_cases z : i = 4
    · subst z
      rw [if_pos (show (4 : Int32) ≤ nI 4 by decide), gB_pos hf]
    · obtain ⟨p1, p2, p3, p4⟩ := h.1 i (by omega)
      rw [if_neg (show ¬ (4 : Int32) ≤ nI i from nI_ge (show i < 4 by omega) (by decide)), gI_n (show i < 4 by omega) (by decide), cl_n (by omega), p3, h.2 i a1 (by omega), if_pos (show nI 0 = (0 : Int32) from rfl), bI_eq, nI_1]
      exact ih (i + 1) (by omega) (by omega) (by omega)
theorem pob_loop {g : Nat} {w : Nat → Nat} (T x1 x2 : Int32) (k5 : St → Int32 → Int32 → Int32 → Int32 → Option (Int32 × St)) : ∀ (f i : Nat) (c m : St) (go : Nat → Nat) (fl : Int32), Wg g go c m → RLm g w c m → (fl = 0 ∨ fl = 1) → i ≤ g → 4 < f + i → ∃ (c' m' : St) (go' : Nat → Nat) (fl' : Int32), LX9_putOutBelow_4 f c T fl (nI i) = some (fl', c') ∧ LX11_lights_57 k5 f m x1 x2 fl T (nI i) = k5 m' x1 x2 fl' T ∧ Wg g go' c' m' ∧ fA c c' ∧ fB m m' ∧ ((fl' = fl ∧ cnt go' 4 = cnt go 4) ∨ (fl' = 1 ∧ cnt go' 4 < cnt go 4)) := by
  intro f
  induction f with
  | zero => intro i c m go fl a1 a2 a3 a4 a5; have := a2.2.1; omega
  | succ f ih =>
    intro i c m go fl a1 a2 a3 a4 a5
    have g2 := a2.2.1
    by_cases z : i = g
    · subst z
      refine ⟨c, m, go, fl, pob_tail a1 T fl a3 (f + 1) i (Nat.le_refl _) (by omega) a5, ?_, a1, fA.rf, fB.rf, Or.inl ⟨rfl, rfl⟩⟩
      rw [LX11_lights_57]
      unfold BX11_lights_57
      rw [a2.2.2.2.1, if_pos (nI_le (by omega) (by omega))]
    · obtain ⟨p1, p2, p3, p4⟩ := a1.1 i (by omega)
      rw [LX11_lights_57, LX9_putOutBelow_4]
      unfold BX11_lights_57 BX9_putOutBelow_4
      rw [a2.2.2.2.1, if_neg (nI_ge (show i < g by omega) (by omega)), if_neg (show ¬ (4 : Int32) ≤ nI i from nI_ge (show i < 4 by omega) (by decide)), gI_n (show i < 4 by omega) (by decide), gI_n (show i < 4 by omega) (by decide), gI_n (show i < 4 by omega) (by decide), gI_n (show i < 4 by omega) (by decide), cl_n (by omega), p3, p4, p1]
      rcases (show go i = 0 ∨ go i = 1 by omega) with q | q
      · rw [q, if_pos (show nI 0 = (0 : Int32) from rfl), if_pos (show nI 0 = (0 : Int32) from rfl), bI_eq, bI_eq, nI_1]
        exact ih (i + 1) c m go fl a1 a2 a3 (by omega) (by omega)
      · rw [q, if_neg (show ¬ nI 1 = (0 : Int32) by decide), if_neg (show ¬ nI 1 = (0 : Int32) by decide)]
        by_cases y : T ≤ m.2.2 10 i
        · rw [if_pos y, if_pos y, bI_eq, bI_eq, nI_1]
          exact ih (i + 1) c m go fl a1 a2 a3 (by omega) (by omega)
        · rw [if_neg y, if_neg y, putOut_n (by omega), fails_n (by omega), bd_e, bd_e, bI_eq, bI_eq, nI_1]
          obtain ⟨c', m', go', fl', e1, e2, e3, e4, e5, e6⟩ := ih (i + 1) (sA (sA c 12 i 0) 11 i 0) (sA (sA m 11 i 0) 10 i 0) (off go i) 1 (a1.out i) (a2.ab (fA.up _ _ _) (fB.up _ _ _)) (Or.inr rfl) (by omega) (by omega)
          have hc := cnt_off (show i < 4 by omega) q
          refine ⟨c', m', go', fl', e1, e2, e3, (fA.up _ _ _).tr e4, (fB.up _ _ _).tr e5, Or.inr ⟨?_, ?_⟩⟩
          · rcases e6 with ⟨y1, _⟩ | ⟨y1, _⟩ <;> exact y1
          · rcases e6 with ⟨_, y1⟩ | ⟨_, y1⟩ <;> omega
theorem l57_zero {g : Nat} {w go : Nat → Nat} {c m : St} (h : Wg g go c m) (hL : RLm g w c m) (hz : ∀ i, i < 4 → go i = 0) (T fl x1 x2 : Int32) (k5 : St → Int32 → Int32 → Int32 → Int32 → Option (Int32 × St)) : ∀ (f i : Nat), i ≤ g → g < f + i → LX11_lights_57 k5 f m x1 x2 fl T (nI i) = k5 m x1 x2 fl T := by
  intro f
  induction f with
  | zero => intro i a1 a2; omega
  | succ f ih =>
    intro i a1 a2
    have g2 := hL.2.1
    rw [LX11_lights_57]
    unfold BX11_lights_57
    rw [hL.2.2.2.1]
    by_cases z : i = g
    · subst z
      rw [if_pos (nI_le (by omega) (by omega))]
    · obtain ⟨p1, p2, p3, p4⟩ := h.1 i (by omega)
      rw [if_neg (nI_ge (show i < g by omega) (by omega)), gI_n (show i < 4 by omega) (by decide), cl_n (by omega), p4, hz i (by omega), if_pos (show nI 0 = (0 : Int32) from rfl), bI_eq, nI_1]
      exact ih (i + 1) (by omega) (by omega)
theorem cnt_0 {go : Nat → Nat} (h : cnt go 4 = 0) : ∀ i, i < 4 → go i = 0 := by
  intro i hi
  simp only [cnt] at h
  rcases (show i = 0 ∨ i = 1 ∨ i = 2 ∨ i = 3 by omega) with rfl | rfl | rfl | rfl <;> omega
theorem cnt_le {g : Nat} {go : Nat → Nat} {c m : St} (h : Wg g go c m) : cnt go 4 ≤ 4 := by
  have h0 := (h.1 0 (by decide)).2.1
  have h1 := (h.1 1 (by decide)).2.1
  have h2 := (h.1 2 (by decide)).2.1
  have h3 := (h.1 3 (by decide)).2.1
  simp only [cnt]
  omega
/-- minutes for PART p, lit: the same on both sides; none is -1 here and 0 there -/
theorem lit_loop {g k p : Nat} {w : Nat → Nat} {F : Nat → Nat → Nat} (hp : p < k) (x2 : Int32) : ∀ (r x5 fc fm : Nat) (c m : St) (go : Nat → Nat) (x4 : Int32), x5 + r = 4 → r < fc → r + 1 < fm → cnt go 4 ≤ r → Wg g go c m → RLm g w c m → Cv k F c m → ∃ (T1 T2 : Int32) (c' m' : St) (go' : Nat → Nat), LX9_litMinutes_3 fc c (nI p) x2 (nI x5) = some (T1, c') ∧ LX11_lights_5 fm m (nI p) x2 1 x4 = some (T2, m') ∧ Wg g go' c' m' ∧ fA c c' ∧ fB m m' ∧ ((T1 = -1 ∧ T2 = 0) ∨ ∃ t : Nat, 1 ≤ t ∧ t ≤ 99 ∧ T1 = nI t ∧ T2 = nI t) := by
  intro r
  induction r with
  | zero =>
    intro x5 fc fm c m go x4 a1 a2 a3 a4 a5 a6 a7
    obtain ⟨fc, rfl⟩ : ∃ f, fc = f + 1 := ⟨fc - 1, by omega⟩
    obtain ⟨fm, rfl⟩ : ∃ f, fm = f + 2 := ⟨fm - 2, by omega⟩
    have hz := cnt_0 (show cnt go 4 = 0 by omega)
    have g2 := a6.2.1
    refine ⟨-1, 0, c, m, go, ?_, ?_, a5, fA.rf, fB.rf, Or.inl ⟨rfl, rfl⟩⟩
    · rw [LX9_litMinutes_3]
      unfold BX9_litMinutes_3
      rw [if_neg (show ¬ (4 : Int32) < nI x5 from nI_nlt (b := x5) (a := 4) (by omega) (by decide)), goingC a5, bd_e, show cnt go 4 = 0 by omega, if_pos (show nI 0 = (0 : Int32) from rfl)]
    · rw [LX11_lights_5]
      unfold BX11_lights_5
      rw [if_neg ne10, goingM a5 a6, bd_e, show cnt go 4 = 0 by omega, if_pos (show nI 0 = (0 : Int32) from rfl), show LX11_lights_57 (LX11_lights_5 (fm + 1)) fu m (nI p) x2 0 0 0 = _ from l57_zero a5 a6 hz 0 0 (nI p) x2 _ fu 0 (by omega) (by unfold fu; omega)]
      rfl
  | succ r ih =>
    intro x5 fc fm c m go x4 a1 a2 a3 a4 a5 a6 a7
    obtain ⟨fc, rfl⟩ : ∃ f, fc = f + 1 := ⟨fc - 1, by omega⟩
    obtain ⟨fm, rfl⟩ : ∃ f, fm = f + 2 := ⟨fm - 2, by omega⟩
    have g1 := a6.1
    have g2 := a6.2.1
    have hk := a7.1
    rw [LX9_litMinutes_3, LX11_lights_5]
    unfold BX9_litMinutes_3 BX11_lights_5
    rw [if_neg (show ¬ (4 : Int32) < nI x5 from nI_nlt (b := x5) (a := 4) (by omega) (by decide)), goingC a5, bd_e, if_neg ne10, goingM a5 a6, bd_e]
    by_cases z : cnt go 4 = 0
    · have hz := cnt_0 z
      rw [z, if_pos (show nI 0 = (0 : Int32) from rfl), if_pos (show nI 0 = (0 : Int32) from rfl), show LX11_lights_57 (LX11_lights_5 (fm + 1)) fu m (nI p) x2 0 0 0 = _ from l57_zero a5 a6 hz 0 0 (nI p) x2 _ fu 0 (by omega) (by unfold fu; omega)]
      exact ⟨-1, 0, c, m, go, rfl, rfl, a5, fA.rf, fB.rf, Or.inl ⟨rfl, rfl⟩⟩
    · have hv := toL_bd (v := cnt go 4) g1 g2 (by omega)
      obtain ⟨b1, b2, b3, b4⟩ := a7.2.2.2 p hp
      have fin : ∀ t : Nat, 1 ≤ t → t ≤ 99 → ∃ (T1 T2 : Int32) (c' m' : St) (go' : Nat → Nat), BX9_litMinutes_50 (LX9_litMinutes_3 fc) c (nI p) x2 (nI x5) (nI t) = some (T1, c') ∧ LX11_lights_57 (LX11_lights_5 (fm + 1)) fu m (nI p) x2 0 (nI t) 0 = some (T2, m') ∧ Wg g go' c' m' ∧ fA c c' ∧ fB m m' ∧ ((T1 = -1 ∧ T2 = 0) ∨ ∃ t : Nat, 1 ≤ t ∧ t ≤ 99 ∧ T1 = nI t ∧ T2 = nI t) := by
        intro t t1 t2
        obtain ⟨c', m', go', fl', e1, e2, e3, e4, e5, e6⟩ := pob_loop (g := g) (w := w) (nI t) (nI p) x2 (LX11_lights_5 (fm + 1)) fu 0 c m go 0 a5 a6 (Or.inl rfl) (by omega) (by unfold fu; omega)
        unfold BX9_litMinutes_50 fX9_putOutBelow
        rw [show LX9_putOutBelow_4 fu c (nI t) 0 0 = _ from e1, bd_e, show LX11_lights_57 (LX11_lights_5 (fm + 1)) fu m (nI p) x2 0 (nI t) 0 = _ from e2]
        rcases e6 with ⟨rfl, y⟩ | ⟨rfl, y⟩
        · exact ⟨nI t, nI t, c', m', go', rfl, rfl, e3, e4, e5, Or.inr ⟨t, t1, t2, rfl, rfl⟩⟩
        · rw [if_neg ne10, bI_eq, nI_1]
          obtain ⟨T1, T2, c2, m2, go2, f1, f2, f3, f4, f5, f6⟩ := ih (x5 + 1) fc (fm + 1) c' m' go' (nI t) (by omega) (by omega) (by omega) (by omega) e3 (a6.ab e4 e5) (a7.ab e4 e5)
          exact ⟨T1, T2, c2, m2, go2, f1, f2, f3, e4.tr f4, e5.tr f5, f6⟩
      rw [if_neg (nI_ne0 (by omega) (by omega)), if_neg (nI_ne0 (by omega) (by omega)), toL_c a6 (by omega) (by omega), bd_e, toL_m a6 (by omega) (by omega), bd_e]
      by_cases y : x2 = 0
      · have ho := ou_le a7 hp hv.2
        have ho1 : 1 ≤ ou F ((g + cnt go 4 - 1) / cnt go 4) p := by
          unfold ou
          rw [if_neg (by omega)]
          split
          · omega
          · have := Nat.mul_le_mul (show 1 ≤ (g + cnt go 4 - 1) / cnt go 4 - 1 by omega) (show 1 ≤ F p 2 by omega)
            omega
        rw [if_pos y, if_pos y, outM_sp a7 hp hv.1 hv.2, bd_e, outBy_sp a7 hp hv.1 hv.2, bd_e]
        exact fin _ ho1 (by omega)
      · rw [if_neg y, if_neg y, inM_sp a7 hp, bd_e, show (3 : Int32) * nI p = nI (3 * p) from pk_mul 3 p, gI_n (show 3 * p < 48 by omega) (by decide), cl_n (by omega), show m.2.2 7 (3 * p) = nI (F p 0) from b3 0 (by decide), bI_eq]
        exact fin _ b1.1 (by omega)
theorem burn_tail {g : Nat} {go : Nat → Nat} {c m : St} (h : Wg g go c m) (T : Int32) : ∀ (f i : Nat), g ≤ i → i ≤ 4 → 4 < f + i → LX9_burn_2 f c T (nI i) = some c := by
  intro f
  induction f with
  | zero => intro i a1 a2; omega
  | succ f ih =>
    intro i a1 a2 a3
    rw [LX9_burn_2]
    unfold BX9_burn_2
    by_cases z : i = 4
    · subst z; rfl
    · obtain ⟨p1, p2, p3, p4⟩ := h.1 i (by omega)
      rw [if_neg (show ¬ (4 : Int32) ≤ nI i from nI_ge (show i < 4 by omega) (by decide)), gI_n (show i < 4 by omega) (by decide), cl_n (by omega), p3, h.2 i a1 (by omega), if_pos (show nI 0 = (0 : Int32) from rfl), bI_eq, nI_1]
      exact ih (i + 1) (by omega) (by omega) (by omega)
theorem Wg.set {g : Nat} {go : Nat → Nat} {c m : St} (h : Wg g go c m) (i : Nat) (v : Int32) : Wg g go (sA c 11 i v) (sA m 10 i v) := by
  refine ⟨fun j hj => ?_, h.2⟩
  have := h.1 j hj
  simp only [sA_3]
  by_cases q : j = i
  · simp [q]
    subst q
    exact this.2
  · simp [q, this]
theorem Wg.setM {g : Nat} {go : Nat → Nat} {c m : St} (h : Wg g go c m) (i : Nat) : Wg g go c (sA m 10 i (m.2.2 10 i - 0)) := by
  refine ⟨fun j hj => ?_, h.2⟩
  have := h.1 j hj
  simp only [sA_3, Int32.sub_zero]
  by_cases q : j = i
  · subst q
    simp [this]
  · simp [q, this]
theorem burn_loop {g : Nat} {w : Nat → Nat} (T x1 : Int32) : ∀ (f i : Nat) (c m : St) (go : Nat → Nat), Wg g go c m → RLm g w c m → i ≤ g → 4 < f + i → ∃ (c' m' : St), LX9_burn_2 f c T (nI i) = some c' ∧ LX11_steps_87 f m x1 0 T (nI i) = BX11_steps_132 m' x1 T ∧ Wg g go c' m' ∧ fA c c' ∧ fB m m' := by
  intro f
  induction f with
  | zero => intro i c m go a1 a2 a3 a4; have := a2.2.1; omega
  | succ f ih =>
    intro i c m go a1 a2 a3 a4
    have g2 := a2.2.1
    by_cases z : i = g
    · subst z
      refine ⟨c, m, burn_tail a1 T (f + 1) i (Nat.le_refl _) (by omega) a4, ?_, a1, fA.rf, fB.rf⟩
      rw [LX11_steps_87]
      unfold BX11_steps_87
      rw [a2.2.2.2.1, if_pos (nI_le (by omega) (by omega))]
    · obtain ⟨p1, p2, p3, p4⟩ := a1.1 i (by omega)
      rw [LX11_steps_87, LX9_burn_2]
      unfold BX11_steps_87 BX9_burn_2
      rw [a2.2.2.2.1, if_neg (nI_ge (show i < g by omega) (by omega)), if_neg (show ¬ (4 : Int32) ≤ nI i from nI_ge (show i < 4 by omega) (by decide)), if_pos rfl]
      simp only [gI_n (show i < 4 by omega) (show 4 < 2 ^ 31 by decide), cl_n (show i < 2 ^ 31 by omega), p3, p4]
      rcases (show go i = 0 ∨ go i = 1 by omega) with q | q
      · rw [q, if_pos (show nI 0 = (0 : Int32) from rfl), if_pos (show nI 0 = (0 : Int32) from rfl), bI_eq, bS_eq, bI_eq, nI_1]
        obtain ⟨c', m', e1, e2, e3, e4, e5⟩ := ih (i + 1) c _ go (a1.setM i) (a2.ab fA.rf (fB.u1 i _)) (by omega) (by omega)
        exact ⟨c', m', e1, e2, e3, e4, (fB.u1 i _).tr e5⟩
      · rw [q, if_neg (show ¬ nI 1 = (0 : Int32) by decide), if_neg (show ¬ nI 1 = (0 : Int32) by decide), bS_eq, bS_eq, bI_eq, bI_eq, nI_1, p1]
        obtain ⟨c', m', e1, e2, e3, e4, e5⟩ := ih (i + 1) _ _ go (a1.set i (m.2.2 10 i - T)) (a2.ab (fA.u1 i _) (fB.u1 i _)) (by omega) (by omega)
        exact ⟨c', m', e1, e2, e3, (fA.u1 i _).tr e4, (fB.u1 i _).tr e5⟩
theorem burn_0 {g : Nat} {w : Nat → Nat} {c : St} (x1 : Int32) : ∀ (f i : Nat) (m : St) (go : Nat → Nat), Wg g go c m → RLm g w c m → i ≤ g → g < f + i → ∃ (m' : St), LX11_steps_87 f m x1 0 0 (nI i) = BX11_steps_132 m' x1 0 ∧ Wg g go c m' ∧ fB m m' := by
  intro f
  induction f with
  | zero => intro i m go a1 a2 a3 a4; omega
  | succ f ih =>
    intro i m go a1 a2 a3 a4
    have g2 := a2.2.1
    rw [LX11_steps_87]
    unfold BX11_steps_87
    rw [a2.2.2.2.1]
    by_cases z : i = g
    · subst z
      rw [if_pos (nI_le (by omega) (by omega))]
      exact ⟨m, rfl, a1, fB.rf⟩
    · rw [if_neg (nI_ge (show i < g by omega) (by omega)), if_pos rfl]
      simp only [gI_n (show i < 4 by omega) (show 4 < 2 ^ 31 by decide), cl_n (show i < 2 ^ 31 by omega), bS_eq, bI_eq, nI_1, ite_self]
      obtain ⟨m', e2, e3, e5⟩ := ih (i + 1) _ go (a1.setM i) (a2.ab fA.rf (fB.u1 i _)) (by omega) (by omega)
      exact ⟨m', e2, e3, (fB.u1 i _).tr e5⟩
