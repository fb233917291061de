/-! a step, the whole walk; judged, state, left, home -/
def FS (c c' : St) : Prop := (∀ j, j ≠ 7 → j ≠ 8 → j ≠ 10 → c'.1 j = c.1 j) ∧ ∀ k, k ≠ 11 → k ≠ 12 → c'.2.2 k = c.2.2 k
def FM (m m' : St) : Prop := (∀ j, j ≠ 14 → j ≠ 15 → m'.1 j = m.1 j) ∧ ∀ k, k ≠ 10 → k ≠ 11 → m'.2.2 k = m.2.2 k
def FC (c c' : St) : Prop := (∀ j, (j < 7 ∨ 11 < j) → c'.1 j = c.1 j) ∧ ∀ k, k ≠ 11 → k ≠ 12 → c'.2.2 k = c.2.2 k
def FN (m m' : St) : Prop := (∀ j, j ≠ 14 → j ≠ 15 → j ≠ 16 → m'.1 j = m.1 j) ∧ ∀ k, k ≠ 10 → k ≠ 11 → m'.2.2 k = m.2.2 k
theorem FC.rf {c : St} : FC c c := ⟨fun _ _ => rfl, fun _ _ _ => rfl⟩
theorem FN.rf {c : St} : FN c c := ⟨fun _ _ _ _ => rfl, fun _ _ _ => rfl⟩
theorem FC.tr {a b c : St} (h : FC a b) (g : FC b c) : FC a c := ⟨fun j x => (g.1 j x).trans (h.1 j x), fun k x y => (g.2 k x y).trans (h.2 k x y)⟩
theorem FN.tr {a b c : St} (h : FN a b) (g : FN b c) : FN a c := ⟨fun j x y z => (g.1 j x y z).trans (h.1 j x y z), fun k x y => (g.2 k x y).trans (h.2 k x y)⟩
theorem FS.fc {c c' : St} (h : FS c c') : FC c c' := ⟨fun j x => h.1 j (by omega) (by omega) (by omega), h.2⟩
theorem FM.fn {c c' : St} (h : FM c c') : FN c c' := ⟨fun j x y _ => h.1 j x y, h.2⟩
theorem FC.sC {c c' : St} (h : FC c c') : SameC c c' := ⟨fun j x => h.1 j (by omega), h.2⟩
theorem FN.sM {c c' : St} (h : FN c c') : SameM c c' := ⟨fun j _ _ _ x y z => h.1 j x y z, fun k _ _ _ x y _ _ => h.2 k x y⟩
theorem Cv.cn {k : Nat} {F : Nat → Nat → Nat} {c m c' m' : St} (h : Cv k F c m) (a : FC c c') (b : FN m m') : Cv k F c' m' := h.fr (a.1 _ (by decide)) (fun p _ => a.2 _ (by omega) (by omega)) (b.1 _ (by decide) (by decide) (by decide)) (b.2 _ (by decide) (by decide)) (b.2 _ (by decide) (by decide))
theorem RLm.cn {g : Nat} {w : Nat → Nat} {c m c' m' : St} (h : RLm g w c m) (a : FC c c') (b : FN m m') : RLm g w c' m' := h.fr (a.1 _ (by decide)) (a.2 _ (by decide) (by decide)) (b.1 _ (by decide) (by decide) (by decide)) (b.2 _ (by decide) (by decide))
def Wk (g d : Nat) (go : Nat → Nat) (c m : St) : Prop := Wg g go c m ∧ c.1 7 = nI d ∧ m.1 14 = nI d ∧ c.1 8 = m.1 15
theorem fin_sp {g d d1 t : Nat} {go : Nat → Nat} {c m : St} (h : Wk g d go c m) (a : Int32) (ht : 1 ≤ t) (ht2 : t ≤ 99) (h0 : a = 0 → nI d + (-1) = nI d1) (h1 : ¬ a = 0 → nI d + 1 = nI d1) : ∃ c' m', BX9_step_91 c a (nI t) = some (1, c') ∧ BX11_steps_132 m a (nI t) = some (1, m') ∧ Wk g d1 go c' m' ∧ (∀ j, j ≠ 7 → j ≠ 8 → c'.1 j = c.1 j) ∧ c'.2 = c.2 ∧ (∀ j, j ≠ 14 → j ≠ 15 → m'.1 j = m.1 j) ∧ m'.2 = m.2 := by
  obtain ⟨hg, e1, e2, e3⟩ := h
  unfold BX9_step_91 BX11_steps_132
  simp only [bS_eq]
  rw [if_neg (nI_ne0 ht (by omega))]
  have i7 : (sI c 8 (c.1 8 + nI t)).1 7 = nI d := e1
  have i14 : (sI m 15 (m.1 15 + nI t)).1 14 = nI d := e2
  by_cases q : a = 0
  · rw [if_pos q, if_pos q, i7, i14, h0 q, if_neg (nI_nle ht (by omega))]
    exact ⟨_, _, rfl, rfl, ⟨hg, rfl, rfl, by show c.1 8 + nI t = m.1 15 + nI t; rw [e3]⟩, fun j x y => by rw [sI_1, if_neg x, sI_1, if_neg y], rfl, fun j x y => by rw [sI_1, if_neg x, sI_1, if_neg y], rfl⟩
  · rw [if_neg q, if_neg q, i7, i14, h1 q, if_neg (nI_nle ht (by omega))]
    exact ⟨_, _, rfl, rfl, ⟨hg, rfl, rfl, by show c.1 8 + nI t = m.1 15 + nI t; rw [e3]⟩, fun j x y => by rw [sI_1, if_neg x, sI_1, if_neg y], rfl, fun j x y => by rw [sI_1, if_neg x, sI_1, if_neg y], rfl⟩
theorem core_sp {g k d d1 p : Nat} {w go : Nat → Nat} {F : Nat → Nat → Nat} {c m : St} (hW : Wk g d go c m) (hL : RLm g w c m) (hC : Cv k F c m) (hp : p < k) (a x2 : Int32) (hx : c.1 10 = x2) (h0 : a = 0 → nI d + (-1) = nI d1) (h1 : ¬ a = 0 → nI d + 1 = nI d1) : ∃ (b : Int32) (d' : Nat) (go' : Nat → Nat) (c' m' : St), BX9_step_17 c a (nI p) = some (b, c') ∧ BX11_steps_17 m a x2 (nI p) = some (b, m') ∧ (b = 0 ∨ b = 1) ∧ Wk g d' go' c' m' ∧ (d' = d ∨ d' = d1) ∧ FS c c' ∧ FM m m' ∧ c'.1 10 = 0 := by
  have hk := hC.1
  have g1 := hL.1
  have g2 := hL.2.1
  obtain ⟨b1, b2, b3, b4⟩ := hC.2.2.2 p hp
  have hC2 : Cv k F (sI c 10 0) m := hC.fr rfl (fun _ _ => rfl) rfl rfl rfl
  have hL2 : RLm g w (sI c 10 0) m := hL.fr rfl rfl rfl rfl
  have hW2 : Wk g d go (sI c 10 0) m := ⟨hW.1, hW.2.1, hW.2.2.1, hW.2.2.2⟩
  have hS2 : FS c (sI c 10 0) := ⟨fun j _ _ x => if_neg x, fun _ _ _ => rfl⟩
  have i2 : (sI c 10 0).1 2 = nI k := hC.2.1
  unfold BX9_step_17 BX11_steps_17 fX1_size
  rw [bI_eq, bS_eq, if_neg (nI_pos (show p < 2 ^ 31 by omega)), bd_e, i2, if_pos (nI_lt hp (by omega)), hx, in_sp, bd_e, ite10, i_64, i_64, hC.2.2.1, i_ti (by omega), show (nI k - 1).toInt = (k : Int) - 1 from pk_sub_toInt (a := k) (b := 1) (by omega) (by decide), if_pos (show (0 : Int64).toInt ≤ (p : Int) ∧ (p : Int) ≤ (k : Int) - 1 from ⟨by rw [show (0 : Int64).toInt = 0 by decide]; omega, by omega⟩)]
  by_cases q : x2 = 0
  · rw [if_pos q, if_pos q]
    unfold fX9_litMinutes BX11_steps_49 fX11_lights
    rw [if_pos q]
    obtain ⟨T1, T2, c', m', go', e1, e2, e3, e4, e5, e6⟩ := lit_loop (g := g) (w := w) (F := F) hp a 4 0 fu fu (sI c 10 0) m go 0 (by omega) (by unfold fu; omega) (by unfold fu; omega) (cnt_le hW.1) hW2.1 hL2 hC2
    rw [show LX9_litMinutes_3 fu (sI c 10 0) (nI p) a 0 = _ from e1, show LX11_lights_5 fu m (nI p) a 1 0 = _ from e2, bd_e, bd_e]
    have hL3 := hL2.ab e4 e5
    have n7 : c'.1 7 = nI d := by rw [e4.1]; exact hW.2.1
    have n14 : m'.1 14 = nI d := by rw [e5.1]; exact hW.2.2.1
    have n8 : c'.1 8 = m'.1 15 := by rw [e4.1, e5.1]; exact hW.2.2.2
    have n10 : c'.1 10 = 0 := by rw [e4.1]; rfl
    rcases e6 with ⟨rfl, rfl⟩ | ⟨t, t1, t2, rfl, rfl⟩
    · unfold BX9_step_70
      rw [if_pos rfl, bI_eq, q]
      obtain ⟨m2, f1, f2, f3⟩ := burn_0 (c := c') a fu 0 m' go' e3 hL3 (by omega) (by unfold fu; omega)
      rw [show LX11_steps_87 fu m' a 0 0 0 = _ from f1]
      refine ⟨0, d, go', c', _, rfl, rfl, Or.inl rfl, ⟨f2, n7, ?_, ?_⟩, Or.inl rfl, ⟨fun j x y z => ?_, fun j x y => ?_⟩, ⟨fun j x y => ?_, fun j x y => ?_⟩, n10⟩
      · show m2.1 14 + 0 = nI d
        rw [Int32.add_zero, f3.1, n14]
      · show c'.1 8 = m2.1 15 + 0
        rw [Int32.add_zero, f3.1, n8]
      · rw [e4.1]; exact if_neg z
      · exact e4.2 j x y
      · rw [sI_1, if_neg x, sI_1, if_neg y, f3.1, e5.1]
      · show m2.2.2 j = _
        rw [f3.2 j x y, e5.2 j x y]
    · unfold BX9_step_70
      rw [if_neg (nI_nm1 (by omega)), q, if_pos rfl]
      obtain ⟨c2, m2, f1, f2, f3, f4, f5⟩ := burn_loop (g := g) (w := w) (nI t) a fu 0 c' m' go' e3 hL3 (by omega) (by unfold fu; omega)
      unfold fX9_burn
      rw [show LX9_burn_2 fu c' (nI t) 0 = _ from f1, bd_e, bI_eq, show LX11_steps_87 fu m' a 0 (nI t) 0 = _ from f2]
      have hw2 : Wk g d go' c2 m2 := ⟨f3, by rw [f4.1]; exact n7, by rw [f5.1]; exact n14, by rw [f4.1, f5.1]; exact n8⟩
      obtain ⟨c3, m3, j1, j2, j3, j4, j5, j6, j7⟩ := fin_sp hw2 a t1 t2 h0 h1
      refine ⟨1, d1, go', c3, m3, j1, j2, Or.inr rfl, j3, Or.inr rfl, ⟨fun j x y z => ?_, fun j x y => ?_⟩, ⟨fun j x y => ?_, fun j x y => ?_⟩, ?_⟩
      · rw [j4 j x y, f4.1, e4.1]; exact if_neg z
      · rw [j5, f4.2 j x y, e4.2 j x y]; rfl
      · rw [j6 j x y, f5.1, e5.1]
      · rw [j7, f5.2 j x y, e5.2 j x y]
      · rw [j4 10 (by decide) (by decide), f4.1, n10]
  · rw [if_neg q, if_neg q]
    unfold fX9_unlitMinutes
    rw [show fX1_figure (nI p) 3 (sI c 10 0) = _ from figure_n (s := 3) hC2 hp (by decide), bd_e, gI_n (show p < 16 by omega) (by decide), cl_n (by omega), b4]
    by_cases z : F p 3 = 0
    · rw [z, if_pos (show nI 0 = (0 : Int32) from rfl), if_pos (show nI 0 = (0 : Int32) from rfl), bd_e]
      exact ⟨0, d, go, sI c 10 0, m, rfl, rfl, Or.inl rfl, hW2, Or.inl rfl, hS2, ⟨fun _ _ _ => rfl, fun _ _ _ => rfl⟩, rfl⟩
    · rw [if_neg (nI_ne0 (by omega) (by omega)), if_neg (nI_ne0 (by omega) (by omega))]
      have fin : ∀ t : Nat, 1 ≤ t → t ≤ 99 → ∃ (b : Int32) (d' : Nat) (go' : Nat → Nat) (c' m' : St), BX9_step_70 (sI c 10 0) a x2 (nI t) = some (b, c') ∧ LX11_steps_87 fu m a x2 (nI t) 0 = some (b, m') ∧ (b = 0 ∨ b = 1) ∧ Wk g d' go' c' m' ∧ (d' = d ∨ d' = d1) ∧ FS c c' ∧ FM m m' ∧ c'.1 10 = 0 := by
        intro t t1 t2
        unfold BX9_step_70
        rw [if_neg (nI_nm1 (by omega)), if_neg q, show LX11_steps_87 fu m a x2 (nI t) 0 = BX11_steps_87 (LX11_steps_87 4999) m a x2 (nI t) 0 from rfl]
        unfold BX11_steps_87
        rw [hL.2.2.2.1, if_neg (nI_nle g1 (by omega)), if_neg q]
        obtain ⟨c3, m3, j1, j2, j3, j4, j5, j6, j7⟩ := fin_sp hW2 a t1 t2 h0 h1
        refine ⟨1, d1, go, c3, m3, j1, j2, Or.inr rfl, j3, Or.inr rfl, ⟨fun j x y z => ?_, fun j x y => ?_⟩, ⟨fun j x y => j6 j x y, fun j x y => ?_⟩, ?_⟩
        · rw [j4 j x y]; exact if_neg z
        · rw [j5]; rfl
        · rw [j7]
        · rw [j4 10 (by decide) (by decide)]; rfl
      unfold BX11_steps_49
      rw [if_neg q]
      by_cases y : a = 0
      · rw [if_pos y, if_pos y, show fX1_outMinutes (nI p) 1 (sI c 10 0) = _ from outM_sp (mm := 1) hC2 hp (by decide) (by decide), bd_e, bd_e, show (3 : Int32) * nI p + 1 = nI (3 * p + 1) from idx_n 3 p 1, gI_n (show 3 * p + 1 < 48 by omega) (by decide), cl_n (by omega), b3 1 (by decide), bI_eq, show (2 : Int32) * nI (F p 1) = nI (2 * F p 1) from pk_mul 2 _, show (2 : Int32) * nI (ou F 1 p) = nI (2 * F p 1) from pk_mul 2 _]
        exact fin _ (by omega) (by omega)
      · rw [if_neg y, if_neg y, inM_sp hC2 hp, bd_e, bd_e, show (3 : Int32) * nI p + 0 = nI (3 * p + 0) from idx_n 3 p 0, gI_n (show 3 * p + 0 < 48 by omega) (by decide), cl_n (by omega), b3 0 (by decide), bI_eq, show (2 : Int32) * nI (F p 0) = nI (2 * F p 0) from pk_mul 2 _]
        exact fin _ (by omega) (by omega)
theorem step9_sp {g k d : Nat} {w go : Nat → Nat} {F : Nat → Nat → Nat} {c m : St} (hW : Wk g d go c m) (hL : RLm g w c m) (hC : Cv k F c m) (hd : d ≤ k) (a x2 : Int32) (ha : a = 0 ∨ a = 1) (hx : c.1 10 = x2) : ∃ (b : Int32) (d' : Nat) (go' : Nat → Nat) (c' m' : St), fX9_step a c = some (b, c') ∧ fX11_steps a x2 m = some (b, m') ∧ (b = 0 ∨ b = 1) ∧ Wk g d' go' c' m' ∧ d' ≤ k ∧ FS c c' ∧ FM m m' ∧ c'.1 10 = 0 := by
  have hk := hC.1
  have hW2 : Wk g d go (sI c 10 0) m := ⟨hW.1, hW.2.1, hW.2.2.1, hW.2.2.2⟩
  have hS2 : FS c (sI c 10 0) := ⟨fun j _ _ x => if_neg x, fun _ _ _ => rfl⟩
  have i2 : (sI c 10 0).1 2 = nI k := hC.2.1
  unfold fX9_step fX11_steps
  rcases ha with rfl | rfl
  · rw [if_pos rfl, if_pos rfl, hW.2.1, hW.2.2.1]
    by_cases z : d = 0
    · subst z
      unfold BX9_step_17 BX11_steps_17
      rw [bI_eq, bS_eq, if_pos (show nI 0 - 1 < (0 : Int32) by decide), in_sp, bd_e, ite10, i_64, i_64, if_neg (fun y => absurd y.1 (by decide))]
      exact ⟨0, 0, go, _, m, rfl, rfl, Or.inl rfl, hW2, by omega, hS2, ⟨fun _ _ _ => rfl, fun _ _ _ => rfl⟩, rfl⟩
    · rw [show nI d - 1 = nI (d - 1) from pk_sub (b := 1) (by omega)]
      obtain ⟨b, d', go', c', m', e1, e2, e3, e4, e5, e6⟩ := core_sp (d1 := d - 1) hW hL hC (show d - 1 < k by omega) 0 x2 hx (fun _ => dec_n (by omega)) (fun y => absurd rfl y)
      exact ⟨b, d', go', c', m', e1, e2, e3, e4, by omega, e6⟩
  · rw [if_neg ne10, if_neg ne10, hW.2.1, hW.2.2.1]
    by_cases z : d = k
    · subst z
      unfold BX9_step_17 BX11_steps_17 fX1_size
      rw [bI_eq, bS_eq, if_neg (nI_pos (show d < 2 ^ 31 by omega)), bd_e, i2, if_neg (nI_nlt (Nat.le_refl _) (by omega)), in_sp, bd_e, ite10, i_64, i_64, hC.2.2.1, i_ti (by omega), show (nI d - 1).toInt = (d : Int) - 1 from pk_sub_toInt (a := d) (b := 1) (by omega) (by decide), if_neg (fun y => by have := y.2; omega)]
      exact ⟨0, d, go, _, m, rfl, rfl, Or.inl rfl, hW2, by omega, hS2, ⟨fun _ _ _ => rfl, fun _ _ _ => rfl⟩, rfl⟩
    · obtain ⟨b, d', go', c', m', e1, e2, e3, e4, e5, e6⟩ := core_sp (d1 := d + 1) hW hL hC (show d < k by omega) 1 x2 hx (fun y => absurd y ne10) (fun _ => nI_1 _)
      exact ⟨b, d', go', c', m', e1, e2, e3, e4, by omega, e6⟩
