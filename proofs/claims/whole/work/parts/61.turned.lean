/-! turned -/
theorem sm_mono (F : Nat → Nat → Nat) (s : Nat) {i b : Nat} (h : i ≤ b) : sm F s i ≤ sm F s b := by
  induction h with
  | refl => exact Nat.le_refl _
  | step _ ih => exact Nat.le_trans ih (Nat.le_add_right _ _)
theorem btw_loop {k : Nat} {F : Nat → Nat → Nat} {c m : St} (h : Cv k F c m) {s b : Nat} (hs : s < 3) (hb : b ≤ k) : ∀ (f i a : Nat), i ≤ b → b < f + i → LX11_between_6 m f (nI b) (nI s) (nI a) (nI i) = some (nI (a + (sm F s b - sm F s i))) := by
  intro f
  induction f with
  | zero => intro i a h1 h2; omega
  | succ f ih =>
    intro i a h1 h2
    have hk := h.1
    rw [LX11_between_6]
    unfold BX11_between_6
    by_cases q : i = b
    · subst q
      rw [if_pos (nI_le (by omega) (by omega)), Nat.sub_self, Nat.add_zero]
    · obtain ⟨b1, b2, b3, b4⟩ := h.2.2.2 i (by omega)
      have e1 : sm F s (i + 1) = sm F s i + F i s := rfl
      have e2 := sm_mono F s (show i + 1 ≤ b by omega)
      rw [if_neg (nI_ge (show i < b by omega) (by omega)), show (3 : Int32) * nI i + nI s = nI (3 * i + s) from idx_n 3 i s, gI_n (show 3 * i + s < 48 by omega) (by decide), cl_n (by omega), b3 s hs, nI_add, nI_1, bI_eq, bI_eq, ih (i + 1) _ (by omega) (by omega), show a + F i s + (sm F s b - sm F s (i + 1)) = a + (sm F s b - sm F s i) by omega]
theorem btw_sp {k : Nat} {F : Nat → Nat → Nat} {c m : St} (h : Cv k F c m) {s b i : Nat} (hs : s < 3) (hb : b ≤ k) (hi : i ≤ b) : fX11_between (nI i) (nI b) (nI s) m = some (nI (sm F s b - sm F s i)) := by
  have e := btw_loop h hs hb fu i 0 hi (by have := h.1; unfold fu; omega)
  rw [Nat.zero_add] at e
  exact e
def till (F : Nat → Nat → Nat) (pl wy d : Nat) : Int32 := if wy = 0 then nI (sm F 0 pl) else nI (sm F 0 d) + nI (sm F 1 d - sm F 1 pl)
def cok (F : Nat → Nat → Nat) (w pl ow re wy : Nat → Nat) (d i : Nat) : Bool := decide (pl i ≤ d ∧ nI (re i) = nI (w (ow i)) - till F (pl i) (wy i) d)
def okb (P : Nat → Bool) : Nat → Nat → Bool
  | 0, _ => true
  | e + 1, i => P i && okb P e (i + 1)
theorem till_sp {k n : Nat} {F : Nat → Nat → Nat} {pl ow re wy : Nat → Nat} {c m : St} (h : Cv k F c m) (hK : RK n pl ow re wy c m) {i d : Nat} (hi : i < n) (hd : d ≤ k) (hp : pl i ≤ d) : fX0_minutesTill (nI i) (nI d) c = some (till F (pl i) (wy i) d) := by
  obtain ⟨k1, k2, k3, k4⟩ := hK
  obtain ⟨p1, p2, p3, p4, p5, p6, p7, p8, -⟩ := k4 i hi
  unfold fX0_minutesTill till
  rw [gI_n (show i < 6 by omega) (by decide), gI_n (show i < 6 by omega) (by decide), cl_n (by omega), p5, p8]
  have e0 : fX1_sum 0 (nI (pl i)) c = _ := sum_sp h (s := 0) (by decide) (show pl i ≤ k by omega)
  have e1 : fX1_sum 1 (nI (pl i)) c = _ := sum_sp h (s := 1) (by decide) (show pl i ≤ k by omega)
  have e2 : fX1_sum 0 (nI d) c = _ := sum_sp h (s := 0) (by decide) hd
  have e3 : fX1_sum 1 (nI d) c = _ := sum_sp h (s := 1) (by decide) hd
  by_cases z : wy i = 0
  · rw [z, if_pos (show nI 0 = (0 : Int32) from rfl), if_pos rfl, e0, bd_e]
  · rw [if_neg (nI_ne0 (by omega) (by omega)), if_neg z, e3, bd_e, gI_n (show i < 6 by omega) (by decide), e1, bd_e, bI_eq, e2, bd_e, pk_sub (sm_mono F 1 hp)]
theorem allow_loop {k n g : Nat} {F : Nat → Nat → Nat} {w pl ow re wy : Nat → Nat} {c m : St} (h : Cv k F c m) (hK : RK n pl ow re wy c m) (hL : RLm g w c m) {d : Nat} (hd : d ≤ k) : ∀ (f e i : Nat), i + e = n → e < f → LX0_allow_3 c f (nI d) (nI i) = some (if okb (cok F w pl ow re wy d) e i = true then 1 else 0) := by
  intro f
  induction f with
  | zero => intro e i h1 h2; omega
  | succ f ih =>
    intro e i h1 h2
    have hk := h.1
    obtain ⟨k1, k2, k3, k4⟩ := id hK
    rw [LX0_allow_3]
    unfold BX0_allow_3
    rw [k2]
    cases e with
    | zero => rw [if_pos (nI_le (by omega) (by omega))]; rfl
    | succ e =>
      obtain ⟨p1, p2, p3, p4, p5, p6, p7, p8, -⟩ := k4 i (by omega)
      have g5 := hL.2.2.2.2 (ow i) (by omega)
      rw [if_neg (nI_ge (show i < n by omega) (by omega)), gI_n (show i < 6 by omega) (by decide), cl_n (by omega), p5, p6, p7, gI_n (show i < 6 by omega) (by decide), gI_n (show i < 6 by omega) (by decide), okb]
      by_cases q : pl i ≤ d
      · rw [if_neg (nI_nlt q (by omega)), burns_n (by omega), bd_e, till_sp h hK (by omega) hd q, bd_e, g5.2.1]
        by_cases q2 : nI (re i) = nI (w (ow i)) - till F (pl i) (wy i) d
        · rw [if_pos q2, bI_eq, nI_1, ih e (i + 1) (by omega) (by omega), show cok F w pl ow re wy d i = true from decide_eq_true ⟨q, q2⟩, Bool.true_and]
        · rw [if_neg q2, show cok F w pl ow re wy d i = false from decide_eq_false (fun y => q2 y.2), Bool.false_and]
          rfl
      · rw [if_pos (nI_lt (by omega) (by omega)), show cok F w pl ow re wy d i = false from decide_eq_false (fun y => q y.1), Bool.false_and]
        rfl
theorem isSo_sp {k n g : Nat} {F : Nat → Nat → Nat} {w pl ow re wy : Nat → Nat} {c m : St} (h : Cv k F c m) (hK : RK n pl ow re wy c m) (hL : RLm g w c m) {d i : Nat} (hd : d ≤ k) (hi : i < n) : fX11_isSo (nI i) (nI d) m = some (if cok F w pl ow re wy d i = true then 1 else 0) := by
  have hk := h.1
  obtain ⟨k1, k2, k3, k4⟩ := id hK
  obtain ⟨p1, p2, p3, p4, -, -, -, -, p5, p6, p7, p8⟩ := k4 i hi
  have g5 := hL.2.2.2.2 (ow i) (by omega)
  unfold fX11_isSo
  rw [show (4 : Int32) * nI i = nI (4 * i) from pk_mul 4 i, show nI (4 * i) + 1 = nI (4 * i + 1) from nI_add _ 1, show nI (4 * i) + 3 = nI (4 * i + 3) from nI_add _ 3, gI_n (show 4 * i < 24 by omega) (by decide), cl_n (by omega), p5, bI_eq, gI_n (show 4 * i + 1 < 24 by omega) (by decide), cl_n (by omega), p6, bI_eq]
  by_cases q : pl i ≤ d
  · have fin : ∀ y : Int32, y = till F (pl i) (wy i) d → BX11_isSo_66 m (nI i) (nI (ow i)) y = some (if cok F w pl ow re wy d i = true then 1 else 0) := by
      intro y hy
      unfold BX11_isSo_66
      rw [gI_n (show ow i < 4 by omega) (by decide), show (4 : Int32) * nI i + 2 = nI (4 * i + 2) from idx_n 4 i 2, gI_n (show 4 * i + 2 < 24 by omega) (by decide), cl_n (by omega), cl_n (by omega), p7, g5.2.2, hy]
      by_cases q2 : nI (w (ow i)) - till F (pl i) (wy i) d = nI (re i)
      · rw [if_pos q2, show cok F w pl ow re wy d i = true from decide_eq_true ⟨q, q2.symm⟩]
        rfl
      · rw [if_neg q2, show cok F w pl ow re wy d i = false from decide_eq_false (fun y => q2 y.2.symm)]
        rfl
    rw [if_pos (nI_le q (by omega)), gI_n (show 4 * i + 3 < 24 by omega) (by decide), cl_n (by omega), p8]
    have e0 : fX11_between 0 (nI (pl i)) 0 m = _ := btw_sp h (s := 0) (i := 0) (by decide) (show pl i ≤ k by omega) (Nat.zero_le _)
    have e1 : fX11_between 0 (nI d) 0 m = _ := btw_sp h (s := 0) (i := 0) (by decide) hd (Nat.zero_le _)
    have e2 : fX11_between (nI (pl i)) (nI d) 1 m = _ := btw_sp h (s := 1) (by decide) hd q
    by_cases z : wy i = 0
    · rw [z, if_pos (show nI 0 = (0 : Int32) from rfl), e0, bd_e]
      exact fin _ (by unfold till; rw [z, if_pos rfl]; rfl)
    · rw [if_neg (nI_ne0 (by omega) (by omega)), e1, bd_e, e2, bd_e]
      exact fin _ (by unfold till; rw [if_neg z]; rfl)
  · rw [if_neg (nI_ge (show d < pl i by omega) (by omega)), show cok F w pl ow re wy d i = false from decide_eq_false (fun y => q y.1)]
    rfl
theorem tn_loop {k n g : Nat} {F : Nat → Nat → Nat} {w pl ow re wy : Nat → Nat} {c m : St} (h : Cv k F c m) (hK : RK n pl ow re wy c m) (hL : RLm g w c m) {d : Nat} (hd : d ≤ k) (k4 : Int32 → Int32 → Option Int32) (x : Int32) : ∀ (f e i : Nat) (fl : Bool), i + e = n → e < f → LX11_turnedNow_17 k4 m f x (nI d) (if fl = true then 1 else 0) (nI i) = BX11_turnedNow_52 k4 m x (nI d) (if (fl && okb (cok F w pl ow re wy d) e i) = true then 1 else 0) := by
  intro f
  induction f with
  | zero => intro e i fl h1 h2; omega
  | succ f ih =>
    intro e i fl h1 h2
    obtain ⟨k1, k2, k3, -⟩ := id hK
    rw [LX11_turnedNow_17]
    unfold BX11_turnedNow_17
    rw [k3]
    cases e with
    | zero => rw [if_pos (nI_le (by omega) (by omega)), okb, Bool.and_true]
    | succ e =>
      rw [if_neg (nI_ge (show i < n by omega) (by omega)), okb]
      cases fl with
      | false =>
        rw [if_pos (show (if false = true then (1 : Int32) else 0) = 0 from rfl), bI_eq, nI_1]
        have := ih e (i + 1) false (by omega) (by omega)
        rw [Bool.false_and] at this ⊢
        exact this
      | true =>
        rw [if_neg (show ¬ (if true = true then (1 : Int32) else 0) = 0 by decide), isSo_sp h hK hL hd (by omega), bd_e, Bool.true_and]
        have := ih e (i + 1) (cok F w pl ow re wy d i) (by omega) (by omega)
        cases hc : cok F w pl ow re wy d i with
        | false =>
          rw [hc] at this
          rw [if_pos (show (if false = true then (1 : Int32) else 0) = 0 from rfl), bI_eq, nI_1]
          exact this
        | true =>
          rw [hc] at this
          rw [if_neg (show ¬ (if true = true then (1 : Int32) else 0) = 0 by decide), bI_eq, nI_1]
          exact this
theorem turned_loop {k n g : Nat} {F : Nat → Nat → Nat} {w pl ow re wy : Nat → Nat} {c m : St} (h : Cv k F c m) (hK : RK n pl ow re wy c m) (hL : RLm g w c m) : ∀ (f d : Nat) (x : Int32), d ≤ k + 1 → k + 1 < f + d → ∃ r, LX10_turned_4 c f x (nI d) = some r ∧ LX11_turnedNow_4 m f x (nI d) = some r := by
  intro f
  induction f with
  | zero => intro d x h1 h2; omega
  | succ f ih =>
    intro d x h1 h2
    have hk := h.1
    obtain ⟨k1, k2, k3, -⟩ := id hK
    rw [LX10_turned_4, LX11_turnedNow_4]
    unfold BX10_turned_4 BX11_turnedNow_4 fX1_size fX0_allow
    rw [bd_e, h.2.1, h.2.2.1]
    by_cases q : d ≤ k
    · have e1 : LX0_allow_3 c fu (nI d) 0 = _ := allow_loop h hK hL q fu n 0 (by omega) (by unfold fu; omega)
      have e2 : LX11_turnedNow_17 (LX11_turnedNow_4 m f) m fu x (nI d) 1 0 = _ := tn_loop h hK hL q (LX11_turnedNow_4 m f) x fu n 0 true (by omega) (by unfold fu; omega)
      rw [if_neg (nI_nlt q (by omega)), if_neg (nI_nlt q (by omega)), e1, e2, bd_e, Bool.true_and]
      unfold BX11_turnedNow_52
      cases okb (cok F w pl ow re wy d) n 0 with
      | false =>
        rw [if_pos (show (if false = true then (1 : Int32) else 0) = 0 from rfl), if_pos (show (if false = true then (1 : Int32) else 0) = 0 from rfl), bI_eq, bI_eq, bI_eq, nI_1, Int32.or_zero]
        exact ih (d + 1) x (by omega) (by omega)
      | true =>
        rw [if_neg (show ¬ (if true = true then (1 : Int32) else 0) = 0 by decide), if_neg (show ¬ (if true = true then (1 : Int32) else 0) = 0 by decide), bI_eq, bI_eq, bI_eq, bI_eq, nI_1]
        exact ih (d + 1) _ (by omega) (by omega)
    · rw [if_pos (nI_lt (by omega) (by omega)), if_pos (nI_lt (by omega) (by omega))]
      exact ⟨_, rfl, rfl⟩
theorem sim_turned {c m : St} (h : Rel c m) : ∃ (r : Int32) (m1 : St), fX10_turned c = some r ∧ fX11_turned m = some (r, m1) ∧ Rel c m1 := by
  obtain ⟨m1, k, n, F, t, e1, e2, e3, e4⟩ := reads_sp h
  have hR := h.same SameC.rf e2.same
  obtain ⟨g, w, hL⟩ := hR.2.1
  obtain ⟨nc, pl, ow, re, wy, hK⟩ := hR.2.2.2.1
  obtain ⟨r, f1, f2⟩ := turned_loop e3 hK hL fu 0 0 (by omega) (by have := e3.1; unfold fu; omega)
  refine ⟨r, m1, f1, ?_, hR⟩
  unfold fX11_turned fX11_turnedNow
  rw [e1, bd_e, show LX11_turnedNow_4 m1 fu 0 0 = some r from f2, bd_e]
