/-! fractions as both tell them; far, safe, rule, point -/
theorem gcd_step {a b : Nat} : Nat.gcd a b = Nat.gcd b (a % b) := by
  rw [Nat.gcd_comm a b, Nat.gcd_rec b a, Nat.gcd_comm]
theorem lne0 {b : Nat} (h0 : 0 < b) (h : b < 2 ^ 63) : ¬ lN b = 0 := fun q => by
  have := (pk_lEQ (a := b) (b := 0) h (by decide)).mp q
  omega
theorem gcd_loop : ∀ (f i a b : Nat), a < 2 ^ 62 → b + i ≤ 99 → b < f → LX2_commonDivisor_9 f (lN a) (lN b) (nI i) = some (lN (Nat.gcd a b)) := by
  intro f
  induction f with
  | zero => intro i a b h1 h2 h3; omega
  | succ f ih =>
    intro i a b h1 h2 h3
    rw [LX2_commonDivisor_9]
    unfold BX2_commonDivisor_9
    rw [if_neg (show ¬ (100 : Int32) ≤ nI i from nI_ge (show i < 100 by omega) (by decide))]
    by_cases hb : b = 0
    · subst hb
      rw [if_pos (show lN 0 = 0 from rfl), Nat.gcd_zero_right]
    · have hm := Nat.mod_lt a (show 0 < b by omega)
      rw [if_neg (lne0 (by omega) (by omega)), gNl_pos (lne0 (by omega) (by omega)), pk_lRem (by omega) (by omega) (by omega), bL_eq, bI_eq, nI_1, gcd_step]
      exact ih (i + 1) b (a % b) (by omega) (by omega) (by omega)
def told (a b : Nat) (w : Int32) : Int64 := if w = 0 then lN (a / Nat.gcd a b) else lN (b / Nat.gcd a b)
def tst (σ : St) (a b : Nat) : St := sL (sL σ 0 (lN (a / Nat.gcd a b))) 1 (lN (b / Nat.gcd a b))
theorem set_sp {a b : Nat} (ha : a < 2 ^ 62) (h0 : 1 ≤ b) (hb : b ≤ 99) (σ : St) : fX2_set (lN a) (lN b) σ = some (tst σ a b) := by
  have hg := Nat.gcd_pos_of_pos_right a (show 0 < b by omega)
  have hl := Nat.le_of_dvd (show 0 < b by omega) (Nat.gcd_dvd_right a b)
  unfold fX2_set fX2_commonDivisor
  rw [show LX2_commonDivisor_9 fu (lN a) (lN b) 0 = some (lN (Nat.gcd a b)) from gcd_loop fu 0 a b ha (by omega) (by unfold fu; omega), bd_e, if_pos (show (0 : Int64) < lN (Nat.gcd a b) from (pk_lLT (a := 0) (by decide) (by omega)).mpr hg), gNl_pos (lne0 hg (by omega)), bS_eq, gNl_pos (lne0 hg (by omega)), bS_eq, pk_lDiv (by omega) hg (by omega), pk_lDiv (by omega) hg (by omega)]
  rfl
theorem term_sp (σ : St) (a b : Nat) (w : Int32) : fX2_term w (tst σ a b) = some (told a b w) := by
  unfold fX2_term told
  by_cases h : w = 0
  · rw [if_pos h, if_pos h]; rfl
  · rw [if_neg h, if_neg h]; rfl
theorem part_loop {A B : Nat} (hA : A < 2 ^ 62) (hB : B < 2 ^ 62) (w : Int32) : ∀ (f a b : Nat), a < 2 ^ 62 → b < f → b < 2 ^ 62 → 0 < Nat.gcd a b → Nat.gcd a b < 2 ^ 62 → LX11_part_6 f (lN A) (lN B) w (lN a) (lN b) = some (if w = 0 then lN (A / Nat.gcd a b) else lN (B / Nat.gcd a b)) := by
  intro f
  induction f with
  | zero => intro a b h1 h2; omega
  | succ f ih =>
    intro a b h1 h2 h3 h4 h5
    rw [LX11_part_6]
    unfold BX11_part_6
    by_cases hb : b = 0
    · subst hb
      rw [Nat.gcd_zero_right] at h4 h5
      rw [if_pos (show lN 0 = 0 from rfl), Nat.gcd_zero_right]
      unfold BX11_part_31
      rw [gNl_pos (lne0 h4 (by omega)), gNl_pos (lne0 h4 (by omega)), pk_lDiv (by omega) h4 (by omega), pk_lDiv (by omega) h4 (by omega)]
      split <;> rfl
    · have hm := Nat.mod_lt a (show 0 < b by omega)
      rw [gcd_step] at h4 h5
      rw [if_neg (lne0 (by omega) (by omega)), gNl_pos (lne0 (by omega) (by omega)), pk_lRem (by omega) (by omega) (by omega), bL_eq, gcd_step]
      exact ih b (a % b) (by omega) (by omega) (by omega) h4 h5
theorem part_sp {a b : Nat} (ha : a < 2 ^ 62) (h0 : 1 ≤ b) (hb : b ≤ 4000) (w : Int32) : fX11_part (lN a) (lN b) w = some (told a b w) := by
  have hg := Nat.gcd_pos_of_pos_right a (show 0 < b by omega)
  have hl := Nat.le_of_dvd (show 0 < b by omega) (Nat.gcd_dvd_right a b)
  unfold fX11_part told
  exact part_loop ha (by omega) w fu a b ha (by unfold fu; omega) (by omega) hg (by omega)
/-- minutes of a PART out, for mm that share a light; 0 asks for none -/
def ou (F : Nat → Nat → Nat) (mm p : Nat) : Nat := if mm = 0 then 0 else if mm = 1 then F p 1 else (mm - 1) * F p 2
theorem ou_le {k : Nat} {F : Nat → Nat → Nat} {c m : St} (h : Cv k F c m) {mm p : Nat} (hp : p < k) (hm : mm ≤ 4) : ou F mm p ≤ 27 := by
  obtain ⟨b1, -⟩ := h.2.2.2 p hp
  unfold ou
  split
  · omega
  · split
    · omega
    · have : (mm - 1) * F p 2 ≤ 3 * 9 := Nat.mul_le_mul (by omega) (by omega)
      omega
theorem outM_sp {k : Nat} {F : Nat → Nat → Nat} {c m : St} (h : Cv k F c m) {mm p : Nat} (hp : p < k) (h1 : 1 ≤ mm) (hm : mm ≤ 4) : fX1_outMinutes (nI p) (nI mm) c = some (nI (ou F mm p)) := by
  unfold fX1_outMinutes ou
  rw [if_neg (show ¬ mm = 0 by omega)]
  by_cases e : mm = 1
  · subst e
    rw [if_neg (show ¬ (1 : Int32) < nI 1 by decide), if_pos rfl, show (1 : Int32) = nI 1 from rfl, figure_n h hp (by decide), bd_e]
  · rw [if_pos (show (1 : Int32) < nI mm from nI_lt (a := 1) (by omega) (by omega)), if_neg e, show (2 : Int32) = nI 2 from rfl, figure_n h hp (by decide), bd_e, show nI mm - 1 = nI (mm - 1) from pk_sub (b := 1) h1, pk_mul]
theorem inM_sp {k : Nat} {F : Nat → Nat → Nat} {c m : St} (h : Cv k F c m) {p : Nat} (hp : p < k) : fX1_inMinutes (nI p) c = some (nI (F p 0)) := by
  unfold fX1_inMinutes
  rw [show (0 : Int32) = nI 0 from rfl, figure_n h hp (by decide), bd_e]
theorem tab_sp {k : Nat} {F : Nat → Nat → Nat} {c m : St} (h : Cv k F c m) {mm p : Nat} (hp : p < k) (hm : mm ≤ 4) : fX1_thereAndBack (nI p) (nI mm) c = some (nI (F p 0 + ou F mm p)) := by
  unfold fX1_thereAndBack
  by_cases e : mm = 0
  · subst e
    rw [if_pos (show nI 0 = (0 : Int32) from rfl), inM_sp h hp, bd_e, show (0 : Int32) = nI 0 from rfl, nI_add]
    rfl
  · rw [if_neg (nI_ne0 (by omega) (by omega)), outM_sp h hp (by omega) hm, bd_e, inM_sp h hp, bd_e, nI_add]
theorem tab_e {k : Nat} {F : Nat → Nat → Nat} {c m : St} (h : Cv k F c m) {mm p : Nat} (hp : k ≤ p) (hp2 : p < 2 ^ 31) (hm : mm ≤ 4) : fX1_thereAndBack (nI p) (nI mm) c = some 0 := by
  unfold fX1_thereAndBack fX1_inMinutes fX1_outMinutes
  simp only [figure_e h hp hp2, bd_e]
  split
  · rfl
  · split
    · rw [bd_e, Int32.mul_zero]; rfl
    · rfl
theorem outBy_sp {k : Nat} {F : Nat → Nat → Nat} {c m : St} (h : Cv k F c m) {mm p : Nat} (hp : p < k) (h1 : 1 ≤ mm) (hm : mm ≤ 4) : fX11_outBy (nI p) (nI mm) m = some (nI (ou F mm p)) := by
  obtain ⟨b1, b2, b3, b4⟩ := h.2.2.2 p hp
  have hk := h.1
  unfold fX11_outBy ou
  rw [if_neg (show ¬ mm = 0 by omega), show (3 : Int32) * nI p + 1 = nI (3 * p + 1) from idx_n 3 p 1, show (3 : Int32) * nI p + 2 = nI (3 * p + 2) from idx_n 3 p 2, gI_n (show 3 * p + 1 < 48 by omega) (by decide), gI_n (show 3 * p + 2 < 48 by omega) (by decide), cl_n (by omega), cl_n (by omega), b3 1 (by decide), b3 2 (by decide)]
  by_cases e : mm = 1
  · subst e
    rw [if_pos (show nI 1 = (1 : Int32) from rfl), if_pos rfl]
  · rw [if_neg (show ¬ nI mm = (1 : Int32) from ne_n (b := 1) e (by omega) (by decide)), if_neg e, show nI mm - 1 = nI (mm - 1) from pk_sub (b := 1) h1, pk_mul]
/-- how far: the place as a fraction -/
def rea (co : Nat → Nat) : Nat → Nat → Nat → Nat × Nat
  | 0, p, _ => (p, 1)
  | d + 1, p, rest => if co p ≤ rest then rea co d (p + 1) (rest - co p) else (p * co p + rest, co p)
theorem rea_bd {co : Nat → Nat} {k : Nat} (hk : k ≤ 16) (hco : ∀ p, p < k → 1 ≤ co p ∧ co p ≤ 99) : ∀ (d p rest : Nat), p + d = k → rest ≤ 9999 → (rea co d p rest).1 < 2 ^ 20 ∧ 1 ≤ (rea co d p rest).2 ∧ (rea co d p rest).2 ≤ 99 := by
  intro d
  induction d with
  | zero => intro p rest h1 h2; refine ⟨?_, ?_, ?_⟩ <;> simp only [rea] <;> omega
  | succ d ih =>
    intro p rest h1 h2
    have := hco p (by omega)
    rw [rea]
    split
    · exact ih _ _ (by omega) (by omega)
    · have : p * co p ≤ 16 * 99 := Nat.mul_le_mul (by omega) (by omega)
      refine ⟨?_, ?_, ?_⟩ <;> simp only <;> omega
theorem reach_loop {k : Nat} {F : Nat → Nat → Nat} {c m : St} (h : Cv k F c m) {r mm : Nat} (hm : mm ≤ 4) (hco : ∀ p, p < k → 1 ≤ r * (F p 0 + ou F mm p) ∧ r * (F p 0 + ou F mm p) ≤ 99) (hr : r < 10) : ∀ (f d p rest : Nat), p + d = k → rest ≤ 999 → d < f → LX1_reach_7 f c (nI r) (nI mm) (lN rest) (nI p) = some (tst c (rea (fun p => r * (F p 0 + ou F mm p)) d p rest).1 (rea (fun p => r * (F p 0 + ou F mm p)) d p rest).2) := by
  intro f
  induction f with
  | zero => intro d p rest h1 h2 h3; omega
  | succ f ih =>
    intro d p rest h1 h2 h3
    have hk := h.1
    rw [LX1_reach_7]
    unfold BX1_reach_7
    rw [h.2.1]
    cases d with
    | zero =>
      rw [if_pos (nI_le (by omega) (by omega))]
      unfold BX1_reach_67
      rw [h.2.1, nI_l (by omega), show (1 : Int64) = lN 1 from rfl, set_sp (by omega) (by decide) (by decide), bd_e]
      rw [show p = k by omega]
      rfl
    | succ d =>
      have hc := hco p (by omega)
      have ho := ou_le h (show p < k by omega) hm
      obtain ⟨b1, -⟩ := h.2.2.2 p (by omega)
      rw [if_neg (nI_ge (show p < k by omega) (by omega)), tab_sp h (by omega) hm, bd_e, bL_eq, nI_l (by omega), nI_l (by omega), lN_mul, rea]
      by_cases q : r * (F p 0 + ou F mm p) ≤ rest
      · rw [if_pos ((pk_lLE (by omega) (by omega)).mpr q), if_pos q, bL_eq, bI_eq, lN_sub q, nI_1]
        exact ih d (p + 1) _ (by omega) (by omega) (by omega)
      · rw [if_neg (fun z => q ((pk_lLE (by omega) (by omega)).mp z)), if_neg q]
        unfold BX1_reach_38
        have hx : p * (r * (F p 0 + ou F mm p)) ≤ 16 * 99 := Nat.mul_le_mul (by omega) (by omega)
        rw [nI_l (by omega), lN_mul, lN_add, set_sp (by omega) hc.1 hc.2, bd_e]
theorem reach_sp {k : Nat} {F : Nat → Nat → Nat} {c m : St} (h : Cv k F c m) {r mm : Nat} (hm : mm ≤ 4) (hco : ∀ p, p < k → 1 ≤ r * (F p 0 + ou F mm p) ∧ r * (F p 0 + ou F mm p) ≤ 99) (hr : r < 10) {rest : Nat} (h2 : rest ≤ 999) : fX1_reach (nI rest) (nI r) (nI mm) c = some (tst c (rea (fun p => r * (F p 0 + ou F mm p)) k 0 rest).1 (rea (fun p => r * (F p 0 + ou F mm p)) k 0 rest).2) := by
  unfold fX1_reach
  rw [bL_eq, nI_l (by omega)]
  exact reach_loop h hm hco hr fu k 0 rest (by omega) h2 (by have := h.1; unfold fu; omega)
theorem co1 {k : Nat} {F : Nat → Nat → Nat} {c m : St} (h : Cv k F c m) {mm : Nat} (hm : mm ≤ 4) : ∀ p, p < k → 1 ≤ 1 * (F p 0 + ou F mm p) ∧ 1 * (F p 0 + ou F mm p) ≤ 99 := by
  intro p hp
  have ho := ou_le h hp hm
  obtain ⟨b1, -⟩ := h.2.2.2 p hp
  omega
theorem cor {k : Nat} {F : Nat → Nat → Nat} {c m : St} (h : Cv k F c m) {r : Nat} (h1 : 1 ≤ r) (hr : r < 10) : ∀ p, p < k → 1 ≤ r * (F p 0 + ou F 0 p) ∧ r * (F p 0 + ou F 0 p) ≤ 99 := by
  intro p hp
  obtain ⟨b1, -⟩ := h.2.2.2 p hp
  have e : ou F 0 p = 0 := rfl
  rw [e]
  have := Nat.mul_le_mul (show r ≤ 9 by omega) (show F p 0 + 0 ≤ 9 by omega)
  have := Nat.mul_le_mul h1 (show 1 ≤ F p 0 + 0 by omega)
  omega
theorem told_1 (k : Nat) (w : Int32) : told k 1 w = if w = 0 then lN k else 1 := by
  unfold told
  rw [Nat.gcd_one_right, Nat.div_one]
  rfl
theorem place_loop {k : Nat} {F : Nat → Nat → Nat} {c m : St} (h : Cv k F c m) {mm : Nat} (h0 : 1 ≤ mm) (hm : mm ≤ 4) (w : Int32) : ∀ (f d p rest : Nat), p + d = k → rest ≤ 999 → d < f → LX11_placeOf_6 m f (nI mm) w (nI rest) (nI p) = some (told (rea (fun p => 1 * (F p 0 + ou F mm p)) d p rest).1 (rea (fun p => 1 * (F p 0 + ou F mm p)) d p rest).2 w) := by
  intro f
  induction f with
  | zero => intro d p rest h1 h2 h3; omega
  | succ f ih =>
    intro d p rest h1 h2 h3
    have hk := h.1
    rw [LX11_placeOf_6]
    unfold BX11_placeOf_6
    rw [h.2.2.1]
    cases d with
    | zero =>
      rw [if_pos (nI_le (by omega) (by omega))]
      unfold BX11_placeOf_73
      rw [h.2.2.1, nI_l (by omega), rea, told_1, show p = k by omega]
      split <;> rfl
    | succ d =>
      have ho := ou_le h (show p < k by omega) hm
      obtain ⟨b1, b2, b3, b4⟩ := h.2.2.2 p (by omega)
      rw [if_neg (nI_ge (show p < k by omega) (by omega)), show (3 : Int32) * nI p = nI (3 * p) from pk_mul 3 p, gI_n (show 3 * p < 48 by omega) (by decide), outBy_sp h (by omega) h0 hm, bd_e, cl_n (by omega), show m.2.2 7 (3 * p) = nI (F p 0) from b3 0 (by decide), nI_add, bI_eq, rea, Nat.one_mul]
      by_cases q : F p 0 + ou F mm p ≤ rest
      · rw [if_pos (nI_le q (by omega)), if_pos q, bI_eq, bI_eq, pk_sub q, nI_1]
        exact ih d (p + 1) _ (by omega) (by omega) (by omega)
      · rw [if_neg (nI_ge (show rest < F p 0 + ou F mm p by omega) (by omega)), if_neg q]
        unfold BX11_placeOf_41
        have hx : p * (F p 0 + ou F mm p) ≤ 16 * 99 := Nat.mul_le_mul (by omega) (by omega)
        rw [nI_l (by omega), nI_l (by omega), nI_l (by omega), lN_mul, lN_add, part_sp (by omega) (by omega) (by omega), bd_e]
theorem place_sp {k : Nat} {F : Nat → Nat → Nat} {c m : St} (h : Cv k F c m) {mm : Nat} (h0 : 1 ≤ mm) (hm : mm ≤ 4) (w : Int32) {rest : Nat} (h2 : rest ≤ 999) : fX11_placeOf (nI rest) (nI mm) w m = some (told (rea (fun p => 1 * (F p 0 + ou F mm p)) k 0 rest).1 (rea (fun p => 1 * (F p 0 + ou F mm p)) k 0 rest).2 w) :=
  place_loop h h0 hm w fu k 0 rest (by omega) h2 (by have := h.1; unfold fu; omega)
theorem SameC.tst {c : St} (a b : Nat) : SameC c (tst c a b) := ⟨fun _ _ => rfl, fun _ _ _ => rfl⟩
theorem lampG {c m : St} (h : Rel c m) : ∃ g w, RLm g w c m := h.2.1
theorem goer_c {c m : St} {g : Nat} {w : Nat → Nat} (h : RLm g w c m) (a : Int32) : fX10_isGoer a c = some (if 0 ≤ a.toInt ∧ a.toInt ≤ (g : Int) - 1 then 1 else 0) := by
  have h2 := h.2.1
  unfold fX10_isGoer fX3_party
  rw [bd_e, within_sp, bd_e, gB_if, h.2.2.1, show (nI g - 1).toInt = (g : Int) - 1 from pk_sub_toInt (a := g) (b := 1) (by omega) (by decide)]
  rfl
theorem goer_m {c m : St} {g : Nat} {w : Nat → Nat} (h : RLm g w c m) (a : Int32) : fX11_isGoer a m = some (if 0 ≤ a.toInt ∧ a.toInt ≤ (g : Int) - 1 then 1 else 0) := by
  have h2 := h.2.1
  unfold fX11_isGoer
  rw [in_sp, bd_e, gB_if, i_64, i_64, h.2.2.2.1, show (nI g - 1).toInt = (g : Int) - 1 from pk_sub_toInt (a := g) (b := 1) (by omega) (by decide)]
  rfl
theorem mayFail_m {c m : St} {g : Nat} {w : Nat → Nat} (h : RLm g w c m) (a : Int32) : fX11_mayFail a m = some (if 0 ≤ a.toInt ∧ a.toInt ≤ (g : Int) - 1 then 1 else 0) := goer_m h a
/-- the least of the lamps -/
def ml (w : Nat → Nat) : Nat → Nat → Nat → Nat
  | 0, _, x => x
  | d + 1, i, x => ml w d (i + 1) (min x (w i))
theorem ml_le {w : Nat → Nat} : ∀ (d i x : Nat), x ≤ 999 → ml w d i x ≤ 999 := by
  intro d
  induction d with
  | zero => intro i x h; exact h
  | succ d ih => intro i x h; exact ih _ _ (by omega)
theorem leastC_loop {c m : St} {g : Nat} {w : Nat → Nat} (h : RLm g w c m) : ∀ (f d i x : Nat), i + d = g → d < f → x ≤ 999 → LX3_leastBurn_8 c f (nI x) (nI i) = some (nI (ml w d i x)) := by
  intro f
  induction f with
  | zero => intro d i x h1 h2; omega
  | succ f ih =>
    intro d i x h1 h2 h3
    obtain ⟨g1, g2, g3, g4, g5⟩ := id h
    rw [LX3_leastBurn_8]
    unfold BX3_leastBurn_8
    rw [g3]
    cases d with
    | zero => rw [if_pos (nI_le (by omega) (by omega))]; rfl
    | succ d =>
      have := g5 i (by omega)
      rw [if_neg (nI_ge (show i < g by omega) (by omega)), burns_n (by omega), bd_e, this.2.1, bI_eq, bI_eq, nI_1, show (if nI (w i) < nI x then nI (w i) else nI x) = nI (min x (w i)) by
        by_cases q : w i < x
        · rw [if_pos (nI_lt q (by omega)), Nat.min_eq_right (by omega)]
        · rw [if_neg (nI_nlt (by omega) (by omega)), Nat.min_eq_left (by omega)]]
      exact ih d (i + 1) _ (by omega) (by omega) (by omega)
theorem leastM_loop {c m : St} {g : Nat} {w : Nat → Nat} (h : RLm g w c m) : ∀ (f d i x : Nat), i + d = g → d < f → x ≤ 999 → LX11_leastLamp_9 m f (nI x) (nI i) = some (nI (ml w d i x)) := by
  intro f
  induction f with
  | zero => intro d i x h1 h2; omega
  | succ f ih =>
    intro d i x h1 h2 h3
    obtain ⟨g1, g2, g3, g4, g5⟩ := id h
    rw [LX11_leastLamp_9]
    unfold BX11_leastLamp_9
    rw [g4]
    cases d with
    | zero => rw [if_pos (nI_le (by omega) (by omega))]; rfl
    | succ d =>
      have := g5 i (by omega)
      rw [if_neg (nI_ge (show i < g by omega) (by omega)), gI_n (show i < 4 by omega) (by decide), cl_n (by omega), this.2.2]
      unfold fX11_lesser
      by_cases q : w i ≤ x
      · rw [if_pos (nI_le q (by omega)), bd_e, bI_eq, nI_1]
        have := ih d (i + 1) (min x (w i)) (by omega) (by omega) (by omega)
        rw [Nat.min_eq_right q] at this
        rw [ml, Nat.min_eq_right q]
        exact this
      · rw [if_neg (nI_ge (show x < w i by omega) (by omega)), bd_e, bI_eq, nI_1]
        have := ih d (i + 1) (min x (w i)) (by omega) (by omega) (by omega)
        rw [Nat.min_eq_left (by omega)] at this
        rw [ml, Nat.min_eq_left (by omega)]
        exact this
theorem least_c {c m : St} {g : Nat} {w : Nat → Nat} (h : RLm g w c m) : fX3_leastBurn c = some (nI (ml w (g - 1) 1 (w 0))) := by
  have h5 := h.2.2.2.2 0 (by decide)
  have h1 := h.1
  have h2 := h.2.1
  unfold fX3_leastBurn
  rw [show fX3_burns 0 c = some (c.2.2 9 0) from burns_n (i := 0) (by decide), bd_e, h5.2.1]
  exact leastC_loop h fu (g - 1) 1 _ (by omega) (by unfold fu; omega) h5.1
theorem least_m {c m : St} {g : Nat} {w : Nat → Nat} (h : RLm g w c m) : fX11_leastLamp m = some (nI (ml w (g - 1) 1 (w 0))) := by
  have h5 := h.2.2.2.2 0 (by decide)
  have h1 := h.1
  have h2 := h.2.1
  unfold fX11_leastLamp
  rw [show ∀ {α : Type} (k : Option α), gIn (0 : Int32) 4 k = k from fun k => gI_n (n := 0) (by decide) (by decide), bI_eq, z_cl.1, h5.2.2]
  exact leastM_loop h fu (g - 1) 1 _ (by omega) (by unfold fu; omega) h5.1
theorem toL_bd {g v : Nat} (h1 : 1 ≤ g) (h2 : g ≤ 4) (h3 : 1 ≤ v) : 1 ≤ (g + v - 1) / v ∧ (g + v - 1) / v ≤ 4 := by
  constructor
  · rw [Nat.le_div_iff_mul_le h3]; omega
  · exact Nat.div_le_of_le_mul (by omega)
theorem toL_c {c m : St} {g v : Nat} {w : Nat → Nat} (h : RLm g w c m) (h1 : 1 ≤ v) (h2 : v ≤ 4) : fX3_toALight (nI v) c = some (nI ((g + v - 1) / v)) := by
  have := h.2.1
  unfold fX3_toALight
  rw [if_pos (show (0 : Int32) < nI v from nI_lt (a := 0) (by omega) (by omega)), gNz_pos (nI_ne0 h1 (by omega)), h.2.2.1, nI_add, show nI (g + v) - 1 = nI (g + v - 1) from pk_sub (b := 1) (by omega), pk_div (by omega) h1 (by omega)]
theorem toL_m {c m : St} {g v : Nat} {w : Nat → Nat} (h : RLm g w c m) (h1 : 1 ≤ v) (h2 : v ≤ 4) : fX11_toLight (nI v) m = some (nI ((g + v - 1) / v)) := by
  have := h.2.1
  unfold fX11_toLight
  rw [gNz_pos (nI_ne0 h1 (by omega)), h.2.2.2.1, nI_add, show nI (g + v) - 1 = nI (g + v - 1) from pk_sub (b := 1) (by omega), pk_div (by omega) h1 (by omega)]
/-- the reference has read its texts -/
def Rd (c m : St) : Prop := ∃ k n F t, Cv k F c m ∧ Pv n t c m
theorem far_rd (a0 a1 : Int32) {c m : St} (h : Rel c m) : ∃ (r : Int64) (c1 : St) (m1 : St), fX10_far a0 a1 c = some (r, c1) ∧ fX11_far a0 a1 m = some (r, m1) ∧ Rel c1 m1 ∧ Rd c1 m1 ∧ SameC c c1 ∧ c1.2.2 = c.2.2 := by
  obtain ⟨m1, k, n, F, t, e1, e2, e3, e4⟩ := reads_sp h
  have hR := h.same SameC.rf e2.same
  have hD : Rd c m1 := ⟨k, n, F, t, e3, e4⟩
  obtain ⟨g, w, hL⟩ := hR.2.1
  obtain ⟨g1, g2, g3, g4, g5⟩ := id hL
  unfold fX10_far fX11_far
  simp only [e1, bd_e, goer_c hL, goer_m hL, within_sp, isTwo_sp, ite10, lit_ti]
  by_cases v0 : 0 ≤ a0.toInt ∧ a0.toInt ≤ (g : Int) - 1
  · rw [if_pos v0, if_pos v0]
    by_cases v1 : 0 ≤ a1.toInt ∧ a1.toInt ≤ 1
    · rw [if_pos v1, if_pos v1]
      obtain ⟨p, -, hp, rfl⟩ := i_rg (a := a0) (lo := 0) (hi := 3) v0.1 (by omega)
      have g6 := g5 p (by omega)
      rw [burns_n (by omega), bd_e, g6.2.1, gI_n (show p < 4 by omega) (by decide), cl_n (by omega), g6.2.2, show (1 : Int32) = nI 1 from rfl, reach_sp e3 (by decide) (co1 e3 (by decide)) (by decide) g6.1, bd_e, term_sp, bd_e, place_sp e3 (by decide) (by decide) a1 g6.1, bd_e]
      exact ⟨_, _, _, rfl, rfl, hR.same (SameC.tst _ _) SameM.rf, hD, SameC.tst _ _, rfl⟩
    · rw [if_neg v1, if_neg v1]
      exact ⟨_, _, _, rfl, rfl, hR, hD, SameC.rf, rfl⟩
  · rw [if_neg v0, if_neg v0]
    exact ⟨_, _, _, rfl, rfl, hR, hD, SameC.rf, rfl⟩
theorem sim_far (a0 a1 : Int32) {c m : St} (h : Rel c m) : ∃ (r : Int64) (c1 : St) (m1 : St), fX10_far a0 a1 c = some (r, c1) ∧ fX11_far a0 a1 m = some (r, m1) ∧ Rel c1 m1 := by
  obtain ⟨r, c1, m1, e1, e2, e3, -⟩ := far_rd a0 a1 h
  exact ⟨r, c1, m1, e1, e2, e3⟩
