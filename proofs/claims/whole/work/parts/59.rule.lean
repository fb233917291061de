/-! safe, point, rule -/
theorem sim_safe (a0 a1 : Int32) {c m : St} (h : Rel c m) : ∃ (r : Int64) (c1 : St) (m1 : St), fX10_safe a0 a1 c = some (r, c1) ∧ fX11_safe a0 a1 m = some (r, m1) ∧ Rel c1 m1 := by
  obtain ⟨m1, k, n, F, t, e1, e2, e3, e4⟩ := reads_sp h
  have hR := h.same SameC.rf e2.same
  obtain ⟨g, w, hL⟩ := hR.2.1
  obtain ⟨g1, g2, g3, g4, g5⟩ := id hL
  unfold fX10_safe fX11_safe fX11_safeOf fX3_party
  simp only [e1, bd_e, goer_c hL, mayFail_m hL, within_sp, isTwo_sp, ite10, lit_ti]
  by_cases v0 : 0 ≤ a0.toInt ∧ a0.toInt ≤ (g : Int) - 1
  · rw [if_pos v0, if_pos v0]
    by_cases v1 : 0 ≤ a1.toInt ∧ a1.toInt ≤ 1
    · rw [if_pos v1, if_pos v1]
      obtain ⟨p, -, hp, rfl⟩ := i_rg (a := a0) (lo := 0) (hi := 3) v0.1 (by omega)
      rw [i_ti (by omega)] at v0
      have hv := toL_bd (v := g - p) g1 g2 (by omega)
      have hw := ml_le (w := w) (g - 1) 1 (w 0) (g5 0 (by decide)).1
      rw [least_c hL, bd_e, g3, pk_sub (by omega), toL_c hL (by omega) (by omega), bd_e, show (1 : Int32) = nI 1 from rfl, reach_sp e3 hv.2 (co1 e3 hv.2) (by decide) hw, bd_e, term_sp, bd_e, least_m hL, bd_e, g4, pk_sub (by omega), toL_m hL (by omega) (by omega), bd_e, place_sp e3 hv.1 hv.2 a1 hw, bd_e, bd_e]
      exact ⟨_, _, _, rfl, rfl, hR.same (SameC.tst _ _) SameM.rf⟩
    · rw [if_neg v1, if_neg v1]
      exact ⟨_, _, _, rfl, rfl, hR⟩
  · rw [if_neg v0, if_neg v0]
    exact ⟨_, _, _, rfl, rfl, hR⟩
theorem told_mul (p v : Nat) (h : 1 ≤ v) (w : Int32) : told (p * v) v w = told p 1 w := by
  have e : Nat.gcd (p * v) v = v := Nat.gcd_eq_right ⟨p, Nat.mul_comm p v⟩
  unfold told
  rw [e, Nat.gcd_one_right, Nat.div_one, Nat.mul_div_cancel p (by omega), Nat.div_self (by omega)]
theorem rea_0 {co : Nat → Nat} {k : Nat} (hco : ∀ p, p < k → 1 ≤ co p) (d p : Nat) (h : p + d = k) (w : Int32) : told (rea co d p 0).1 (rea co d p 0).2 w = told p 1 w := by
  cases d with
  | zero => rfl
  | succ d =>
    have := hco p (by omega)
    rw [rea, if_neg (by omega), Nat.add_zero]
    exact told_mul p _ this w
theorem point_loop {k : Nat} {F : Nat → Nat → Nat} {c m : St} (h : Cv k F c m) (w : Int32) : ∀ (f d p x y : Nat), p + d = k → y ≤ x → x ≤ 999 → (x - y) + (sm F 0 p + sm F 1 p) = sm F 0 k → (p = 0 ∨ y < x) → d < f → LX11_pointOf_10 m f w (nI x) (nI y) (nI p) = some (told (rea (fun p => 1 * (F p 0 + ou F 1 p)) d p (x - y)).1 (rea (fun p => 1 * (F p 0 + ou F 1 p)) d p (x - y)).2 w) := by
  intro f
  induction f with
  | zero => intro d p x y h1 h2 h3 h4 h5 h6; omega
  | succ f ih =>
    intro d p x y h1 h2 h3 h4 h5 h6
    have hk := h.1
    rw [LX11_pointOf_10]
    unfold BX11_pointOf_10
    rw [h.2.2.1]
    cases d with
    | zero =>
      have e : p = k := by omega
      subst e
      rw [if_pos (nI_le (by omega) (by omega))]
      have e : p = 0 := by omega
      subst e
      unfold BX11_pointOf_103
      rw [rea, told_1]
      split <;> rfl
    | succ d =>
      obtain ⟨b1, b2, b3, b4⟩ := h.2.2.2 p (by omega)
      have eo : ou F 1 p = F p 1 := rfl
      rw [if_neg (nI_ge (show p < k by omega) (by omega)), show (3 : Int32) * nI p = nI (3 * p) from pk_mul 3 p, show nI (3 * p) + 1 = nI (3 * p + 1) from nI_1 _, gI_n (show 3 * p < 48 by omega) (by decide), gI_n (show 3 * p + 1 < 48 by omega) (by decide), gI_n (show 3 * p < 48 by omega) (by decide)]
      simp only [bI_eq]
      rw [gI_n (show 3 * p + 1 < 48 by omega) (by decide), cl_n (by omega), cl_n (by omega), show m.2.2 7 (3 * p) = nI (F p 0) from b3 0 (by decide), b3 1 (by decide), nI_add, rea, Nat.one_mul, eo, pk_sub h2]
      by_cases q : F p 0 + F p 1 < x - y
      · rw [if_pos (nI_lt q (by omega)), if_pos (show F p 0 + F p 1 ≤ x - y by omega), pk_sub (by omega), nI_add, nI_1, show x - y - (F p 0 + F p 1) = (x - F p 0) - (y + F p 1) by omega]
        have s0 : sm F 0 (p + 1) = sm F 0 p + F p 0 := rfl
        have s1 : sm F 1 (p + 1) = sm F 1 p + F p 1 := rfl
        exact ih d (p + 1) _ _ (by omega) (by omega) (by omega) (by omega) (by omega) (by omega)
      · rw [if_neg (nI_nlt (by omega) (by omega))]
        unfold BX11_pointOf_50
        have hx : p * (F p 0 + F p 1) ≤ 16 * 18 := Nat.mul_le_mul (by omega) (by omega)
        rw [nI_l (by omega), nI_l (by omega), nI_l (by omega), nI_l (by omega), lN_mul, lN_add, lN_sub (by omega), part_sp (by omega) (by omega) (by omega), bd_e]
        by_cases q2 : F p 0 + F p 1 ≤ x - y
        · rw [if_pos q2, show x - y - (F p 0 + F p 1) = 0 by omega, rea_0 (k := k) (fun p hp => (co1 h (by decide) p hp).1) d (p + 1) (by omega), show p * (F p 0 + F p 1) + x - y = (p + 1) * (F p 0 + F p 1) by rw [Nat.add_mul]; omega, told_mul _ _ (by omega)]
        · rw [if_neg q2, show p * (F p 0 + F p 1) + x - y = p * (F p 0 + F p 1) + (x - y) by omega]
theorem sim_point (a0 : Int32) {c m : St} (h : Rel c m) : ∃ (r : Int64) (c1 : St) (m1 : St), fX10_point a0 c = some (r, c1) ∧ fX11_point a0 m = some (r, m1) ∧ Rel c1 m1 := by
  obtain ⟨m1, k, n, F, t, e1, e2, e3, e4⟩ := reads_sp h
  have hR := h.same SameC.rf e2.same
  unfold fX10_point fX11_point fX11_pointOf
  simp only [e1, bd_e, within_sp, isTwo_sp, ite10, lit_ti]
  by_cases v1 : 0 ≤ a0.toInt ∧ a0.toInt ≤ 1
  · have hk := e3.1
    have hs := sm_le e3 (s := 0) (by decide) k (Nat.le_refl _)
    rw [if_pos v1, if_pos v1, allIn_sp e3, bd_e, show (1 : Int32) = nI 1 from rfl, reach_sp e3 (by decide) (co1 e3 (by decide)) (by decide) (by omega), bd_e, term_sp, bd_e, inAll_sp e3, bd_e, show LX11_pointOf_10 m1 fu a0 (nI (sm F 0 k)) 0 0 = _ from point_loop e3 a0 fu k 0 (sm F 0 k) 0 (by omega) (by omega) (by omega) rfl (Or.inl rfl) (by unfold fu; omega), bd_e]
    exact ⟨_, _, _, rfl, rfl, hR.same (SameC.tst _ _) SameM.rf⟩
  · rw [if_neg v1, if_neg v1]
    exact ⟨_, _, _, rfl, rfl, hR⟩
/-- sums of minutes out -/
def os (F : Nat → Nat → Nat) (mm : Nat) : Nat → Nat
  | 0 => 0
  | n + 1 => os F mm n + ou F mm n
theorem os_le {k : Nat} {F : Nat → Nat → Nat} {c m : St} (h : Cv k F c m) {mm : Nat} (hm : mm ≤ 4) : ∀ n, n ≤ k → os F mm n ≤ 27 * n := by
  intro n
  induction n with
  | zero => intro _; exact Nat.le_refl _
  | succ n ih =>
    intro hn
    have := ih (by omega)
    have := ou_le h (show n < k by omega) hm
    show os F mm n + ou F mm n ≤ _
    omega
def ctm (F : Nat → Nat → Nat) (mm k p : Nat) : Nat := if p < k then F p 0 + ou F mm p else 0
theorem ctm_le {k : Nat} {F : Nat → Nat → Nat} {c m : St} (h : Cv k F c m) {mm : Nat} (hm : mm ≤ 4) (p : Nat) : ctm F mm k p ≤ 36 := by
  unfold ctm
  split
  next q =>
    have := ou_le h q hm
    obtain ⟨b1, -⟩ := h.2.2.2 p q
    omega
  next => omega
theorem ctm_sp {k : Nat} {F : Nat → Nat → Nat} {c m : St} (h : Cv k F c m) {mm : Nat} (hm : mm ≤ 4) {p : Nat} (hp : p < 2 ^ 31) : fX1_thereAndBack (nI p) (nI mm) c = some (nI (ctm F mm k p)) := by
  unfold ctm
  by_cases q : p < k
  · rw [if_pos q, tab_sp h q hm]
  · rw [if_neg q, tab_e h (by omega) hp hm]; rfl
theorem isOut_loop {k : Nat} {F : Nat → Nat → Nat} {c m : St} (h : Cv k F c m) {mm all B P X : Nat} (hm : mm ≤ 4) (ha : all ≤ 999) (hB : B ≤ 99) (hX : X ≤ 9999) (hP : P ≤ k) : ∀ (f i : Nat), i ≤ P → P < f + i → LX1_isOutWithin_49 c f (nI all) (nI mm) (lN B) (nI P) (lN (X + B * (sm F 0 i + os F mm i))) (nI i) = some (if B * all < X + B * (sm F 0 P + os F mm P) then 0 else 1) := by
  intro f
  induction f with
  | zero => intro i h1 h2; omega
  | succ f ih =>
    intro i h1 h2
    have hk := h.1
    rw [LX1_isOutWithin_49]
    unfold BX1_isOutWithin_49
    by_cases q : i = P
    · subst q
      rw [if_pos (nI_le (by omega) (by omega))]
      unfold BX1_isOutWithin_87
      have w1 : B * all ≤ 99 * 999 := Nat.mul_le_mul hB ha
      have w2 : B * (sm F 0 i + os F mm i) ≤ 99 * (36 * 16) := Nat.mul_le_mul hB (by have := sm_le h (s := 0) (by decide) i hP; have := os_le h hm i hP; omega)
      rw [nI_l (by omega), lN_mul]
      by_cases z : B * all < X + B * (sm F 0 i + os F mm i)
      · rw [if_pos ((pk_lLT (by omega) (by omega)).mpr z), if_pos z]
      · rw [if_neg (fun y => z ((pk_lLT (by omega) (by omega)).mp y)), if_neg z]
    · have := ou_le h (show i < k by omega) hm
      obtain ⟨b1, -⟩ := h.2.2.2 i (by omega)
      rw [if_neg (nI_ge (show i < P by omega) (by omega)), h.2.1, if_neg (nI_ge (show i < k by omega) (by omega)), tab_sp h (by omega) hm, bd_e, bL_eq, bI_eq, nI_l (by omega), lN_mul, lN_add, nI_1]
      have e := ih (i + 1) (by omega) (by omega)
      rw [show X + B * (sm F 0 (i + 1) + os F mm (i + 1)) = X + B * (sm F 0 i + os F mm i) + B * (F i 0 + ou F mm i) by
        show X + B * ((sm F 0 i + F i 0) + (os F mm i + ou F mm i)) = _
        simp only [Nat.mul_add]; omega] at e
      exact e
theorem isOut_sp {k : Nat} {F : Nat → Nat → Nat} {c m : St} (h : Cv k F c m) {mm all P Q : Nat} (hm : mm ≤ 4) (ha : all ≤ 999) (h1 : 1 ≤ Q) (hQ : Q ≤ 99) (hP : P < 2 ^ 20) (hPQ : P / Q ≤ k) : fX1_isOutWithin (nI all) (nI mm) (tst c P Q) = some (if Q * all < P % Q * ctm F mm k (P / Q) + Q * (sm F 0 (P / Q) + os F mm (P / Q)) then 0 else 1) := by
  have hg := Nat.gcd_pos_of_pos_right P (show 0 < Q by omega)
  obtain ⟨A, hA⟩ := Nat.gcd_dvd_left P Q
  obtain ⟨B, hB⟩ := Nat.gcd_dvd_right P Q
  have dA : P / Nat.gcd P Q = A := Nat.div_eq_of_eq_mul_right hg hA
  have dB : Q / Nat.gcd P Q = B := Nat.div_eq_of_eq_mul_right hg hB
  have lA : A ≤ P := by rw [← dA]; exact Nat.div_le_self _ _
  have lB : B ≤ Q := by rw [← dB]; exact Nat.div_le_self _ _
  unfold tst
  rw [dA, dB]
  generalize Nat.gcd P Q = G at hA hB hg
  have B0 : 0 < B := by
    rcases Nat.eq_zero_or_pos B with e | e
    · rw [e, Nat.mul_zero] at hB; omega
    · exact e
  have eD : P / Q = A / B := by rw [hA, hB]; exact Nat.mul_div_mul_left A B hg
  have eM : P % Q = G * (A % B) := by rw [hA, hB]; exact Nat.mul_mod_mul_left G A B
  have hc : Cv k F (sL (sL c 0 (lN A)) 1 (lN B)) m := h
  have hmo := Nat.mod_lt A B0
  have hk := h.1
  rw [eD] at hPQ
  unfold fX1_isOutWithin
  rw [show fX2_term 1 (sL (sL c 0 (lN A)) 1 (lN B)) = some (lN B) from rfl, bd_e, if_pos (show (0 : Int64) < lN B from (pk_lLT (a := 0) (by decide) (by omega)).mpr B0), show fX2_term 0 (sL (sL c 0 (lN A)) 1 (lN B)) = some (lN A) from rfl, bd_e, gNl_pos (lne0 B0 (by omega)), bI_eq, bd_e, gNl_pos (lne0 B0 (by omega)), pk_lRem (by omega) B0 (by omega), pk_lDiv (by omega) B0 (by omega), lN_i, ctm_sp hc hm (by omega), bd_e, bL_eq, nI_l (by have := ctm_le hc hm (A / B); omega), lN_mul]
  have hX : A % B * ctm F mm k (A / B) ≤ 99 * 36 := Nat.mul_le_mul (by omega) (ctm_le hc hm _)
  have e := isOut_loop hc hm ha (show B ≤ 99 by omega) (show A % B * ctm F mm k (A / B) ≤ 9999 by omega) hPQ fu 0 (Nat.zero_le _) (Nat.lt_of_le_of_lt hPQ (by unfold fu; omega))
  rw [show LX1_isOutWithin_49 (sL (sL c 0 (lN A)) 1 (lN B)) fu (nI all) (nI mm) (lN B) (nI (A / B)) (lN (A % B * ctm F mm k (A / B))) 0 = _ from e]
  have ei : (B * all < A % B * ctm F mm k (A / B) + B * (sm F 0 (A / B) + os F mm (A / B))) ↔ (Q * all < P % Q * ctm F mm k (P / Q) + Q * (sm F 0 (P / Q) + os F mm (P / Q))) := by
    rw [eD, eM, hB, Nat.mul_assoc, Nat.mul_assoc, Nat.mul_assoc, ← Nat.mul_add]
    exact (Nat.mul_lt_mul_left hg).symm
  by_cases z : B * all < A % B * ctm F mm k (A / B) + B * (sm F 0 (A / B) + os F mm (A / B))
  · rw [if_pos z, if_pos (ei.mp z)]
  · rw [if_neg z, if_neg (fun y => z (ei.mpr y))]
def rres (F : Nat → Nat → Nat) (mm all k : Nat) (w : Int32) (P Q : Nat) : Int64 := if w = 2 then (if Q * all < P % Q * ctm F mm k (P / Q) + Q * (sm F 0 (P / Q) + os F mm (P / Q)) then 0 else 1) else told P Q w
theorem rule_loop {k : Nat} {F : Nat → Nat → Nat} {c m : St} (h : Cv k F c m) {mm all r wv : Nat} (hm1 : 1 ≤ mm) (hm : mm ≤ 4) (ha : all ≤ 999) (r1 : 1 ≤ r) (r2 : r ≤ 9) (hw : wv ≤ 2) : ∀ (f d p x : Nat), p + d = k → x + r * sm F 0 p = all → d < f → LX11_ruleOf_28 m f (nI r) (nI wv) (nI all) (nI mm) (nI x) (nI (os F mm p)) (nI p) = some (rres F mm all k (nI wv) (rea (fun p => r * (F p 0 + ou F 0 p)) d p x).1 (rea (fun p => r * (F p 0 + ou F 0 p)) d p x).2) := by
  intro f
  induction f with
  | zero => intro d p x h1 h2 h3; omega
  | succ f ih =>
    intro d p x h1 h2 h3
    have hk := h.1
    have ho := os_le h hm p (by omega)
    have hro : r * os F mm p ≤ 9 * (27 * 16) := Nat.mul_le_mul r2 (by omega)
    have hra : r * all ≤ 9 * 999 := Nat.mul_le_mul r2 ha
    rw [LX11_ruleOf_28]
    unfold BX11_ruleOf_28
    rw [h.2.2.1]
    cases d with
    | zero =>
      have e : p = k := by omega
      subst e
      rw [if_pos (nI_le (by omega) (by omega))]
      unfold BX11_ruleOf_173 rres
      rw [h.2.2.1, nI_l (by omega), rea, told_1, Nat.mod_one, Nat.div_one, Nat.zero_mul, Nat.zero_add, Nat.one_mul, Nat.one_mul, pk_mul, pk_mul, pk_sub (by omega), nI_add]
      rcases (show wv = 0 ∨ wv = 1 ∨ wv = 2 by omega) with rfl | rfl | rfl
      · rfl
      · rfl
      · rw [if_neg (show ¬ nI 2 = (0 : Int32) by decide), if_neg (show ¬ nI 2 = (1 : Int32) by decide), if_pos (show nI 2 = (2 : Int32) from rfl)]
        have ei : r * all < all - x + r * os F mm p ↔ all < sm F 0 p + os F mm p := by
          rw [show all - x + r * os F mm p = r * (sm F 0 p + os F mm p) by rw [Nat.mul_add]; omega]
          exact Nat.mul_lt_mul_left (by omega)
        by_cases z : all < sm F 0 p + os F mm p
        · rw [if_pos (nI_lt (ei.mpr z) (by omega)), if_pos z]
        · rw [if_neg (nI_nlt (by have := mt ei.mp z; omega) (by omega)), if_neg z]
    | succ d =>
      have hou := ou_le h (show p < k by omega) hm
      obtain ⟨b1, b2, b3, b4⟩ := h.2.2.2 p (by omega)
      have hc := cor h r1 (show r < 10 by omega) p (by omega)
      have e0 : r * (F p 0 + ou F 0 p) = r * F p 0 := rfl
      rw [if_neg (nI_ge (show p < k by omega) (by omega)), show (3 : Int32) * nI p = nI (3 * p) from pk_mul 3 p, gI_n (show 3 * p < 48 by omega) (by decide), cl_n (by omega), show m.2.2 7 (3 * p) = nI (F p 0) from b3 0 (by decide), pk_mul, bI_eq, rea, e0]
      by_cases q : r * F p 0 ≤ x
      · rw [if_pos (nI_le q (by omega)), if_pos q, bI_eq, outBy_sp h (by omega) hm1 hm, bd_e, bI_eq, bI_eq, pk_sub q, nI_add, nI_1]
        exact ih d (p + 1) _ (by omega) (by show _ + r * (sm F 0 p + F p 0) = _; rw [Nat.mul_add]; omega) (by omega)
      · rw [if_neg (nI_ge (show x < r * F p 0 by omega) (by omega)), if_neg q]
        unfold BX11_ruleOf_57 rres
        rw [e0] at hc
        have hx : p * (r * F p 0) ≤ 16 * 99 := Nat.mul_le_mul (by omega) (by omega)
        have eD : (p * (r * F p 0) + x) / (r * F p 0) = p := by
          rw [Nat.add_comm, Nat.add_mul_div_right _ _ (by omega), Nat.div_eq_of_lt (by omega), Nat.zero_add]
        have eM : (p * (r * F p 0) + x) % (r * F p 0) = x := by
          rw [Nat.add_comm, Nat.add_mul_mod_self_right, Nat.mod_eq_of_lt (by omega)]
        rw [outBy_sp h (by omega) hm1 hm, bd_e, pk_sub (by omega), pk_mul, nI_add]
        simp only [bL_eq]
        rw [nI_l (show all - x + r * os F mm p < 2 ^ 31 by omega), nI_l (show r * F p 0 < 2 ^ 31 by omega), nI_l (show x < 2 ^ 31 by omega), nI_l (show r < 2 ^ 31 by omega), nI_l (show ou F mm p < 2 ^ 31 by omega), nI_l (show all < 2 ^ 31 by omega), nI_l (show p < 2 ^ 31 by omega)]
        simp only [lN_mul, lN_add]
        rcases (show wv ≤ 1 ∨ wv = 2 by omega) with hv | rfl
        · rw [if_neg (show ¬ (2 : Int32) ≤ nI wv from nI_ge (show wv < 2 by omega) (by decide)), if_neg (show ¬ nI wv = (2 : Int32) from ne_n (b := 2) (by omega) (by omega) (by decide)), part_sp (by omega) hc.1 (by omega), bd_e]
        · rw [if_pos (show (2 : Int32) ≤ nI 2 by decide), if_pos (show nI 2 = (2 : Int32) from rfl), eD, eM]
          have ect : ctm F mm k p = F p 0 + ou F mm p := if_pos (by omega)
          have w1 : r * all * (r * F p 0) ≤ 9 * 999 * 99 := Nat.mul_le_mul (by omega) hc.2
          have w2 : (all - x + r * os F mm p) * (r * F p 0) ≤ 9999 * 99 := Nat.mul_le_mul (by omega) hc.2
          have w3 : x * (r * F p 0) ≤ 999 * 99 := Nat.mul_le_mul (by omega) hc.2
          have w4 : x * r * ou F mm p ≤ 999 * 9 * 27 := Nat.mul_le_mul (Nat.mul_le_mul (by omega) r2) hou
          have ei : r * all * (r * F p 0) < (all - x + r * os F mm p) * (r * F p 0) + x * (r * F p 0) + x * r * ou F mm p ↔ r * F p 0 * all < x * ctm F mm k p + r * F p 0 * (sm F 0 p + os F mm p) := by
            rw [ect, show all - x + r * os F mm p = r * (sm F 0 p + os F mm p) by rw [Nat.mul_add]; omega, show r * all * (r * F p 0) = r * (r * F p 0 * all) by ac_rfl, show r * (sm F 0 p + os F mm p) * (r * F p 0) + x * (r * F p 0) + x * r * ou F mm p = r * (x * (F p 0 + ou F mm p) + r * F p 0 * (sm F 0 p + os F mm p)) by
              simp only [Nat.mul_add, Nat.add_mul]; ac_rfl]
            exact Nat.mul_lt_mul_left (by omega)
          by_cases z : r * F p 0 * all < x * ctm F mm k p + r * F p 0 * (sm F 0 p + os F mm p)
          · rw [if_pos ((pk_lLT (by omega) (by omega)).mpr (ei.mpr z)), if_pos z]
          · rw [if_neg (fun y => z (ei.mp ((pk_lLT (by omega) (by omega)).mp y))), if_neg z]
theorem rea_pq {co : Nat → Nat} {k : Nat} (hco : ∀ p, p < k → 1 ≤ co p) : ∀ (d p x : Nat), p + d = k → (rea co d p x).1 / (rea co d p x).2 ≤ k := by
  intro d
  induction d with
  | zero => intro p x h; show p / 1 ≤ k; rw [Nat.div_one]; omega
  | succ d ih =>
    intro p x h
    have := hco p (by omega)
    rw [rea]
    split
    · exact ih _ _ (by omega)
    · show (p * co p + x) / co p ≤ k
      rw [Nat.add_comm, Nat.add_mul_div_right _ _ (by omega), Nat.div_eq_of_lt (by omega)]
      omega
theorem rule_rd (a0 a1 a2 : Int32) {c m : St} (h : Rel c m) : ∃ (r : Int64) (c1 : St) (m1 : St), fX10_rule a0 a1 a2 c = some (r, c1) ∧ fX11_rule a0 a1 a2 m = some (r, m1) ∧ Rel c1 m1 ∧ Rd c1 m1 := by
  obtain ⟨m1, k, n, F, t, e1, e2, e3, e4⟩ := reads_sp h
  have hR := h.same SameC.rf e2.same
  have hD : Rd c m1 := ⟨k, n, F, t, e3, e4⟩
  obtain ⟨g, w, hL⟩ := hR.2.1
  obtain ⟨g1, g2, g3, g4, g5⟩ := id hL
  unfold fX10_rule fX11_rule fX11_ruleOf
  simp only [e1, bd_e, goer_c hL, mayFail_m hL, within_sp, in_sp, ite10, i_64, lit_ti, lit_tl]
  by_cases v2 : 2 ≤ a0.toInt ∧ a0.toInt ≤ 9
  · rw [if_pos v2, if_pos v2]
    by_cases v0 : 0 ≤ a1.toInt ∧ a1.toInt ≤ (g : Int) - 1
    · rw [if_pos v0, if_pos v0]
      by_cases v1 : 0 ≤ a2.toInt ∧ a2.toInt ≤ 2
      · rw [if_pos v1, if_pos v1]
        obtain ⟨r, hr1, hr2, rfl⟩ := i_rg (a := a0) (lo := 2) (hi := 9) v2.1 v2.2
        obtain ⟨p, -, hp, rfl⟩ := i_rg (a := a1) (lo := 0) (hi := 3) v0.1 (by omega)
        obtain ⟨wv, -, hw, rfl⟩ := i_rg (a := a2) (lo := 0) (hi := 2) v1.1 v1.2
        rw [i_ti (by omega)] at v0
        have hk := e3.1
        have hv := toL_bd (v := g - p) g1 g2 (by omega)
        have hml := ml_le (w := w) (g - 1) 1 (w 0) (g5 0 (by decide)).1
        rw [least_m hL, bd_e, g4, pk_sub (by omega), toL_m hL (by omega) (by omega), bd_e, show LX11_ruleOf_28 m1 fu (nI r) (nI wv) (nI (ml w (g - 1) 1 (w 0))) (nI ((g + (g - p) - 1) / (g - p))) (nI (ml w (g - 1) 1 (w 0))) 0 0 = _ from rule_loop e3 hv.1 hv.2 hml (by omega) hr2 hw fu k 0 _ (by omega) rfl (by unfold fu; omega), bd_e]
        have co := cor e3 (show 1 ≤ r by omega) (show r < 10 by omega)
        have bd := rea_bd hk co k 0 (ml w (g - 1) 1 (w 0)) (by omega) (by omega)
        have pq := rea_pq (fun p hp => (co p hp).1) k 0 (ml w (g - 1) 1 (w 0)) (by omega)
        rw [least_c hL, bd_e, show (0 : Int32) = nI 0 from rfl, reach_sp e3 (by decide) co (by omega) hml, bd_e]
        have hR2 := hR.same (SameC.tst (c := c) (rea (fun p => r * (F p 0 + ou F 0 p)) k 0 (ml w (g - 1) 1 (w 0))).1 (rea (fun p => r * (F p 0 + ou F 0 p)) k 0 (ml w (g - 1) 1 (w 0))).2) (SameM.rf (m := m1))
        generalize rea (fun p => r * (F p 0 + ou F 0 p)) k 0 (ml w (g - 1) 1 (w 0)) = PQ at bd pq hR2 ⊢
        unfold rres
        rcases (show wv ≤ 1 ∨ wv = 2 by omega) with hv2 | rfl
        · rw [if_neg (show ¬ nI wv = (2 : Int32) from ne_n (b := 2) (by omega) (by omega) (by decide)), if_neg (show ¬ nI wv = (2 : Int32) from ne_n (b := 2) (by omega) (by omega) (by decide)), term_sp, bd_e]
          exact ⟨_, _, _, rfl, rfl, hR2, hD⟩
        · have hL2 : RLm g w (tst c PQ.1 PQ.2) m1 := hL
          unfold fX3_party
          rw [if_pos (show nI 2 = (2 : Int32) from rfl), if_pos (show nI 2 = (2 : Int32) from rfl), bd_e, hL2.2.2.1, pk_sub (by omega), toL_c hL2 (by omega) (by omega), bd_e, isOut_sp e3 hv.2 hml bd.2.1 bd.2.2 bd.1 pq, bd_e]
          by_cases z : PQ.2 * ml w (g - 1) 1 (w 0) < PQ.1 % PQ.2 * ctm F ((g + (g - p) - 1) / (g - p)) k (PQ.1 / PQ.2) + PQ.2 * (sm F 0 (PQ.1 / PQ.2) + os F ((g + (g - p) - 1) / (g - p)) (PQ.1 / PQ.2))
          · rw [if_pos z, if_pos z]
            exact ⟨_, _, _, rfl, rfl, hR2, hD⟩
          · rw [if_neg z, if_neg z]
            exact ⟨_, _, _, rfl, rfl, hR2, hD⟩
      · rw [if_neg v1, if_neg v1]
        exact ⟨_, _, _, rfl, rfl, hR, hD⟩
    · rw [if_neg v0, if_neg v0]
      exact ⟨_, _, _, rfl, rfl, hR, hD⟩
  · rw [if_neg v2, if_neg v2]
    exact ⟨_, _, _, rfl, rfl, hR, hD⟩
theorem sim_rule (a0 a1 a2 : Int32) {c m : St} (h : Rel c m) : ∃ (r : Int64) (c1 : St) (m1 : St), fX10_rule a0 a1 a2 c = some (r, c1) ∧ fX11_rule a0 a1 a2 m = some (r, m1) ∧ Rel c1 m1 := by
  obtain ⟨r, c1, m1, e1, e2, e3, -⟩ := rule_rd a0 a1 a2 h
  exact ⟨r, c1, m1, e1, e2, e3⟩
