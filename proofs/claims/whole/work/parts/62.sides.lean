/-! side, gone, first, mean -/
theorem dec_n {q : Nat} (h : 1 ≤ q) : nI q + (-1) = nI (q - 1) := (Int32.sub_eq_add_neg (nI q) 1).symm.trans (pk_sub (b := 1) h)
theorem L_tr {ch mi : Nat → Nat} {a b d : Nat} (hb : 1 ≤ mi b) (h1 : ch b * mi a ≤ ch a * mi b) (h2 : ch d * mi b ≤ ch b * mi d) : ch d * mi a ≤ ch a * mi d := by
  have e1 := Nat.mul_le_mul_right (mi d) h1
  have e2 := Nat.mul_le_mul_right (mi a) h2
  have e3 : ch d * mi b * mi a = ch d * mi a * mi b := by ac_rfl
  have e4 : ch b * mi d * mi a = ch b * mi a * mi d := by ac_rfl
  have e5 : ch a * mi b * mi d = ch a * mi d * mi b := by ac_rfl
  rw [e3, e4] at e2
  rw [e5] at e1
  exact Nat.le_of_mul_le_mul_right (Nat.le_trans e2 e1) hb
theorem befo_tr {ch mi : Nat → Nat} {a b d : Nat} (ha : 1 ≤ mi a) (hb : 1 ≤ mi b) (hd : 1 ≤ mi d) (h1 : befo ch mi a b) (h2 : befo ch mi b d) : befo ch mi a d := by
  unfold befo at *
  have l1 := L_tr (ch := ch) (mi := mi) (a := a) (b := b) (d := d) hb (by omega) (by omega)
  by_cases q : ch a * mi d ≤ ch d * mi a
  · have l2 := L_tr (ch := ch) (mi := mi) (a := d) (b := a) (d := b) ha (by omega) (by omega)
    have l3 := L_tr (ch := ch) (mi := mi) (a := b) (b := d) (d := a) hd (by omega) (by omega)
    right
    constructor
    · omega
    · omega
  · left; omega
theorem befo_as {ch mi : Nat → Nat} {a b : Nat} (h1 : befo ch mi a b) (h2 : befo ch mi b a) : False := by
  unfold befo at *
  omega
theorem befo_ne {ch mi : Nat → Nat} {a b : Nat} (h1 : befo ch mi a b) : a ≠ b := fun e => befo_as (e ▸ h1) (e ▸ h1)
def Srt (ch mi od : Nat → Nat) (i : Nat) : Prop := ∀ p q, p < q → q < i → befo ch mi (od p) (od q)
def Sd (n : Nat) (ch mi : Nat → Nat) (σ : St) : Prop := ∀ j, j < n → ch j ≤ 16 ∧ 1 ≤ mi j ∧ mi j ≤ 99 ∧ σ.2.2 15 j = nI (ch j) ∧ σ.2.2 16 j = nI (mi j)
theorem Sd.fr {n : Nat} {ch mi : Nat → Nat} {σ τ : St} (h : Sd n ch mi σ) (e : ∀ k, k ≠ 17 → τ.2.2 k = σ.2.2 k) : Sd n ch mi τ := by
  intro j hj
  rw [e 15 (by decide), e 16 (by decide)]
  exact h j hj
theorem better_sp {n i j : Nat} {ch mi : Nat → Nat} {σ : St} (h : Sd n ch mi σ) (hn : n ≤ 6) (hi : i < n) (hj : j < n) : fX6_isBetter (nI i) (nI j) σ = some (if ch i * mi j ≤ ch j * mi i then 0 else 1) := by
  obtain ⟨a1, a2, a3, a4, a5⟩ := h i hi
  obtain ⟨b1, b2, b3, b4, b5⟩ := h j hj
  have w1 : ch i * mi j ≤ 16 * 99 := Nat.mul_le_mul a1 b3
  have w2 : ch j * mi i ≤ 16 * 99 := Nat.mul_le_mul b1 a3
  unfold fX6_isBetter
  rw [gI_n (show i < 6 by omega) (by decide), gI_n (show j < 6 by omega) (by decide), gI_n (show j < 6 by omega) (by decide), gI_n (show i < 6 by omega) (by decide), cl_n (by omega), cl_n (by omega), a4, a5, b4, b5, pk_mul, pk_mul]
  by_cases q : ch i * mi j ≤ ch j * mi i
  · rw [if_pos q, if_pos (nI_le q (by omega))]
  · rw [if_neg q, if_neg (nI_ge (by omega) (by omega))]
theorem ins_end {n i q : Nat} {ch mi od : Nat → Nat} {σ : St} (hn : n ≤ 6) (hi : i < n) (k2 : St → Int32 → Option St) (hq : q ≤ i) (h1 : ∀ p, p < q → σ.2.2 17 p = nI (od p)) (h2 : ∀ p, q ≤ p → p < i → σ.2.2 17 (p + 1) = nI (od p)) (h3 : Srt ch mi od i) (h4 : ∀ p, p < i → od p < i) (h5 : ∀ p, q ≤ p → p < i → befo ch mi i (od p)) (h6 : ∀ p, p < q → befo ch mi (od p) i) : ∃ σ' od', BX6_sort_52 k2 σ (nI i) (nI q) = k2 σ' (nI (i + 1)) ∧ σ'.1 = σ.1 ∧ (∀ k, k ≠ 17 → σ'.2.2 k = σ.2.2 k) ∧ (∀ p, p < i + 1 → od' p < i + 1 ∧ σ'.2.2 17 p = nI (od' p)) ∧ Srt ch mi od' (i + 1) := by
  refine ⟨sA σ 17 q (nI i), fun p => if p < q then od p else if p = q then i else od (p - 1), ?_, rfl, fun k hk => by rw [sA_22, if_neg hk], fun p hp => ?_, fun x y hxy hy => ?_⟩
  · unfold BX6_sort_52
    rw [gI_n (show q < 6 by omega) (by decide), bS_eq, bI_eq, cl_n (by omega), nI_1]
  · rw [sA_3]
    show (if p < q then od p else if p = q then i else od (p - 1)) < i + 1 ∧ (if 17 = 17 ∧ p = q then nI i else σ.2.2 17 p) = nI (if p < q then od p else if p = q then i else od (p - 1))
    by_cases z : p < q
    · have := h4 p (by omega)
      rw [if_neg (show ¬ ((17 : Nat) = 17 ∧ p = q) by omega), if_pos z, h1 p z]
      exact ⟨by omega, rfl⟩
    · by_cases z2 : p = q
      · rw [if_pos (show (17 : Nat) = 17 ∧ p = q from ⟨rfl, z2⟩), if_neg z, if_pos z2]
        exact ⟨by omega, rfl⟩
      · have := h4 (p - 1) (by omega)
        have e := h2 (p - 1) (by omega) (by omega)
        rw [show p - 1 + 1 = p by omega] at e
        rw [if_neg (show ¬ ((17 : Nat) = 17 ∧ p = q) by omega), if_neg z, if_neg z2, e]
        exact ⟨by omega, rfl⟩
  · show befo ch mi (if x < q then od x else if x = q then i else od (x - 1)) (if y < q then od y else if y = q then i else od (y - 1))
    by_cases z : x < q
    · rw [if_pos z]
      by_cases z2 : y < q
      · rw [if_pos z2]; exact h3 x y hxy (by omega)
      · rw [if_neg z2]
        by_cases z3 : y = q
        · rw [if_pos z3]; exact h6 x z
        · rw [if_neg z3]; exact h3 x (y - 1) (by omega) (by omega)
    · rw [if_neg z, if_neg (show ¬ y < q by omega), if_neg (show ¬ y = q by omega)]
      by_cases z3 : x = q
      · rw [if_pos z3]; exact h5 (y - 1) (by omega) (by omega)
      · rw [if_neg z3]; exact h3 (x - 1) (y - 1) (by omega) (by omega)
theorem ins_loop {n i : Nat} {ch mi od : Nat → Nat} (hn : n ≤ 6) (hi : i < n) (k2 : St → Int32 → Option St) (h3 : Srt ch mi od i) (h4 : ∀ p, p < i → od p < i) : ∀ (f q : Nat) (σ : St), q ≤ i → q < f → Sd n ch mi σ → (∀ p, p < q → σ.2.2 17 p = nI (od p)) → (∀ p, q ≤ p → p < i → σ.2.2 17 (p + 1) = nI (od p)) → (∀ p, q ≤ p → p < i → befo ch mi i (od p)) → ∃ σ' od', LX6_sort_12 k2 f σ (nI i) (nI q) = k2 σ' (nI (i + 1)) ∧ σ'.1 = σ.1 ∧ (∀ k, k ≠ 17 → σ'.2.2 k = σ.2.2 k) ∧ (∀ p, p < i + 1 → od' p < i + 1 ∧ σ'.2.2 17 p = nI (od' p)) ∧ Srt ch mi od' (i + 1) := by
  intro f
  induction f with
  | zero => intro q σ a1 a2; omega
  | succ f ih =>
    intro q σ a1 a2 a3 a4 a5 a6
    rw [LX6_sort_12]
    unfold BX6_sort_12
    by_cases z : q = 0
    · subst z
      rw [if_pos (show nI 0 ≤ (0 : Int32) by decide)]
      exact ins_end hn hi k2 a1 a4 a5 h3 h4 a6 (fun p hp => by omega)
    · have hod := h4 (q - 1) (by omega)
      rw [if_neg (nI_nle (by omega) (by omega)), show nI q - 1 = nI (q - 1) from pk_sub (b := 1) (by omega), gI_n (show q - 1 < 6 by omega) (by decide), cl_n (by omega), a4 (q - 1) (by omega), better_sp a3 hn hi (show od (q - 1) < n by omega), bd_e]
      by_cases y : ch i * mi (od (q - 1)) ≤ ch (od (q - 1)) * mi i
      · rw [if_pos y, if_pos rfl]
        have hl : befo ch mi (od (q - 1)) i := by unfold befo; omega
        refine ins_end hn hi k2 a1 a4 a5 h3 h4 a6 (fun p hp => ?_)
        by_cases x : p = q - 1
        · rw [x]; exact hl
        · have := h4 p (by omega)
          exact befo_tr (a3 (od p) (by omega)).2.1 (a3 (od (q - 1)) (by omega)).2.1 (a3 i hi).2.1 (h3 p (q - 1) (by omega) (by omega)) hl
      · have hl : befo ch mi i (od (q - 1)) := by unfold befo; omega
        rw [if_neg y, if_neg ne10, gI_n (show q - 1 < 6 by omega) (by decide), gI_n (show q < 6 by omega) (by decide), bS_eq, bI_eq, cl_n (show q < 2 ^ 31 by omega), dec_n (show 1 ≤ q by omega)]
        obtain ⟨σ', od', e1, e2, e3, e4⟩ := ih (q - 1) (sA σ 17 q (nI (od (q - 1)))) (by omega) (by omega) (a3.fr (fun k hk => by rw [sA_22, if_neg hk])) (fun p hp => by rw [sA_3, if_neg (by omega)]; exact a4 p (by omega)) (fun p h7 h8 => by
          rw [sA_3]
          by_cases x : p + 1 = q
          · rw [if_pos ⟨rfl, x⟩, show p = q - 1 by omega]
          · rw [if_neg (by omega)]; exact a5 p (by omega) h8) (fun p h7 h8 => by
          by_cases x : p = q - 1
          · rw [x]; exact hl
          · exact a6 p (by omega) h8)
        exact ⟨σ', od', e1, e2, fun k hk => by rw [e3 k hk, sA_22, if_neg hk], e4⟩
theorem sort_loop {n : Nat} {ch mi : Nat → Nat} (hn : n ≤ 6) : ∀ (f i : Nat) (σ : St) (od : Nat → Nat), i ≤ n → n < f + i → σ.1 14 = nI n → Sd n ch mi σ → Srt ch mi od i → (∀ p, p < i → od p < i ∧ σ.2.2 17 p = nI (od p)) → ∃ σ' od', LX6_sort_2 f σ (nI i) = some σ' ∧ σ'.1 = σ.1 ∧ (∀ k, k ≠ 17 → σ'.2.2 k = σ.2.2 k) ∧ (∀ p, p < n → od' p < n ∧ σ'.2.2 17 p = nI (od' p)) ∧ Srt ch mi od' n := by
  intro f
  induction f with
  | zero => intro i σ od a1 a2; omega
  | succ f ih =>
    intro i σ od a1 a2 a3 a4 a5 a6
    rw [LX6_sort_2]
    unfold BX6_sort_2
    rw [a3]
    by_cases z : i = n
    · subst z
      rw [if_pos (nI_le (by omega) (by omega))]
      exact ⟨σ, od, rfl, rfl, fun _ _ => rfl, a6, a5⟩
    · rw [if_neg (nI_ge (show i < n by omega) (by omega))]
      obtain ⟨σ', od', e1, e2, e3, e4, e5⟩ := ins_loop hn (show i < n by omega) (LX6_sort_2 f) a5 (fun p hp => (a6 p hp).1) fu i σ (Nat.le_refl _) (by unfold fu; omega) a4 (fun p hp => (a6 p hp).2) (fun p h7 h8 => by omega) (fun p h7 h8 => by omega)
      obtain ⟨τ, od2, f1, f2, f3, f4⟩ := ih (i + 1) σ' od' (by omega) (by omega) (by rw [e2]; exact a3) (a4.fr e3) e5 e4
      exact ⟨τ, od2, e1.trans f1, f2.trans e2, fun k hk => (f3 k hk).trans (e3 k hk), f4⟩
theorem sort_sp {n : Nat} {ch mi : Nat → Nat} {σ : St} (hn : n ≤ 6) (h1 : σ.1 14 = nI n) (h2 : Sd n ch mi σ) : ∃ σ' od', fX6_sort σ = some σ' ∧ σ'.1 = σ.1 ∧ (∀ k, k ≠ 17 → σ'.2.2 k = σ.2.2 k) ∧ (∀ p, p < n → od' p < n ∧ σ'.2.2 17 p = nI (od' p)) ∧ Srt ch mi od' n :=
  sort_loop hn fu 0 σ (fun _ => 0) (by omega) (by unfold fu; omega) h1 h2 (fun p q h7 h8 => by omega) (fun p hp => by omega)
def sc (ch : Nat → Nat) (n : Nat) : Nat := ((List.range n).map ch).sum
theorem sc_s (ch : Nat → Nat) (n : Nat) : sc ch (n + 1) = sc ch n + ch n := by
  unfold sc
  rw [List.range_succ, List.map_append, List.sum_append]
  simp
theorem sc_c {ch ch' : Nat → Nat} : ∀ n, (∀ i, i < n → ch i = ch' i) → sc ch n = sc ch' n := by
  intro n
  induction n with
  | zero => intro _; rfl
  | succ n ih => intro h; rw [sc_s, sc_s, ih (fun i hi => h i (by omega)), h n (by omega)]
theorem sc_mono (ch : Nat → Nat) {i n : Nat} (h : i ≤ n) : sc ch i ≤ sc ch n := by
  induction h with
  | refl => exact Nat.le_refl _
  | step _ ih => rw [sc_s]; omega
theorem allC_loop {n : Nat} {ch mi od : Nat → Nat} {c m : St} (h : RS n ch mi od c m) : ∀ (f i : Nat), i ≤ n → n < f + i → LX6_allChances_4 c f (nI (sc ch i)) (nI i) = some (nI (sc ch n)) ∧ LX11_sixteenths_4 m f (nI (sc ch i)) (nI i) = some (nI (sc ch n)) := by
  intro f
  induction f with
  | zero => intro i a1 a2; omega
  | succ f ih =>
    intro i a1 a2
    obtain ⟨s1, s2, s3, s4, -⟩ := id h
    rw [LX6_allChances_4, LX11_sixteenths_4]
    unfold BX6_allChances_4 BX11_sixteenths_4
    rw [s2, s3]
    by_cases z : i = n
    · subst z
      rw [if_pos (nI_le (by omega) (by omega)), if_pos (nI_le (by omega) (by omega))]
      exact ⟨rfl, rfl⟩
    · obtain ⟨p1, p2, p3, p4, p5, p6, p7⟩ := s4 i (by omega)
      rw [if_neg (nI_ge (show i < n by omega) (by omega)), if_neg (nI_ge (show i < n by omega) (by omega)), gI_n (show i < 6 by omega) (by decide), show (2 : Int32) * nI i = nI (2 * i) from pk_mul 2 i, gI_n (show 2 * i < 12 by omega) (by decide), cl_n (by omega), cl_n (by omega), p4, p5, bI_eq, bI_eq, bI_eq, bI_eq, nI_1, nI_add, ← sc_s]
      exact ih (i + 1) (by omega) (by omega)
theorem allC_sp {n : Nat} {ch mi od : Nat → Nat} {c m : St} (h : RS n ch mi od c m) : fX6_allChances c = some (nI (sc ch n)) := (allC_loop h fu 0 (by omega) (by have := h.1; unfold fu; omega)).1
theorem six_sp {n : Nat} {ch mi od : Nat → Nat} {c m : St} (h : RS n ch mi od c m) : fX11_sixteenths m = some (nI (sc ch n)) := (allC_loop h fu 0 (by omega) (by have := h.1; unfold fu; omega)).2
theorem sim_gone {c m : St} (h : Rel c m) : ∃ (r : Int32) (c1 : St) (m1 : St), fX10_gone c = some (r, c1) ∧ fX11_gone m = some (r, m1) ∧ Rel c1 m1 := by
  obtain ⟨n, ch, mi, od, hS⟩ := h.2.2.1
  obtain ⟨s1, s2, s3, s4, s5, s6, s7⟩ := id hS
  unfold fX10_gone fX11_gone fX6_dropLast fX6_size
  rw [s2, s3]
  by_cases z : n = 0
  · subst z
    exact ⟨_, _, _, rfl, rfl, h⟩
  · rw [if_neg (nI_ne0 (by omega) (by omega)), if_neg (nI_ne0 (by omega) (by omega)), bS_eq, bS_eq, show nI n - 1 = nI (n - 1) from pk_sub (b := 1) (by omega)]
    obtain ⟨σ', od', e1, e2, e3, e4, e5⟩ := sort_sp (n := n - 1) (ch := ch) (mi := mi) (σ := sI c 14 (nI (n - 1))) (by omega) rfl (fun j hj => by
      obtain ⟨p1, p2, p3, p4, p5, p6, p7⟩ := s4 j (by omega)
      exact ⟨p1, p2, p3, p4, p6⟩)
    rw [e1]
    simp only [bd_e, if_neg ne10, e2]
    refine ⟨_, _, _, rfl, rfl, h.setS (fun k hk => by rw [e2]; exact if_neg hk) (fun k _ _ hk => e3 k hk) (fun k hk => if_neg hk) (fun _ _ => rfl) ⟨n - 1, ch, mi, od', by omega, by rw [e2]; rfl, rfl, fun i hi => ?_, ?_, e4, e5⟩⟩
    · rw [e3 15 (by decide), e3 16 (by decide)]
      exact s4 i (by omega)
    · exact Nat.le_trans (sc_mono ch (show n - 1 ≤ n by omega)) s5
theorem sim_side (a0 a1 : Int32) {c m : St} (h : Rel c m) : ∃ (r : Int32) (c1 : St) (m1 : St), fX10_side a0 a1 c = some (r, c1) ∧ fX11_side a0 a1 m = some (r, m1) ∧ Rel c1 m1 := by
  obtain ⟨n, ch, mi, od, hS⟩ := h.2.2.1
  obtain ⟨s1, s2, s3, s4, s5, s6, s7⟩ := id hS
  unfold fX10_side fX11_side
  simp only [bd_e, within_sp, in_sp, ite10, i_64, lit_ti, lit_tl]
  by_cases v0 : 0 ≤ a0.toInt ∧ a0.toInt ≤ 16
  case neg => rw [if_neg v0, if_neg v0]; exact ⟨_, _, _, rfl, rfl, h⟩
  by_cases v1 : 1 ≤ a1.toInt ∧ a1.toInt ≤ 99
  case neg => rw [if_pos v0, if_pos v0, if_neg v1, if_neg v1]; exact ⟨_, _, _, rfl, rfl, h⟩
  rw [if_pos v0, if_pos v0, if_pos v1, if_pos v1]
  obtain ⟨x, -, y0, rfl⟩ := i_rg (a := a0) (lo := 0) (hi := 16) v0.1 v0.2
  obtain ⟨y, y2, y1, rfl⟩ := i_rg (a := a1) (lo := 1) (hi := 99) v1.1 v1.2
  unfold fX6_add
  rw [s2, s3, allC_sp hS, six_sp hS, bd_e, bd_e, nI_add]
  have hsc : sc ch n ≤ 16 := s5
  by_cases z : n = 6
  · subst z
    exact ⟨_, _, _, rfl, rfl, h⟩
  rw [if_neg (show ¬ (6 : Int32) ≤ nI n from nI_ge (show n < 6 by omega) (by decide)), if_neg (show ¬ nI n = (6 : Int32) from ne_n (b := 6) z (by omega) (by decide))]
  by_cases z2 : sc ch n + x ≤ 16
  case neg =>
    rw [if_neg (show ¬ nI (sc ch n + x) ≤ (16 : Int32) from nI_ge (show 16 < sc ch n + x by omega) (by omega)), if_neg (show ¬ nI (sc ch n + x) ≤ (16 : Int32) from nI_ge (show 16 < sc ch n + x by omega) (by omega))]
    exact ⟨_, _, _, rfl, rfl, h⟩
  have i0 : (2 : Int32) * nI n = nI (2 * n) := pk_mul 2 n
  have i1 : nI (2 * n) + 1 = nI (2 * n + 1) := nI_add _ 1
  simp only [bS_eq, sA_1, s2, s3, sI_1, if_pos, i0, i1]
  rw [if_pos (show nI (sc ch n + x) ≤ (16 : Int32) from nI_le (b := 16) z2 (by decide)), if_pos (show nI (sc ch n + x) ≤ (16 : Int32) from nI_le (b := 16) z2 (by decide)), gI_n (show n < 6 by omega) (by decide), gI_n (show n < 6 by omega) (by decide), gI_n (show 2 * n < 12 by omega) (by decide), gI_n (show 2 * n + 1 < 12 by omega) (by decide), cl_n (by omega), cl_n (by omega), cl_n (by omega), nI_1]
  obtain ⟨σ', od', e1, e2, e3, e4, e5⟩ := sort_sp (n := n + 1) (ch := fun i => if i = n then x else ch i) (mi := fun i => if i = n then y else mi i) (σ := sI (sA (sA c 15 n (nI x)) 16 n (nI y)) 14 (nI (n + 1))) (by omega) rfl (fun j hj => by
    simp only [sI_2, sA_3]
    by_cases q : j = n
    · subst q
      simp [y0, y1, y2]
    · obtain ⟨p1, p2, p3, p4, p5, p6, p7⟩ := s4 j (by omega)
      simp [q, p1, p2, p3, p4, p6])
  rw [e1]
  unfold fX6_size
  simp only [bd_e, if_neg ne10, e2]
  refine ⟨_, _, _, rfl, rfl, h.setS (fun k hk => by rw [e2]; exact if_neg hk) (fun k g1 g2 hk => ?_) (fun k hk => if_neg hk) (fun k hk => ?_) ⟨n + 1, fun i => if i = n then x else ch i, fun i => if i = n then y else mi i, od', by omega, by rw [e2]; rfl, rfl, fun i hi => ?_, ?_, e4, e5⟩⟩
  · rw [e3 k hk]
    simp only [sI_2, sA_22, if_neg g1, if_neg g2]
  · simp only [sI_2, sA_22, if_neg hk]
  · rw [e3 15 (by decide), e3 16 (by decide)]
    simp only [sI_2, sA_3]
    by_cases q : i = n
    · subst q
      simp [y0, y1, y2]
    · obtain ⟨p1, p2, p3, p4, p5, p6, p7⟩ := s4 i (by omega)
      have z0 : ¬ 2 * i = 2 * n := by omega
      have z1 : ¬ 2 * i = 2 * n + 1 := by omega
      have z3 : ¬ 2 * i + 1 = 2 * n := by omega
      have z4 : ¬ 2 * i + 1 = 2 * n + 1 := by omega
      simp [q, p1, p2, p3, p4, p5, p6, p7, z1, z3]
      exact ⟨fun q => absurd q z0, fun q => absurd q z0⟩
  · show sc _ (n + 1) ≤ 16
    rw [sc_s, sc_c n (fun i hi => show (if i = n then x else ch i) = ch i from if_neg (by omega))]
    show sc ch n + (if n = n then x else ch n) ≤ 16
    rw [if_pos rfl]
    exact z2

theorem pig : ∀ (n m : Nat) (f : Nat → Nat), (∀ i, i < n → f i < m) → (∀ i j, i < j → j < n → f i ≠ f j) → n ≤ m := by
  intro n
  induction n with
  | zero => intro m f _ _; exact Nat.zero_le _
  | succ n ih =>
    intro m f h1 h2
    have h0 := h1 n (by omega)
    have := ih (m - 1) (fun i => if f n < f i then f i - 1 else f i) (fun i hi => by
      have a := h1 i (by omega)
      have b := h2 i n hi (by omega)
      split <;> omega) (fun i j hij hj => by
      have a := h2 i n (by omega) (by omega)
      have b := h2 j n hj (by omega)
      have d := h2 i j hij (by omega)
      split <;> split <;> omega)
    omega
theorem surj {n b : Nat} {f : Nat → Nat} (h1 : ∀ i, i < n → f i < n) (h2 : ∀ i j, i < j → j < n → f i ≠ f j) (hb : b < n) : ∃ i, i < n ∧ f i = b := by
  apply Classical.byContradiction
  intro hc
  have hc' : ∀ i, i < n → f i ≠ b := fun i hi e => hc ⟨i, hi, e⟩
  have := pig n (n - 1) (fun i => if b < f i then f i - 1 else f i) (fun i hi => by
    have a := h1 i hi
    have d := hc' i hi
    split <;> omega) (fun i j hij hj => by
    have a := hc' i (by omega)
    have b := hc' j hj
    have d := h2 i j hij hj
    split <;> split <;> omega)
  omega
theorem isIn_6 : ∀ u, u < 64 → ∀ j, j < 6 → fX11_isIn (nI u) (nI j) = some (if u.testBit j = true then 1 else 0) := by
  unfold fX11_isIn
  decide +kernel
theorem or_6 : ∀ u, u < 64 → ∀ b, b < 6 → nI u ||| ((1 : Int32) <<< (nI b &&& 31)) = nI (u ||| 2 ^ b) ∧ u ||| 2 ^ b < 64 := by decide +kernel
def Sm (n : Nat) (ch mi : Nat → Nat) (σ : St) : Prop := ∀ j, j < n → ch j ≤ 16 ∧ 1 ≤ mi j ∧ mi j ≤ 99 ∧ σ.2.2 13 (2 * j) = nI (ch j) ∧ σ.2.2 13 (2 * j + 1) = nI (mi j)
/-- the best among those tried so far that stand yet -/
def Bst (ch mi : Nat → Nat) (u x : Nat) (b : Int32) : Prop := (b = -1 ∧ ∀ j, j < x → u.testBit j = true) ∨ ∃ v, b = nI v ∧ v < x ∧ u.testBit v = false ∧ ∀ j, j < x → u.testBit j = false → j ≠ v → befo ch mi v j
theorem sel_loop {n u p : Nat} {ch mi : Nat → Nat} {σ : St} (hn : n ≤ 6) (hu : u < 64) (h1 : σ.1 20 = nI n) (h2 : Sm n ch mi σ) (k4 : St → Int32 → Int32 → Option St) : ∀ (f x : Nat) (b : Int32), x ≤ n → n < f + x → Bst ch mi u x b → ∃ b', LX11_findOrder_17 k4 f σ (nI u) (nI p) b (nI x) = BX11_findOrder_108 k4 σ (nI u) (nI p) b' ∧ Bst ch mi u n b' := by
  intro f
  induction f with
  | zero => intro x b a1 a2; omega
  | succ f ih =>
    intro x b a1 a2 a3
    rw [LX11_findOrder_17]
    unfold BX11_findOrder_17
    rw [h1]
    by_cases z : x = n
    · subst z
      rw [if_pos (nI_le (by omega) (by omega))]
      exact ⟨b, rfl, a3⟩
    · rw [if_neg (nI_ge (show x < n by omega) (by omega))]
      obtain ⟨c1, c2, c3, c4, c5⟩ := h2 x (by omega)
      rcases a3 with ⟨rfl, a4⟩ | ⟨v, rfl, a4, a5, a6⟩
      · rw [if_pos rfl]
        unfold BX11_findOrder_74 BX11_findOrder_79
        rw [isIn_6 u hu x (by omega), bd_e]
        cases hx : u.testBit x with
        | true =>
          rw [if_neg (show ¬ (if true = true then (1 : Int32) else 0) = 0 by decide), bI_eq, nI_1]
          exact ih (x + 1) _ (by omega) (by omega) (Or.inl ⟨rfl, fun j hj => by
            by_cases q : j = x
            · rw [q]; exact hx
            · exact a4 j (by omega)⟩)
        | false =>
          rw [if_pos (show (if false = true then (1 : Int32) else 0) = 0 from rfl), if_neg ne10, bI_eq, nI_1]
          exact ih (x + 1) _ (by omega) (by omega) (Or.inr ⟨x, rfl, by omega, hx, fun j hj hb hne => by
            have := a4 j (by omega)
            rw [this] at hb
            exact absurd hb (by decide)⟩)
      · obtain ⟨d1, d2, d3, d4, d5⟩ := h2 v (by omega)
        have w1 : ch x * mi v ≤ 16 * 99 := Nat.mul_le_mul c1 d3
        have w2 : ch v * mi x ≤ 16 * 99 := Nat.mul_le_mul d1 c3
        rw [if_neg (nI_nm1 (by omega)), show (2 : Int32) * nI x = nI (2 * x) from pk_mul 2 x, show (2 : Int32) * nI v = nI (2 * v) from pk_mul 2 v, show nI (2 * v) + 1 = nI (2 * v + 1) from nI_1 _, show nI (2 * x) + 1 = nI (2 * x + 1) from nI_1 _, gI_n (show 2 * x < 12 by omega) (by decide), gI_n (show 2 * v + 1 < 12 by omega) (by decide), gI_n (show 2 * v < 12 by omega) (by decide), gI_n (show 2 * x + 1 < 12 by omega) (by decide), cl_n (by omega), cl_n (by omega), cl_n (by omega), cl_n (by omega), c4, c5, d4, d5, pk_mul, pk_mul]
        have keep : (u.testBit x = false → befo ch mi v x) → ∃ b', LX11_findOrder_17 k4 f σ (nI u) (nI p) (nI v) (nI (x + 1)) = BX11_findOrder_108 k4 σ (nI u) (nI p) b' ∧ Bst ch mi u n b' := fun hk => ih (x + 1) _ (by omega) (by omega) (Or.inr ⟨v, rfl, by omega, a5, fun j hj hb hne => by
          by_cases q : j = x
          · rw [q] at hb ⊢; exact hk hb
          · exact a6 j (by omega) hb hne⟩)
        by_cases y : ch x * mi v ≤ ch v * mi x
        · rw [if_pos (nI_le y (by omega))]
          have hk : befo ch mi v x := by unfold befo; omega
          unfold BX11_findOrder_79
          rw [isIn_6 u hu x (by omega), bd_e]
          cases hx : u.testBit x with
          | true =>
            rw [if_neg (show ¬ (if true = true then (1 : Int32) else 0) = 0 by decide), bI_eq, nI_1]
            exact keep (fun _ => hk)
          | false =>
            rw [if_pos (show (if false = true then (1 : Int32) else 0) = 0 from rfl), if_pos rfl, bI_eq, nI_1]
            exact keep (fun _ => hk)
        · rw [if_neg (nI_ge (by omega) (by omega))]
          have hk : befo ch mi x v := by unfold befo; omega
          unfold BX11_findOrder_74 BX11_findOrder_79
          rw [isIn_6 u hu x (by omega), bd_e]
          cases hx : u.testBit x with
          | true =>
            rw [if_neg (show ¬ (if true = true then (1 : Int32) else 0) = 0 by decide), bI_eq, nI_1]
            exact keep (fun q => by rw [hx] at q; exact absurd q (by decide))
          | false =>
            rw [if_pos (show (if false = true then (1 : Int32) else 0) = 0 from rfl), if_neg ne10, bI_eq, nI_1]
            exact ih (x + 1) _ (by omega) (by omega) (Or.inr ⟨x, rfl, by omega, hx, fun j hj hb hne => by
              by_cases q : j = v
              · rw [q]; exact hk
              · exact befo_tr c2 d2 (h2 j (by omega)).2.1 hk (a6 j (by omega) hb q)⟩)
theorem ord_loop {n : Nat} {ch mi od : Nat → Nat} (hn : n ≤ 6) (ho : ∀ p, p < n → od p < n) (hs : Srt ch mi od n) : ∀ (f p u : Nat) (σ : St), p ≤ n → n < f + p → u < 64 → σ.1 20 = nI n → Sm n ch mi σ → (∀ j, j < n → (u.testBit j = true ↔ ∃ q, q < p ∧ od q = j)) → (∀ q, q < p → σ.2.2 14 q = nI (od q)) → ∃ σ', LX11_findOrder_4 f σ (nI u) (nI p) = some σ' ∧ σ'.1 = σ.1 ∧ (∀ k, k ≠ 14 → σ'.2.2 k = σ.2.2 k) ∧ ∀ q, q < n → σ'.2.2 14 q = nI (od q) := by
  intro f
  induction f with
  | zero => intro p u σ a1 a2; omega
  | succ f ih =>
    intro p u σ a1 a2 a3 a4 a5 a6 a7
    rw [LX11_findOrder_4]
    unfold BX11_findOrder_4
    rw [a4]
    by_cases z : p = n
    · subst z
      rw [if_pos (nI_le (by omega) (by omega))]
      exact ⟨σ, rfl, rfl, fun _ _ => rfl, a7⟩
    · rw [if_neg (nI_ge (show p < n by omega) (by omega))]
      obtain ⟨b, e1, e2⟩ := sel_loop (u := u) (p := p) hn a3 a4 a5 (LX11_findOrder_4 f) fu 0 (-1) (by omega) (by unfold fu; omega) (Or.inl ⟨rfl, fun j hj => by omega⟩)
      have hfree : u.testBit (od p) = false := by
        cases hb : u.testBit (od p) with
        | false => rfl
        | true =>
          obtain ⟨q, q1, q2⟩ := (a6 (od p) (ho p (by omega))).mp hb
          exact absurd q2 (befo_ne (hs q p q1 (by omega)))
      have hv : b = nI (od p) := by
        rcases e2 with ⟨-, g1⟩ | ⟨v, rfl, g1, g2, g3⟩
        · rw [g1 (od p) (ho p (by omega))] at hfree
          exact absurd hfree (by decide)
        · by_cases q : od p = v
          · rw [q]
          · exfalso
            have b1 := g3 (od p) (ho p (by omega)) hfree q
            obtain ⟨r, r1, r2⟩ := surj ho (fun i j hij hj => befo_ne (hs i j hij hj)) g1
            have hr : p < r := by
              rcases Nat.lt_trichotomy r p with y | y | y
              · have := (a6 v g1).mpr ⟨r, y, r2⟩
                rw [g2] at this
                exact absurd this (by decide)
              · exact absurd (y ▸ r2) q
              · exact y
            have b2 := hs p r hr r1
            rw [r2] at b2
            exact befo_as b1 b2
      rw [show LX11_findOrder_17 (LX11_findOrder_4 f) fu σ (nI u) (nI p) (-1) 0 = _ from e1, hv]
      unfold BX11_findOrder_108
      have h6 := ho p (by omega)
      obtain ⟨o1, o2⟩ := or_6 u a3 (od p) (by omega)
      rw [gI_n (show p < 6 by omega) (by decide), bS_eq, bI_eq, bI_eq, cl_n (by omega), nI_1, o1]
      obtain ⟨σ', f1, f2, f3, f4⟩ := ih (p + 1) (u ||| 2 ^ od p) (sA σ 14 p (nI (od p))) (by omega) (by omega) o2 a4 (fun j hj => a5 j hj) (fun j hj => by
        rw [Nat.testBit_or, Nat.testBit_two_pow]
        by_cases y : od p = j
        · rw [decide_eq_true y, Bool.or_true]
          exact ⟨fun _ => ⟨p, by omega, y⟩, fun _ => rfl⟩
        · rw [decide_eq_false y, Bool.or_false, a6 j hj]
          constructor
          · rintro ⟨q, q1, q2⟩; exact ⟨q, by omega, q2⟩
          · rintro ⟨q, q1, q2⟩
            refine ⟨q, ?_, q2⟩
            by_cases x : q = p
            · rw [x] at q2; exact absurd q2 y
            · omega) (fun q hq => by
        rw [sA_3]
        by_cases y : q = p
        · rw [if_pos ⟨rfl, y⟩, y]
        · rw [if_neg (by omega)]; exact a7 q (by omega))
      exact ⟨σ', f1, f2, fun k hk => by rw [f3 k hk, sA_22, if_neg hk], f4⟩
theorem order_sp {n : Nat} {ch mi od : Nat → Nat} {c m : St} (h : RS n ch mi od c m) : ∃ m', fX11_findOrder m = some m' ∧ m'.1 = m.1 ∧ (∀ k, k ≠ 14 → m'.2.2 k = m.2.2 k) ∧ ∀ q, q < n → m'.2.2 14 q = nI (od q) := by
  obtain ⟨s1, s2, s3, s4, s5, s6, s7⟩ := h
  exact ord_loop (ch := ch) (mi := mi) s1 (fun p hp => (s6 p hp).1) s7 fu 0 0 m (by omega) (by unfold fu; omega) (by decide) s3 (fun j hj => by
    obtain ⟨p1, p2, p3, p4, p5, p6, p7⟩ := s4 j hj
    exact ⟨p1, p2, p3, p5, p7⟩) (fun j _ => by rw [Nat.zero_testBit]; exact ⟨fun q => absurd q (by decide), fun ⟨q, q1, _⟩ => by omega⟩) (fun q hq => by omega)
theorem sameM_14 {m m' : St} (h1 : m'.1 = m.1) (h2 : ∀ k, k ≠ 14 → m'.2.2 k = m.2.2 k) : SameM m m' := ⟨fun k _ _ _ _ _ _ => by rw [h1], fun k _ _ _ _ _ _ hk => h2 k hk⟩
theorem sim_first (a0 : Int32) {c m : St} (h : Rel c m) : ∃ (r : Int32) (m1 : St), fX10_first a0 c = some r ∧ fX11_first a0 m = some (r, m1) ∧ Rel c m1 := by
  obtain ⟨n, ch, mi, od, hS⟩ := h.2.2.1
  obtain ⟨s1, s2, s3, s4, s5, s6, s7⟩ := id hS
  obtain ⟨m', e1, e2, e3, e4⟩ := order_sp hS
  unfold fX10_first fX11_first fX11_firstOf fX6_tried
  simp only [bd_e, within_sp, in_sp, ite10, i_64, show (5 : Int32).toInt = 5 by decide, show (5 : Int64).toInt = 5 by decide, lit_ti, lit_tl]
  by_cases v0 : 0 ≤ a0.toInt ∧ a0.toInt ≤ 5
  case neg => rw [if_neg v0, if_neg v0]; exact ⟨_, _, rfl, rfl, h⟩
  obtain ⟨x, -, y0, rfl⟩ := i_rg (a := a0) (lo := 0) (hi := 5) v0.1 v0.2
  rw [if_pos v0, if_pos v0, e1, bd_e, if_neg (nI_pos (show x < 2 ^ 31 by omega)), s2, e2, s3]
  have hR := h.same SameC.rf (sameM_14 e2 e3)
  by_cases z : n ≤ x
  · rw [if_pos (nI_le z (by omega)), if_pos (nI_le z (by omega))]
    exact ⟨_, _, rfl, rfl, hR⟩
  · rw [if_neg (nI_ge (show x < n by omega) (by omega)), if_neg (nI_ge (show x < n by omega) (by omega)), gI_n (show x < 6 by omega) (by decide), gI_n (show x < 6 by omega) (by decide), cl_n (by omega), e4 x (by omega), (s6 x (by omega)).2]
    exact ⟨_, _, rfl, rfl, hR⟩
theorem mean_loop {n : Nat} {ch mi od : Nat → Nat} {c m : St} (h : RS n ch mi od c m) (ho : ∀ q, q < n → m.2.2 14 q = nI (od q)) (w : Int32) : ∀ (f i a b : Nat), i ≤ n → n < f + i → a ≤ 99 * i → b ≤ 16 * 99 * 6 * i → ∃ M, M ≤ 99999 ∧ LX6_meanSixteenths_6 c f (nI a) (nI b) (nI i) = some (nI M) ∧ LX11_meanOf_12 f m w (lN b) (nI a) (nI i) = some (told M 16 w, m) := by
  intro f
  induction f with
  | zero => intro i a b a1 a2; omega
  | succ f ih =>
    intro i a b a1 a2 a3 a4
    obtain ⟨s1, s2, s3, s4, s5, s6, s7⟩ := id h
    have hsc : sc ch n ≤ 16 := s5
    rw [LX6_meanSixteenths_6, LX11_meanOf_12]
    unfold BX6_meanSixteenths_6 BX11_meanOf_12
    rw [s2, s3]
    by_cases z : i = n
    · subst z
      rw [if_pos (nI_le (by omega) (by omega)), if_pos (nI_le (by omega) (by omega))]
      unfold BX6_meanSixteenths_50 BX11_meanOf_69
      have w1 : a * (16 - sc ch i) ≤ 594 * 16 := Nat.mul_le_mul (by omega) (by omega)
      refine ⟨b + a * (16 - sc ch i), by omega, ?_, ?_⟩
      · rw [allC_sp h, bd_e, show (16 : Int32) - nI (sc ch i) = nI (16 - sc ch i) from pk_sub (a := 16) hsc, pk_mul, nI_add]
      · rw [six_sp h, bd_e, show (16 : Int32) - nI (sc ch i) = nI (16 - sc ch i) from pk_sub (a := 16) hsc, pk_mul, Nat.mul_comm, nI_l (by omega), lN_add, show (16 : Int64) = lN 16 from rfl, part_sp (by omega) (by decide) (by decide), bd_e]
    · obtain ⟨o1, o2⟩ := s6 i (by omega)
      obtain ⟨p1, p2, p3, p4, p5, p6, p7⟩ := s4 (od i) o1
      have w1 : (a + mi (od i)) * ch (od i) ≤ 594 * 16 := Nat.mul_le_mul (by omega) p1
      rw [if_neg (nI_ge (show i < n by omega) (by omega)), if_neg (nI_ge (show i < n by omega) (by omega)), gI_n (show i < 6 by omega) (by decide), bI_eq, cl_n (by omega), o2, gI_n (show od i < 6 by omega) (by decide), bI_eq, gI_n (show od i < 6 by omega) (by decide), bI_eq, bI_eq, cl_n (by omega), p6, p4, nI_add, pk_mul, nI_add, nI_1, gI_n (show i < 6 by omega) (by decide), ho i (by omega), show (2 : Int32) * nI (od i) = nI (2 * od i) from pk_mul 2 _, show nI (2 * od i) + 1 = nI (2 * od i + 1) from nI_1 _, gI_n (show 2 * od i + 1 < 12 by omega) (by decide), bI_eq, gI_n (show i < 6 by omega) (by decide), gI_n (show 2 * od i < 12 by omega) (by decide), bL_eq, bI_eq, cl_n (by omega), cl_n (by omega), p5, p7, nI_add, pk_mul, Nat.mul_comm (ch (od i)), nI_l (by omega), lN_add]
      exact ih (i + 1) _ _ (by omega) (by omega) (by omega) (by omega)
theorem sim_mean (a0 : Int32) {c m : St} (h : Rel c m) : ∃ (r : Int64) (c1 : St) (m1 : St), fX10_mean a0 c = some (r, c1) ∧ fX11_mean a0 m = some (r, m1) ∧ Rel c1 m1 := by
  obtain ⟨n, ch, mi, od, hS⟩ := h.2.2.1
  obtain ⟨m', e1, e2, e3, e4⟩ := order_sp hS
  unfold fX10_mean fX11_mean fX11_meanOf
  simp only [bd_e, within_sp, isTwo_sp, ite10, lit_ti]
  by_cases v0 : 0 ≤ a0.toInt ∧ a0.toInt ≤ 1
  case neg => rw [if_neg v0, if_neg v0]; exact ⟨_, _, _, rfl, rfl, h⟩
  have hR := h.same SameC.rf (sameM_14 e2 e3)
  have hS2 : RS n ch mi od c m' := hS.fr rfl rfl rfl rfl (by rw [e2]) (e3 13 (by decide))
  obtain ⟨M, m1, f1, f2⟩ := mean_loop hS2 e4 a0 fu 0 0 0 (by omega) (by have := hS.1; unfold fu; omega) (by omega) (by omega)
  rw [if_pos v0, if_pos v0, e1, bd_e, show LX11_meanOf_12 fu m' a0 0 0 0 = _ from f2, bd_e]
  unfold fX6_meanSixteenths
  rw [show LX6_meanSixteenths_6 c fu 0 0 0 = _ from f1, bd_e, nI_l (by omega), show (16 : Int64) = lN 16 from rfl, set_sp (by omega) (by decide) (by decide), bd_e, term_sp, bd_e]
  exact ⟨_, _, _, rfl, rfl, hR.same (SameC.tst _ _) SameM.rf⟩
