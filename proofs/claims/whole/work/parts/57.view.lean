/-! THE CAVE and THE PLAN as both hold them once the reference has read its texts; part, count -/
def Cv (k : Nat) (F : Nat → Nat → Nat) (c m : St) : Prop := k ≤ 16 ∧ c.1 2 = nI k ∧ m.1 8 = nI k ∧ ∀ p, p < k → (1 ≤ F p 0 ∧ F p 0 ≤ 9 ∧ 1 ≤ F p 1 ∧ F p 1 ≤ F p 2 ∧ F p 2 ≤ 9 ∧ F p 3 ≤ 1) ∧ (∀ s, s < 4 → c.2.2 (28 + p) s = nI (F p s)) ∧ (∀ s, s < 3 → m.2.2 7 (3 * p + s) = nI (F p s)) ∧ m.2.2 8 p = nI (F p 3)
def Pv (n : Nat) (t : Nat → Nat) (c m : St) : Prop := n ≤ 40 ∧ c.1 4 = nI n ∧ m.1 11 = nI n ∧ duep t n = false ∧ (∀ i, t i < 256) ∧ ∀ i, i < n → okp t i ∧ c.2.2 4 i = nI (t i) ∧ m.2.2 5 (80 + i) = nI (t i)
theorem szc_ok {n j : Nat} {t : Nat → Nat} (h : fst_bad (okc t) n j) {p : Nat} (hp : p < szc n j) : ∀ s, s < 4 → okc t (5 * p + s) := by
  intro s hs
  unfold szc at hp
  split at hp
  next c => exact h.2.1 _ (by omega)
  next => omega
theorem figc_bd {n j : Nat} {t : Nat → Nat} (h : fst_bad (okc t) n j) {p : Nat} (hp : p < szc n j) : 1 ≤ figc t p 0 ∧ figc t p 0 ≤ 9 ∧ 1 ≤ figc t p 1 ∧ figc t p 1 ≤ figc t p 2 ∧ figc t p 2 ≤ 9 ∧ figc t p 3 ≤ 1 := by
  have h0 := (szc_ok h hp 0 (by decide)).2.2.1 (by omega)
  have h1 := (szc_ok h hp 1 (by decide)).2.2.1 (by omega)
  have h2 := (szc_ok h hp 2 (by decide)).2.2.1 (by omega)
  have h3 := (szc_ok h hp 2 (by decide)).2.2.2 (by omega)
  rw [show 5 * p + 2 - 1 = 5 * p + 1 by omega] at h3
  have e0 : figc t p 0 = t (5 * p + 0) - 48 := rfl
  have e1 : figc t p 1 = t (5 * p + 1) - 48 := rfl
  have e2 : figc t p 2 = t (5 * p + 2) - 48 := rfl
  have e3 : figc t p 3 ≤ 1 := by
    unfold figc
    rw [if_neg (by decide)]
    split <;> omega
  rw [e0, e1, e2]
  omega
theorem reads_sp {c m : St} (h : Rel c m) : ∃ (m1 : St) (k n : Nat) (F : Nat → Nat → Nat) (t : Nat → Nat), fX11_reads m = some m1 ∧ frR m m1 ∧ Cv k F c m1 ∧ Pv n t c m1 := by
  obtain ⟨⟨n0, n1, t0, t1, ⟨h1, h2, h3, h4, h5, h6, h7, h8, h9, h10, h11, h12⟩, ⟨j, k1, k2, k3, k4⟩, ⟨i, l1, l2, l3⟩⟩, -⟩ := id h
  obtain ⟨r, m1, e1, ⟨j', g1, g2, g3, g4⟩, e3, e4⟩ := readsCave_sp h1 h3 h7 h11
  obtain rfl := fst_bad_u k1 g1
  obtain ⟨r2, m2, f1, ⟨i', f2, f3, f4⟩, f5⟩ := readsPlan_sp (m := m1) h2 h4 (by rw [e3.2 6 (by decide) (by decide)]; exact h8) (fun i hi => by rw [e3.2 5 (by decide) (by decide)]; exact h12 i hi)
  obtain rfl := fst_bad_u l1 f2
  refine ⟨m2, szc n0 j, szp t1 n1 i, figc t0, t1, ?_, ⟨fun k a b d => ?_, fun k a b => ?_⟩, ⟨?_, k2, ?_, fun p hp => ⟨figc_bd k1 hp, k4 p hp, fun s hs => ?_, ?_⟩⟩, ⟨?_, l2, f4, ?_, h4, fun q hq => ?_⟩⟩
  · unfold fX11_reads
    rw [e1, bd_e, f1, bd_e]
  · rw [f5.1 k a d, e3.1 k a b d]
  · rw [f5.2, e3.2 k a b]
  · unfold szc
    split <;> omega
  · rw [f5.1 8 (by decide) (by decide), g3]
  · rw [f5.2]
    exact (g4 p hp).1 s hs
  · rw [f5.2]
    exact (g4 p hp).2
  · unfold szp
    split <;> omega
  · unfold szp
    split
    next c => exact c.2
    next => rfl
  · unfold szp at hq
    split at hq
    next c =>
      refine ⟨l1.2.1 q (by omega), h10 q hq, ?_⟩
      rw [f5.2, e3.2 5 (by decide) (by decide)]
      exact h12 q hq
    next => omega
theorem figure_n {k : Nat} {F : Nat → Nat → Nat} {c m : St} (h : Cv k F c m) {p s : Nat} (hp : p < k) (hs : s < 4) : fX1_figure (nI p) (nI s) c = some (nI (F p s)) := by
  obtain ⟨h1, h2, h3, h4⟩ := h
  unfold fX1_figure
  rw [if_neg (nI_pos (show p < 2 ^ 31 by omega)), h2, if_neg (nI_ge hp (by omega)), if_neg (nI_pos (show s < 2 ^ 31 by omega)), if_pos (show nI s ≤ (3 : Int32) from nI_le (b := 3) (by omega) (by decide)), gI_n (show p < 16 by omega) (by decide), gI_n hs (by decide), cl_n (by omega), cl_n (by omega), (h4 p hp).2.1 s hs]
theorem figure_e {k : Nat} {F : Nat → Nat → Nat} {c m : St} (h : Cv k F c m) {p : Nat} (hp : k ≤ p) (hp2 : p < 2 ^ 31) (s : Int32) : fX1_figure (nI p) s c = some 0 := by
  unfold fX1_figure
  rw [if_neg (nI_pos hp2), h.2.1, if_pos (nI_le hp hp2)]
theorem sim_part (a0 a1 : Int32) {c m : St} (h : Rel c m) : ∃ (r : Int32) (m1 : St), fX10_part a0 a1 c = some r ∧ fX11_part_ a0 a1 m = some (r, m1) ∧ Rel c m1 := by
  obtain ⟨m1, k, n, F, t, e1, e2, e3, e4⟩ := reads_sp h
  have hR := h.same SameC.rf e2.same
  obtain ⟨h1, h2, h3, h4⟩ := id e3
  unfold fX10_part fX11_part_ fX1_size
  have lk : (nI k - 1).toInt = (k : Int) - 1 := pk_sub_toInt (a := k) (b := 1) (by omega) (by decide)
  simp only [e1, bd_e, within_sp, in_sp, ite10, i_64, h2, h3, lk, show (0 : Int32).toInt = 0 by decide, show (0 : Int64).toInt = 0 by decide, show (3 : Int32).toInt = 3 by decide, show (3 : Int64).toInt = 3 by decide]
  by_cases v0 : 0 ≤ a0.toInt ∧ a0.toInt ≤ (k : Int) - 1
  · rw [if_pos v0, if_pos v0]
    by_cases v1 : 0 ≤ a1.toInt ∧ a1.toInt ≤ 3
    · rw [if_pos v1, if_pos v1]
      obtain ⟨p, -, hp, rfl⟩ := i_rg (a := a0) (lo := 0) (hi := k - 1) v0.1 (by omega)
      obtain ⟨s, -, hs, rfl⟩ := i_rg (a := a1) (lo := 0) (hi := 3) v1.1 v1.2
      rw [i_ti (by omega)] at v0
      have hpk : p < k := by omega
      rw [figure_n e3 hpk (by omega), bd_e]
      unfold fX11_partOf
      obtain ⟨b1, b2, b3, b4⟩ := h4 p hpk
      by_cases hs3 : s = 3
      · subst hs3
        rw [if_pos (show nI 3 = (3 : Int32) from rfl), gI_n (show p < 16 by omega) (by decide), cl_n (by omega), b4]
        by_cases hz : F p 3 = 0
        · rw [hz, if_pos (show nI 0 = (0 : Int32) from rfl), bd_e]
          exact ⟨_, _, rfl, rfl, hR⟩
        · rw [show F p 3 = 1 by omega, if_neg (show ¬ nI 1 = (0 : Int32) by decide), bd_e]
          exact ⟨_, _, rfl, rfl, hR⟩
      · rw [if_neg (show ¬ nI s = (3 : Int32) from ne_n (b := 3) hs3 (by omega) (by decide)), show (3 : Int32) * nI p + nI s = nI (3 * p + s) from idx_n 3 p s, gI_n (show 3 * p + s < 48 by omega) (by decide), cl_n (by omega), b3 s (by omega), bd_e]
        exact ⟨_, _, rfl, rfl, hR⟩
    · rw [if_neg v1, if_neg v1]
      exact ⟨_, _, rfl, rfl, hR⟩
  · rw [if_neg v0, if_neg v0]
    exact ⟨_, _, rfl, rfl, hR⟩
/-- sums of figures -/
def sm (F : Nat → Nat → Nat) (s : Nat) : Nat → Nat
  | 0 => 0
  | k + 1 => sm F s k + F k s
theorem sm_le {k : Nat} {F : Nat → Nat → Nat} {c m : St} (h : Cv k F c m) {s : Nat} (hs : s < 3) : ∀ n, n ≤ k → sm F s n ≤ 9 * n := by
  intro n
  induction n with
  | zero => intro _; exact Nat.le_refl _
  | succ n ih =>
    intro hn
    have := ih (by omega)
    obtain ⟨b1, -⟩ := h.2.2.2 n (by omega)
    show sm F s n + F n s ≤ _
    rcases (show s = 0 ∨ s = 1 ∨ s = 2 by omega) with rfl | rfl | rfl <;> omega
theorem sum_loop {k : Nat} {F : Nat → Nat → Nat} {c m : St} (h : Cv k F c m) {s n : Nat} (hs : s < 3) (hn : n ≤ k) : ∀ (f i : Nat), i ≤ n → n < f + i → LX1_sum_5 c f (nI s) (nI n) (nI (sm F s i)) (nI i) = some (nI (sm F s n)) := by
  intro f
  induction f with
  | zero => intro i h1 h2; omega
  | succ f ih =>
    intro i h1 h2
    have hk := h.1
    rw [LX1_sum_5]
    unfold BX1_sum_5
    by_cases hi : i = n
    · subst hi
      rw [if_pos (nI_le (Nat.le_refl _) (by omega))]
    · rw [if_neg (nI_ge (by omega) (by omega)), h.2.1, if_neg (nI_ge (show i < k by omega) (by omega)), figure_n h (by omega) (by omega), bd_e, bI_eq, bI_eq, nI_add, nI_1]
      exact ih (i + 1) (by omega) (by omega)
theorem sum_sp {k : Nat} {F : Nat → Nat → Nat} {c m : St} (h : Cv k F c m) {s n : Nat} (hs : s < 3) (hn : n ≤ k) : fX1_sum (nI s) (nI n) c = some (nI (sm F s n)) := sum_loop h hs hn fu 0 (by omega) (by have := h.1; unfold fu; omega)
theorem allIn_sp {k : Nat} {F : Nat → Nat → Nat} {c m : St} (h : Cv k F c m) : fX1_allIn c = some (nI (sm F 0 k)) := by
  unfold fX1_allIn
  rw [h.2.1, show (0 : Int32) = nI 0 from rfl, sum_sp h (by decide) (Nat.le_refl _), bd_e]
theorem inAll_loop {k : Nat} {F : Nat → Nat → Nat} {c m : St} (h : Cv k F c m) : ∀ (f i : Nat), i ≤ k → k < f + i → LX11_inAll_4 m f (nI (sm F 0 i)) (nI i) = some (nI (sm F 0 k)) := by
  intro f
  induction f with
  | zero => intro i h1 h2; omega
  | succ f ih =>
    intro i h1 h2
    have hk := h.1
    rw [LX11_inAll_4]
    unfold BX11_inAll_4
    rw [h.2.2.1]
    by_cases hi : i = k
    · subst hi
      rw [if_pos (nI_le (Nat.le_refl _) (by omega))]
    · rw [if_neg (nI_ge (show i < k by omega) (by omega)), show (3 : Int32) * nI i = nI (3 * i) from pk_mul 3 i, gI_n (show 3 * i < 48 by omega) (by decide), cl_n (by omega), show m.2.2 7 (3 * i) = nI (F i 0) from (h.2.2.2 i (by omega)).2.2.1 0 (by decide), bI_eq, bI_eq, nI_add, nI_1]
      exact ih (i + 1) (by omega) (by omega)
theorem inAll_sp {k : Nat} {F : Nat → Nat → Nat} {c m : St} (h : Cv k F c m) : fX11_inAll m = some (nI (sm F 0 k)) := inAll_loop h fu 0 (by omega) (by have := h.1; unfold fu; omega)
theorem count_c {c m m1 : St} (h : Rel c m) {k n : Nat} {F : Nat → Nat → Nat} {t : Nat → Nat} (e2 : frR m m1) (e3 : Cv k F c m1) (e4 : Pv n t c m1) (a0 : Int32) : ∃ r, fX10_count a0 c = some r ∧ (fX11_reads m = some m1 → fX11_count a0 m = some (r, m1)) := by
  have hR := h.same SameC.rf e2.same
  obtain ⟨⟨n0, n1, t0, t1, ⟨h1, h2, h3, h4, h5, h6, h7, h8, -⟩, -, -⟩, ⟨g, w, g1, g2, g3, g4, g5⟩, ⟨ns, ch, mi, od, s1, s2, s3, -⟩, ⟨nc, pl, ow, re, wy, c1, c2, c3, -⟩, hh, -⟩ := id hR
  have gg : ∀ {α : Type} (k : Option α), gIn ((2 : Int32) - 2) 2 k = k := fun k => g02 k
  have gg3 : ∀ {α : Type} (k : Option α), gIn ((3 : Int32) - 2) 2 k = k := fun k => g12 k
  unfold fX10_count fX11_count fX1_size fX4_size fX7_length_1 fX7_length_3 fX3_party fX6_size fX0_size fX5_latestFinding
  by_cases q0 : a0 = 0
  · subst q0; exact ⟨_, rfl, fun e1 => by rw [e1, bd_e, if_pos rfl, e3.2.1, e3.2.2.1]⟩
  by_cases q1 : a0 = 1
  · subst q1; exact ⟨_, rfl, fun e1 => by rw [e1, bd_e, if_neg q0, if_pos rfl, e4.2.1, e4.2.2.1]⟩
  by_cases q2 : a0 = 2
  · subst q2; exact ⟨_, rfl, fun e1 => by rw [e1, bd_e, if_neg q0, if_neg q1, if_pos rfl, gg, show ((2 : Int32) - 2).toNatClampNeg = 0 by decide, h7, h5]⟩
  by_cases q3 : a0 = 3
  · subst q3; exact ⟨_, rfl, fun e1 => by rw [e1, bd_e, if_neg q0, if_neg q1, if_neg q2, if_pos rfl, gg3, show ((3 : Int32) - 2).toNatClampNeg = 1 by decide, h8, h6]⟩
  by_cases q4 : a0 = 4
  · subst q4; exact ⟨_, rfl, fun e1 => by rw [e1, bd_e, if_neg q0, if_neg q1, if_neg q2, if_neg q3, if_pos rfl, g3, g4]⟩
  by_cases q5 : a0 = 5
  · subst q5; exact ⟨nI (sm F 0 k), by rw [if_neg q0, if_neg q1, if_neg q2, if_neg q3, if_neg q4, if_pos rfl, allIn_sp e3, bd_e], fun e1 => by rw [e1, bd_e, if_neg q0, if_neg q1, if_neg q2, if_neg q3, if_neg q4, if_pos rfl, inAll_sp e3, bd_e]⟩
  by_cases q6 : a0 = 6
  · subst q6; exact ⟨_, rfl, fun e1 => by rw [e1, bd_e, if_neg q0, if_neg q1, if_neg q2, if_neg q3, if_neg q4, if_neg q5, if_pos rfl, s2, s3]⟩
  by_cases q7 : a0 = 7
  · subst q7; exact ⟨_, rfl, fun e1 => by rw [e1, bd_e, if_neg q0, if_neg q1, if_neg q2, if_neg q3, if_neg q4, if_neg q5, if_neg q6, if_pos rfl, c2, c3]⟩
  by_cases q8 : a0 = 8
  · subst q8; exact ⟨_, rfl, fun e1 => by rw [e1, bd_e, if_neg q0, if_neg q1, if_neg q2, if_neg q3, if_neg q4, if_neg q5, if_neg q6, if_neg q7, if_pos rfl, hh]⟩
  exact ⟨-2, by rw [if_neg q0, if_neg q1, if_neg q2, if_neg q3, if_neg q4, if_neg q5, if_neg q6, if_neg q7, if_neg q8], fun e1 => by rw [e1, bd_e, if_neg q0, if_neg q1, if_neg q2, if_neg q3, if_neg q4, if_neg q5, if_neg q6, if_neg q7, if_neg q8]⟩
theorem sim_count (a0 : Int32) {c m : St} (h : Rel c m) : ∃ (r : Int32) (m1 : St), fX10_count a0 c = some r ∧ fX11_count a0 m = some (r, m1) ∧ Rel c m1 := by
  obtain ⟨m1, k, n, F, t, e1, e2, e3, e4⟩ := reads_sp h
  obtain ⟨r, f1, f2⟩ := count_c h e2 e3 e4 a0
  exact ⟨r, m1, f1, f2 e1, h.same SameC.rf e2.same⟩
