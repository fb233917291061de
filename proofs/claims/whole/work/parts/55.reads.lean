/-! texts as the reference reads them -/
theorem z_cl : (0 : Int32).toNatClampNeg = 0 ∧ (1 : Int32).toNatClampNeg = 1 ∧ (2 : Int32).toNatClampNeg = 2 ∧ (3 : Int32).toNatClampNeg = 3 := by decide
theorem g02 {α : Type} (k : Option α) : gIn 0 2 k = k := gI_n (n := 0) (by decide) (by decide)
theorem g12 {α : Type} (k : Option α) : gIn 1 2 k = k := gI_n (n := 1) (by decide) (by decide)
theorem here0_sp {m : St} {n a : Nat} {t : Nat → Nat} (ha : a ≤ 119) (hn : n ≤ 79) (h7 : m.1 7 = nI a) (hT : m.2.2 6 0 = nI n) (hB : ∀ i, i < n → m.2.2 5 i = nI (t i)) : fX11_here 0 m = some (if a < n then nI (t a) else -1) := by
  unfold fX11_here
  rw [g02, z_cl.1, hT, h7, show (80 : Int32) * 0 + nI a = nI (80 * 0 + a) from idx_n 80 0 a]
  by_cases h : a < n
  · rw [if_neg (nI_ge h (by omega)), gI_n (show 80 * 0 + a < 120 by omega) (by decide), cl_n (by omega), if_pos h, show 80 * 0 + a = a by omega, hB a h]
  · rw [if_pos (nI_le (by omega) (by omega)), if_neg h]
theorem here1_sp {m : St} {n a : Nat} {t : Nat → Nat} (ha : a ≤ 100) (hn : n ≤ 40) (h7 : m.1 7 = nI a) (hT : m.2.2 6 1 = nI n) (hB : ∀ i, i < n → m.2.2 5 (80 + i) = nI (t i)) : fX11_here 1 m = some (if a < n then nI (t a) else -1) := by
  unfold fX11_here
  rw [g12, z_cl.2.1, hT, h7, show (80 : Int32) * 1 + nI a = nI (80 * 1 + a) from idx_n 80 1 a]
  by_cases h : a < n
  · rw [if_neg (nI_ge h (by omega)), gI_n (show 80 * 1 + a < 120 by omega) (by decide), cl_n (by omega), if_pos h, show 80 * 1 + a = 80 + a by omega, hB a h]
  · rw [if_pos (nI_le (by omega) (by omega)), if_neg h]
theorem v48_ti {n a : Nat} {t : Nat → Nat} (ht : ∀ i, t i < 256) : ((if a < n then nI (t a) else -1) - 48).toInt = if a < n then (t a : Int) - 48 else -49 := by
  by_cases h : a < n
  · rw [if_pos h, if_pos h]
    exact pk_sub_toInt (a := t a) (b := 48) (by have := ht a; omega) (by decide)
  · rw [if_neg h, if_neg h]
    decide
theorem rp_step {m : St} {n p k : Nat} {t : Nat → Nat} (hk : k < 3) (hp : p < 16) (hn : n ≤ 79) (ht : ∀ i, t i < 256) (h7 : m.1 7 = nI (5 * p + k)) (h8 : m.1 8 = nI p) (hT : m.2.2 6 0 = nI n) (hB : ∀ i, i < n → m.2.2 5 i = nI (t i)) (h2 : k = 2 → 49 ≤ t (5 * p + 1) ∧ m.2.2 7 (3 * p + 1) = nI (t (5 * p + 1) - 48)) (K : St → Int32 → Option (Int32 × St)) :
    (5 * p + k < n ∧ okc t (5 * p + k) ∧ BX11_readsPart_13 K m (nI k) = K (sI (sA m 7 (3 * p + k) (nI (figc t p k))) 7 (nI (5 * p + (k + 1)))) (nI (k + 1))) ∨ (¬ (5 * p + k < n ∧ okc t (5 * p + k)) ∧ BX11_readsPart_13 K m (nI k) = some (0, m)) := by
  unfold BX11_readsPart_13
  have hm : (5 * p + k) % 5 = k := by omega
  rw [if_neg (show ¬ (3 : Int32) ≤ nI k from nI_ge (a := k) (b := 3) hk (by decide)), here0_sp (by omega) hn h7 hT hB, bd_e, bI_eq, h8]
  have hv := v48_ti (n := n) (a := 5 * p + k) ht
  generalize hvv : (if 5 * p + k < n then nI (t (5 * p + k)) else -1) - 48 = v at hv
  have e1 : (3 : Int32) * nI p + 1 = nI (3 * p + 1) := idx_n 3 p 1
  have ek : (3 : Int32) * nI p + nI k = nI (3 * p + k) := idx_n 3 p k
  have body : ∀ lo : Int64, (5 * p + k < n ∧ okc t (5 * p + k) ↔ lo.toInt ≤ v.toInt ∧ v.toInt ≤ 9) → ((5 * p + k < n ∧ okc t (5 * p + k) ∧ BX11_readsPart_52 K m (nI k) v lo v.toInt64 = K (sI (sA m 7 (3 * p + k) (nI (figc t p k))) 7 (nI (5 * p + (k + 1)))) (nI (k + 1))) ∨ (¬ (5 * p + k < n ∧ okc t (5 * p + k)) ∧ BX11_readsPart_52 K m (nI k) v lo v.toInt64 = some (0, m))) := by
    intro lo hlo
    unfold BX11_readsPart_52
    rw [in_sp, bd_e, ite10, i_64, show (9 : Int64).toInt = 9 by decide]
    by_cases hc : 5 * p + k < n ∧ okc t (5 * p + k)
    · left
      refine ⟨hc.1, hc.2, ?_⟩
      rw [if_pos (hlo.mp hc), h8, ek, gI_n (show 3 * p + k < 48 by omega) (by decide), bS_eq, bS_eq, bI_eq, cl_n (by omega), sA_1, h7, nI_1, nI_1]
      have hv2 : v = nI (figc t p k) := by
        unfold figc
        rw [if_pos hk, ← hvv, if_pos hc.1]
        exact sub48 (by have := (hc.2.2.2.1 (by omega)).1; omega)
      rw [hv2]
      rfl
    · right
      exact ⟨hc, by rw [if_neg (fun q => hc (hlo.mpr q))]⟩
  by_cases hk2 : k = 2
  · subst hk2
    obtain ⟨k1, k2⟩ := h2 rfl
    rw [if_pos (show nI 2 = (2 : Int32) by decide), e1, gI_n (show 3 * p + 1 < 48 by omega) (by decide), cl_n (by omega), k2]
    refine body _ ?_
    rw [i_64, i_ti (by have := ht (5 * p + 1); omega), hv]
    constructor
    · rintro ⟨c1, c2⟩
      rw [if_pos c1]
      have d1 := c2.2.2.1 (by omega)
      have d2 := c2.2.2.2 hm
      rw [show 5 * p + 2 - 1 = 5 * p + 1 by omega] at d2
      omega
    · intro c
      by_cases c1 : 5 * p + 2 < n
      · rw [if_pos c1] at c
        refine ⟨c1, by omega, by omega, fun _ => by omega, fun _ => ?_⟩
        rw [show 5 * p + 2 - 1 = 5 * p + 1 by omega]
        omega
      · rw [if_neg c1] at c
        omega
  · rw [if_neg (show ¬ nI k = (2 : Int32) from ne_n (b := 2) hk2 (by omega) (by decide))]
    refine body 1 ?_
    rw [show (1 : Int64).toInt = 1 by decide, hv]
    constructor
    · rintro ⟨c1, c2⟩
      rw [if_pos c1]
      have d1 := c2.2.2.1 (by omega)
      omega
    · intro c
      by_cases c1 : 5 * p + k < n
      · rw [if_pos c1] at c
        exact ⟨c1, by omega, by omega, fun _ => by omega, by omega⟩
      · rw [if_neg c1] at c
        omega
theorem rp_rope {m : St} {n p : Nat} {t : Nat → Nat} (hp : p < 16) (hn : n ≤ 79) (ht : ∀ i, t i < 256) (h7 : m.1 7 = nI (5 * p + 3)) (h8 : m.1 8 = nI p) (hT : m.2.2 6 0 = nI n) (hB : ∀ i, i < n → m.2.2 5 i = nI (t i)) :
    (5 * p + 3 < n ∧ okc t (5 * p + 3) ∧ BX11_readsPart_93 m = some (1, sI (sI (sA m 8 p (nI (figc t p 3))) 7 (nI (5 * p + 4))) 8 (nI (p + 1)))) ∨ (¬ (5 * p + 3 < n ∧ okc t (5 * p + 3)) ∧ BX11_readsPart_93 m = some (0, m)) := by
  have hm : (5 * p + 3) % 5 = 3 := by omega
  have hh := here0_sp (m := m) (a := 5 * p + 3) (by omega) hn h7 hT hB
  have tail : ∀ y : Int32, (y = 0 ∨ y = 1) → BX11_readsPart_138 m y (nI p) = some (1, sI (sI (sA m 8 p y) 7 (nI (5 * p + 4))) 8 (nI (p + 1))) := by
    intro y hy
    unfold BX11_readsPart_138
    rw [gB_pos hy, gI_n hp (by decide), bS_eq, bS_eq, bS_eq, cl_n (by omega), sA_1, h7, nI_1]
    show some ((1 : Int32), sI _ 8 (m.1 8 + 1)) = _
    rw [h8, nI_1]
  unfold BX11_readsPart_93 BX11_readsPart_115
  rw [hh, bd_e, bd_e, h8]
  by_cases hc : 5 * p + 3 < n
  · rw [if_pos hc]
    by_cases h1 : t (5 * p + 3) = 114
    · rw [h1, if_pos (show nI 114 = (114 : Int32) from rfl), if_pos (show nI 114 = (114 : Int32) from rfl), tail 1 (Or.inr rfl)]
      left
      refine ⟨hc, ⟨by omega, fun _ => Or.inl h1, by omega, by omega⟩, ?_⟩
      unfold figc
      rw [if_neg (by omega), if_pos h1]
      rfl
    · have n1 : ¬ nI (t (5 * p + 3)) = (114 : Int32) := ne_n (b := 114) h1 (by have := ht (5 * p + 3); omega) (by decide)
      rw [if_neg n1, if_neg n1, bd_e]
      by_cases h2 : t (5 * p + 3) = 46
      · rw [if_pos (show nI (t (5 * p + 3)) = (46 : Int32) by rw [h2]; rfl), tail 0 (Or.inl rfl)]
        left
        refine ⟨hc, ⟨by omega, fun _ => Or.inr h2, by omega, by omega⟩, ?_⟩
        unfold figc
        rw [if_neg (by omega), if_neg h1]
        rfl
      · rw [if_neg (show ¬ nI (t (5 * p + 3)) = (46 : Int32) from ne_n (b := 46) h2 (by have := ht (5 * p + 3); omega) (by decide))]
        right
        refine ⟨fun q => ?_, rfl⟩
        rcases q.2.2.1 hm with q | q
        · exact h1 q
        · exact h2 q
  · rw [if_neg hc, if_neg (show ¬ (-1 : Int32) = 114 by decide), bd_e, if_neg (show ¬ (-1 : Int32) = 46 by decide)]
    right
    exact ⟨fun q => hc q.1, rfl⟩
/-- what reading texts leaves as it was -/
def frR (m m' : St) : Prop := (∀ k, k ≠ 7 → k ≠ 8 → k ≠ 11 → m'.1 k = m.1 k) ∧ ∀ k, k ≠ 7 → k ≠ 8 → m'.2.2 k = m.2.2 k
theorem frR.rf {m : St} : frR m m := ⟨fun _ _ _ _ => rfl, fun _ _ _ => rfl⟩
theorem frR.tr {a b c : St} (h : frR a b) (g : frR b c) : frR a c := ⟨fun k x y z => (g.1 k x y z).trans (h.1 k x y z), fun k x y => (g.2 k x y).trans (h.2 k x y)⟩
theorem frR.same {a b : St} (h : frR a b) : SameM a b := ⟨fun k x y z _ _ _ => h.1 k x y z, fun k _ x y _ _ _ _ => h.2 k x y⟩
theorem rp_sp {m : St} {n p : Nat} {t : Nat → Nat} (hp : p < 16) (hn : n ≤ 79) (h5 : 5 * p ≤ n) (ht : ∀ i, t i < 256) (h7 : m.1 7 = nI (5 * p)) (h8 : m.1 8 = nI p) (hT : m.2.2 6 0 = nI n) (hB : ∀ i, i < n → m.2.2 5 i = nI (t i)) :
    ∃ (r : Int32) (m' : St), fX11_readsPart m = some (r, m') ∧ frR m m' ∧ (∀ k, k ≠ 7 → k ≠ 8 → m'.1 k = m.1 k) ∧ ((r = 1 ∧ 5 * p + 4 ≤ n ∧ (∀ q, 5 * p ≤ q → q < 5 * p + 4 → okc t q) ∧ m'.1 7 = nI (5 * p + 4) ∧ m'.1 8 = nI (p + 1) ∧ (∀ s, s < 3 → m'.2.2 7 (3 * p + s) = nI (figc t p s)) ∧ m'.2.2 8 p = nI (figc t p 3) ∧ (∀ q, q < 3 * p → m'.2.2 7 q = m.2.2 7 q) ∧ (∀ q, q < p → m'.2.2 8 q = m.2.2 8 q)) ∨ (r = 0 ∧ ∃ j, 5 * p ≤ j ∧ j < 5 * p + 4 ∧ j ≤ n ∧ (∀ q, 5 * p ≤ q → q < j → okc t q) ∧ (j < n → ¬ okc t j) ∧ m'.1 7 = nI j)) := by
  unfold fX11_readsPart
  rw [h8, if_neg (show ¬ nI p = (16 : Int32) from ne_n (b := 16) (by omega) (by omega) (by decide))]
  rw [show fu = 4996 + 1 + 1 + 1 + 1 from rfl, show (0 : Int32) = nI 0 from rfl, LX11_readsPart_13]
  rcases rp_step (m := m) (n := n) (p := p) (k := 0) (t := t) (by decide) hp hn ht h7 h8 hT hB (by omega) (LX11_readsPart_13 (4996 + 1 + 1 + 1)) with ⟨a1, a2, a3⟩ | ⟨a1, a3⟩
  · rw [a3, LX11_readsPart_13]
    obtain ⟨m1, hm1⟩ : ∃ x, x = sI (sA m 7 (3 * p + 0) (nI (figc t p 0))) 7 (nI (5 * p + (0 + 1))) := ⟨_, rfl⟩
    rw [← hm1]
    rcases rp_step (m := m1) (n := n) (p := p) (k := 1) (t := t) (by decide) hp hn ht (by rw [hm1]; rfl) (by rw [hm1]; exact h8) (by rw [hm1]; exact hT) (by rw [hm1]; exact hB) (by omega) (LX11_readsPart_13 (4996 + 1 + 1)) with ⟨b1, b2, b3⟩ | ⟨b1, b3⟩
    · rw [b3, LX11_readsPart_13]
      obtain ⟨m2, hm2⟩ : ∃ x, x = sI (sA m1 7 (3 * p + 1) (nI (figc t p 1))) 7 (nI (5 * p + (1 + 1))) := ⟨_, rfl⟩
      rw [← hm2]
      rcases rp_step (m := m2) (n := n) (p := p) (k := 2) (t := t) (by decide) hp hn ht (by rw [hm2]; rfl) (by rw [hm2, hm1]; exact h8) (by rw [hm2, hm1]; exact hT) (by rw [hm2, hm1]; exact hB) (fun _ => ⟨(b2.2.2.1 (by omega)).1, by rw [hm2, sI_2, sA_3, if_pos ⟨rfl, rfl⟩]; rfl⟩) (LX11_readsPart_13 (4996 + 1)) with ⟨c1, c2, c3⟩ | ⟨c1, c3⟩
      · rw [c3, LX11_readsPart_13]
        obtain ⟨m3, hm3⟩ : ∃ x, x = sI (sA m2 7 (3 * p + 2) (nI (figc t p 2))) 7 (nI (5 * p + (2 + 1))) := ⟨_, rfl⟩
        rw [← hm3]
        unfold BX11_readsPart_13
        rw [if_pos (show (3 : Int32) ≤ nI (2 + 1) by decide)]
        have fr3 : frR m m3 := by
          rw [hm3, hm2, hm1]
          refine ⟨fun k x y z => ?_, fun k x y => ?_⟩
          · rw [sI_1, if_neg x, sA_1, sI_1, if_neg x, sA_1, sI_1, if_neg x, sA_1]
          · rw [sI_2, sA_22, if_neg x, sI_2, sA_22, if_neg x, sI_2, sA_22, if_neg x]
        rcases rp_rope (m := m3) (n := n) (p := p) (t := t) hp hn ht (by rw [hm3]; rfl) (by rw [hm3, hm2, hm1]; exact h8) (by rw [hm3, hm2, hm1]; exact hT) (by rw [hm3, hm2, hm1]; exact hB) with ⟨d1, d2, d3⟩ | ⟨d1, d3⟩
        · rw [d3]
          refine ⟨_, _, rfl, ?_, fun k x y => ?_, Or.inl ⟨rfl, by omega, fun q hq1 hq2 => ?_, rfl, rfl, fun s hs => ?_, ?_, fun q hq => ?_, fun q hq => ?_⟩⟩
          · refine ⟨fun k x y z => ?_, fun k x y => ?_⟩
            · rw [sI_1, if_neg y, sI_1, if_neg x, sA_1]
              exact fr3.1 k x y z
            · rw [sI_2, sI_2, sA_22, if_neg y]
              exact fr3.2 k x y
          · rw [sI_1, if_neg y, sI_1, if_neg x, sA_1, hm3, hm2, hm1, sI_1, if_neg x, sA_1, sI_1, if_neg x, sA_1, sI_1, if_neg x, sA_1]
          · rcases (show q = 5 * p + 0 ∨ q = 5 * p + 1 ∨ q = 5 * p + 2 ∨ q = 5 * p + 3 by omega) with rfl | rfl | rfl | rfl
            · exact a2
            · exact b2
            · exact c2
            · exact d2
          · rw [sI_2, sI_2, sA_22, if_neg (by decide), hm3, sI_2, sA_3, hm2, sI_2, sA_3, hm1, sI_2, sA_3]
            rcases (show s = 0 ∨ s = 1 ∨ s = 2 by omega) with rfl | rfl | rfl
            · rw [if_neg (by omega), if_neg (by omega), if_pos ⟨rfl, rfl⟩]
            · rw [if_neg (by omega), if_pos ⟨rfl, rfl⟩]
            · rw [if_pos ⟨rfl, rfl⟩]
          · rw [sI_2, sI_2, sA_3, if_pos ⟨rfl, rfl⟩]
          · rw [sI_2, sI_2, sA_22, if_neg (by decide), hm3, sI_2, sA_3, if_neg (by omega), hm2, sI_2, sA_3, if_neg (by omega), hm1, sI_2, sA_3, if_neg (by omega)]
          · rw [sI_2, sI_2, sA_3, if_neg (by omega), hm3, sI_2, sA_22, if_neg (by decide), hm2, sI_2, sA_22, if_neg (by decide), hm1, sI_2, sA_22, if_neg (by decide)]
        · rw [d3]
          refine ⟨_, _, rfl, fr3, fun k x y => ?_, Or.inr ⟨rfl, 5 * p + 3, by omega, by omega, by omega, fun q hq1 hq2 => ?_, fun q w => d1 ⟨q, w⟩, by rw [hm3]; rfl⟩⟩
          · rw [hm3, hm2, hm1, sI_1, if_neg x, sA_1, sI_1, if_neg x, sA_1, sI_1, if_neg x, sA_1]
          · rcases (show q = 5 * p + 0 ∨ q = 5 * p + 1 ∨ q = 5 * p + 2 by omega) with rfl | rfl | rfl
            · exact a2
            · exact b2
            · exact c2
      · rw [c3]
        refine ⟨_, _, rfl, ?_, fun k x y => ?_, Or.inr ⟨rfl, 5 * p + 2, by omega, by omega, by omega, fun q hq1 hq2 => ?_, fun q w => c1 ⟨q, w⟩, by rw [hm2]; rfl⟩⟩
        · rw [hm2, hm1]
          refine ⟨fun k x y z => ?_, fun k x y => ?_⟩
          · rw [sI_1, if_neg x, sA_1, sI_1, if_neg x, sA_1]
          · rw [sI_2, sA_22, if_neg x, sI_2, sA_22, if_neg x]
        · rw [hm2, hm1, sI_1, if_neg x, sA_1, sI_1, if_neg x, sA_1]
        · rcases (show q = 5 * p + 0 ∨ q = 5 * p + 1 by omega) with rfl | rfl
          · exact a2
          · exact b2
    · rw [b3]
      refine ⟨_, _, rfl, ?_, fun k x y => ?_, Or.inr ⟨rfl, 5 * p + 1, by omega, by omega, by omega, fun q hq1 hq2 => ?_, fun q w => b1 ⟨q, w⟩, by rw [hm1]; rfl⟩⟩
      · rw [hm1]
        refine ⟨fun k x y z => ?_, fun k x y => ?_⟩
        · rw [sI_1, if_neg x, sA_1]
        · rw [sI_2, sA_22, if_neg x]
      · rw [hm1, sI_1, if_neg x, sA_1]
      · rcases (show q = 5 * p + 0 by omega) with rfl
        exact a2
  · rw [a3]
    exact ⟨_, _, rfl, frR.rf, fun _ _ _ => rfl, Or.inr ⟨rfl, 5 * p, by omega, by omega, h5, by omega, fun q w => a1 ⟨q, w⟩, h7⟩⟩
/-- THE CAVE as the reference has read it -/
def CM (n : Nat) (t : Nat → Nat) (r : Int32) (m : St) : Prop := ∃ j, fst_bad (okc t) n j ∧ r = (if j = n ∧ (n = 0 ∨ n % 5 = 4) then -1 else nI j) ∧ m.1 8 = nI (szc n j) ∧ ∀ q, q < szc n j → (∀ s, s < 3 → m.2.2 7 (3 * q + s) = nI (figc t q s)) ∧ m.2.2 8 q = nI (figc t q 3)
theorem rc_loop {n : Nat} {t : Nat → Nat} (hn : n ≤ 79) (ht : ∀ i, t i < 256) : ∀ (k p : Nat) (m : St), 5 * p ≤ n → n + 10 ≤ 5 * (k + p) → m.1 7 = nI (5 * p) → m.1 8 = nI p → m.2.2 6 0 = nI n → (∀ i, i < n → m.2.2 5 i = nI (t i)) → (∀ q, q < 5 * p → okc t q) → (∀ q, q < p → (∀ s, s < 3 → m.2.2 7 (3 * q + s) = nI (figc t q s)) ∧ m.2.2 8 q = nI (figc t q 3)) → 0 < n → ∃ (r : Int32) (m' : St), LX11_readsCave_25 k m 1 = some (r, m') ∧ CM n t r m' ∧ frR m m' ∧ m'.1 11 = m.1 11 := by
  intro k
  induction k with
  | zero => intro p m h1 h2; omega
  | succ k ih =>
    intro p m h5 h2 h7 h8 hT hB hok hrow hpos
    have hp : p < 16 := by omega
    rw [LX11_readsCave_25]
    unfold BX11_readsCave_25
    rw [if_neg ne10]
    obtain ⟨r, m1, e1, e2, e3, e4⟩ := rp_sp hp hn h5 ht h7 h8 hT hB
    rw [e1, bd_e, bI_eq, g02, z_cl.1, e2.2 6 (by decide) (by decide), hT]
    rcases e4 with ⟨rfl, f1, f2, f3, f4, f5, f6, f7, f8⟩ | ⟨rfl, j, f1, f2, f3, f4, f5, f6⟩
    · rw [if_neg ne10, f3]
      have hrow1 : ∀ q, q < p + 1 → (∀ s, s < 3 → m1.2.2 7 (3 * q + s) = nI (figc t q s)) ∧ m1.2.2 8 q = nI (figc t q 3) := fun q hq => by
        rcases (show q < p ∨ q = p by omega) with h | rfl
        · obtain ⟨r1, r2⟩ := hrow q h
          exact ⟨fun s hs => by rw [f7 _ (by omega)]; exact r1 s hs, by rw [f8 q h]; exact r2⟩
        · exact ⟨f5, f6⟩
      have hok1 : ∀ q, q < 5 * p + 4 → okc t q := fun q hq => by
        rcases (show q < 5 * p ∨ 5 * p ≤ q by omega) with h | h
        · exact hok q h
        · exact f2 q h hq
      by_cases hend : n = 5 * p + 4
      · rw [if_pos (nI_le (by omega) (by omega))]
        unfold BX11_readsCave_55 BX11_readsCave_56
        rw [if_neg ne10, if_pos rfl]
        unfold BX11_readsCave_85
        rw [if_pos rfl, bS_eq]
        have hk : ∃ k', k = k' + 1 := ⟨k - 1, by omega⟩
        obtain ⟨k', rfl⟩ := hk
        rw [LX11_readsCave_25]
        unfold BX11_readsCave_25
        rw [if_pos rfl]
        have hsz : szc n n = p + 1 := by
          unfold szc
          rw [if_pos ⟨rfl, Or.inr (by omega)⟩]
          omega
        refine ⟨_, _, rfl, ⟨n, ⟨Nat.le_refl _, fun i hi => hok1 i (by omega), by omega⟩, ?_, ?_, fun q hq => ?_⟩, ?_, ?_⟩
        · rw [if_pos ⟨rfl, Or.inr (by omega)⟩]
        · rw [sI_1, if_neg (by decide), f4, hsz]
        · rw [hsz] at hq
          exact hrow1 q hq
        · refine e2.tr ⟨fun k x y z => ?_, fun k x y => rfl⟩
          rw [sI_1, if_neg x]
        · rw [sI_1, if_neg (by decide)]
          exact e3 11 (by decide) (by decide)
      · rw [if_neg (nI_ge (by omega) (by omega))]
        unfold BX11_readsCave_56
        rw [if_neg ne10, if_neg ne10, here0_sp (a := 5 * p + 4) (t := t) (by omega) hn f3 (by rw [e2.2 6 (by decide) (by decide)]; exact hT) (fun i hi => by rw [e2.2 5 (by decide) (by decide)]; exact hB i hi), bd_e, if_pos (show 5 * p + 4 < n by omega)]
        by_cases hs : t (5 * p + 4) = 59
        · rw [if_pos (show nI (t (5 * p + 4)) = (59 : Int32) by rw [hs]; rfl)]
          unfold BX11_readsCave_85
          rw [if_neg ne10, bS_eq, f3, nI_1]
          obtain ⟨r, m2, g1, g2, g3, g4⟩ := ih (p + 1) (sI m1 7 (nI (5 * p + 4 + 1))) (by omega) (by omega) (by rw [sI_1, if_pos rfl]; rfl) (by rw [sI_1, if_neg (by decide)]; exact f4) (by rw [sI_2, e2.2 6 (by decide) (by decide)]; exact hT) (fun i hi => by rw [sI_2, e2.2 5 (by decide) (by decide)]; exact hB i hi) (fun q hq => by
              rcases (show q < 5 * p + 4 ∨ q = 5 * p + 4 by omega) with h | rfl
              · exact hok1 q h
              · exact ⟨fun _ => hs, by omega, by omega, by omega⟩) (fun q hq => hrow1 q hq) hpos
          refine ⟨r, m2, g1, g2, ?_, ?_⟩
          · refine (e2.tr (b := m1) (c := sI m1 7 (nI (5 * p + 4 + 1))) ⟨fun k x y z => ?_, fun k x y => rfl⟩).tr g3
            rw [sI_1, if_neg x]
          · rw [g4, sI_1, if_neg (by decide)]
            exact e3 11 (by decide) (by decide)
        · rw [if_neg (show ¬ nI (t (5 * p + 4)) = (59 : Int32) from ne_n (b := 59) hs (by have := ht (5 * p + 4); omega) (by decide))]
          unfold BX11_readsCave_75
          rw [bS_eq]
          have hsz : szc n (5 * p + 4) = 0 := by unfold szc; rw [if_neg (by omega)]
          refine ⟨_, _, rfl, ⟨5 * p + 4, ⟨by omega, hok1, fun _ q => hs (q.1 (by omega))⟩, ?_, ?_, fun q hq => ?_⟩, ?_, ?_⟩
          · rw [sI_1, if_neg (by decide), f3, if_neg (by omega)]
          · rw [sI_1, if_pos rfl, hsz]
            rfl
          · rw [hsz] at hq
            omega
          · refine e2.tr ⟨fun k x y z => ?_, fun k x y => rfl⟩
            rw [sI_1, if_neg y]
          · rw [sI_1, if_neg (by decide)]
            exact e3 11 (by decide) (by decide)
    · rw [if_pos rfl]
      unfold BX11_readsCave_55 BX11_readsCave_56
      rw [if_pos rfl]
      unfold BX11_readsCave_75
      rw [bS_eq]
      have hnw : ¬ (j = n ∧ (n = 0 ∨ n % 5 = 4)) := by omega
      have hsz : szc n j = 0 := by unfold szc; rw [if_neg hnw]
      refine ⟨_, _, rfl, ⟨j, ⟨f3, fun q hq => ?_, f5⟩, ?_, ?_, fun q hq => ?_⟩, ?_, ?_⟩
      · rcases (show q < 5 * p ∨ 5 * p ≤ q by omega) with h | h
        · exact hok q h
        · exact f4 q h hq
      · rw [sI_1, if_neg (by decide), f6, if_neg hnw]
      · rw [sI_1, if_pos rfl, hsz]
        rfl
      · rw [hsz] at hq
        omega
      · refine e2.tr ⟨fun k x y z => ?_, fun k x y => rfl⟩
        rw [sI_1, if_neg y]
      · rw [sI_1, if_neg (by decide)]
        exact e3 11 (by decide) (by decide)
theorem readsCave_sp {m : St} {n : Nat} {t : Nat → Nat} (hn : n ≤ 79) (ht : ∀ i, t i < 256) (hT : m.2.2 6 0 = nI n) (hB : ∀ i, i < n → m.2.2 5 i = nI (t i)) : ∃ (r : Int32) (m' : St), fX11_readsCave m = some (r, m') ∧ CM n t r m' ∧ frR m m' ∧ m'.1 11 = m.1 11 := by
  unfold fX11_readsCave
  rw [bS_eq, bS_eq, g02, z_cl.1]
  have hT2 : (sI (sI m 7 0) 8 0).2.2 6 0 = nI n := hT
  rw [hT2]
  have fr0 : frR m (sI (sI m 7 0) 8 0) := ⟨fun k x y z => by rw [sI_1, if_neg y, sI_1, if_neg x], fun _ _ _ => rfl⟩
  by_cases h0 : n = 0
  · subst h0
    rw [if_pos (show nI 0 ≤ (0 : Int32) by decide), show fu = 4999 + 1 from rfl, LX11_readsCave_25]
    unfold BX11_readsCave_25
    rw [if_pos rfl]
    exact ⟨_, _, rfl, ⟨0, ⟨Nat.le_refl _, by omega, by omega⟩, by rw [if_pos (by omega)], rfl, fun q hq => absurd hq (Nat.not_lt_zero _)⟩, fr0, rfl⟩
  · rw [if_neg (show ¬ nI n ≤ (0 : Int32) from nI_nle (by omega) (by omega))]
    obtain ⟨r, m', e1, e2, e3, e4⟩ := rc_loop hn ht fu 0 (sI (sI m 7 0) 8 0) (by omega) (by unfold fu; omega) rfl rfl hT hB (by omega) (by omega) (by omega)
    exact ⟨r, m', e1, e2, fr0.tr e3, e4⟩
/-- THE PLAN as the reference has read it -/
def PM (n : Nat) (t : Nat → Nat) (r : Int32) (m : St) : Prop := ∃ j, fst_bad (okp t) n j ∧ r = (if j = n ∧ duep t n = false then -1 else nI j) ∧ m.1 11 = nI (szp t n j)
def frQ (m m' : St) : Prop := (∀ k, k ≠ 7 → k ≠ 11 → m'.1 k = m.1 k) ∧ m'.2 = m.2
theorem rq_loop {n : Nat} {t : Nat → Nat} (hn : n ≤ 40) (ht : ∀ i, t i < 256) : ∀ (k a : Nat) (m : St), a ≤ n → n < k + a → m.1 7 = nI a → m.1 11 = 0 → m.2.2 6 1 = nI n → (∀ i, i < n → m.2.2 5 (80 + i) = nI (t i)) → (∀ q, q < a → okp t q) → duep t a = false → ∃ (r : Int32) (m' : St), LX11_readsPlan_10 k m = some (r, m') ∧ PM n t r m' ∧ frQ m m' := by
  intro k
  induction k with
  | zero => intro a m h1 h2; omega
  | succ k ih =>
    intro a m h1 h2 h7 h11 hT hB hok hd
    rw [LX11_readsPlan_10]
    unfold BX11_readsPlan_10
    rw [g12, z_cl.2.1, hT, h7]
    by_cases h : a = n
    · subst h
      rw [if_pos (nI_le (Nat.le_refl _) (by omega))]
      unfold BX11_readsPlan_95
      rw [g12, bS_eq, z_cl.2.1, hT]
      refine ⟨_, _, rfl, ⟨a, ⟨Nat.le_refl _, hok, by omega⟩, ?_, ?_⟩, fun k x y => ?_, rfl⟩
      · rw [if_pos ⟨rfl, hd⟩]
      · rw [sI_1, if_pos rfl]
        unfold szp
        rw [if_pos ⟨rfl, hd⟩]
      · rw [sI_1, if_neg y]
    · have ha : a < n := by omega
      have hta := ht a
      rw [if_neg (nI_ge ha (by omega)), here1_sp (a := a) (t := t) (by omega) hn h7 hT hB, bd_e, if_pos ha, step_sp hta, bd_e, ite10]
      have hokp : okp t a ↔ (t a = 43 ∨ t a = 45 ∨ t a = 117 ∨ t a = 120) := by
        unfold okp
        rw [hd]
        simp only [Bool.false_eq_true, if_false]
      by_cases hs : t a = 43 ∨ t a = 45 ∨ t a = 117 ∨ t a = 120
      · rw [if_pos hs, bd_e]
        have hdu : duep t (a + 1) = (!(duep t a) && (t a == 120)) := rfl
        by_cases hx : t a = 120
        · rw [if_pos (show nI (t a) = (120 : Int32) by rw [hx]; rfl), bS_eq, nI_1]
          have hd1 : duep t (a + 1) = true := by rw [hdu, hd, hx]; rfl
          rw [here1_sp (m := sI m 7 (nI (a + 1))) (a := a + 1) (t := t) (by omega) hn (by rw [sI_1, if_pos rfl]) hT hB, bd_e, in_sp, bd_e, ite10, i_64, show (48 : Int64).toInt = 48 by decide, show (51 : Int64).toInt = 51 by decide]
          have h71 : (sI m 7 (nI (a + 1))).1 7 = nI (a + 1) := by rw [sI_1, if_pos rfl]
          rw [h71]
          by_cases h2n : a + 1 < n
          · rw [if_pos h2n, i_ti (by have := ht (a + 1); omega)]
            by_cases hg : 48 ≤ t (a + 1) ∧ t (a + 1) ≤ 51
            · rw [if_pos (by omega), bS_eq, nI_1]
              have hd2 : duep t (a + 1 + 1) = false := by
                show (!(duep t (a + 1)) && (t (a + 1) == 120)) = false
                rw [hd1]
                rfl
              obtain ⟨r, m', e1, e2, e3⟩ := ih (a + 1 + 1) (sI (sI m 7 (nI (a + 1))) 7 (nI (a + 1 + 1))) (by omega) (by omega) (by rw [sI_1, if_pos rfl]) (by rw [sI_1, if_neg (by decide), sI_1, if_neg (by decide)]; exact h11) hT hB (fun q hq => by
                  rcases (show q < a ∨ q = a ∨ q = a + 1 by omega) with h | rfl | rfl
                  · exact hok q h
                  · exact hokp.mpr hs
                  · unfold okp
                    rw [hd1]
                    simp only [if_true]
                    exact hg) hd2
              refine ⟨r, m', e1, e2, fun k x y => ?_, e3.2⟩
              rw [e3.1 k x y, sI_1, if_neg x, sI_1, if_neg x]
            · rw [if_neg (by omega)]
              refine ⟨_, _, rfl, ⟨a + 1, ⟨by omega, fun q hq => ?_, fun _ q => ?_⟩, ?_, ?_⟩, fun k x y => ?_, rfl⟩
              · rcases (show q < a ∨ q = a by omega) with h | rfl
                · exact hok q h
                · exact hokp.mpr hs
              · unfold okp at q
                rw [hd1] at q
                simp only [if_true] at q
                exact hg q
              · rw [if_neg (by omega)]
              · rw [sI_1, if_neg (by decide), h11]
                unfold szp
                rw [if_neg (by omega)]
                rfl
              · rw [sI_1, if_neg x]
          · have hn1 : a + 1 = n := by omega
            rw [if_neg h2n, if_neg (by rw [i_m1]; omega)]
            refine ⟨_, _, rfl, ⟨a + 1, ⟨by omega, fun q hq => ?_, by omega⟩, ?_, ?_⟩, fun k x y => ?_, rfl⟩
            · rcases (show q < a ∨ q = a by omega) with h | rfl
              · exact hok q h
              · exact hokp.mpr hs
            · rw [← hn1, if_neg (by rw [hd1]; simp)]
            · rw [sI_1, if_neg (by decide), h11]
              unfold szp
              rw [← hn1, if_neg (by rw [hd1]; simp)]
              rfl
            · rw [sI_1, if_neg x]
        · rw [if_neg (show ¬ nI (t a) = (120 : Int32) from ne_n (b := 120) hx (by omega) (by decide)), bS_eq, nI_1]
          have hd1 : duep t (a + 1) = false := by rw [hdu, hd, show (t a == 120) = false by simp [hx]]; rfl
          obtain ⟨r, m', e1, e2, e3⟩ := ih (a + 1) (sI m 7 (nI (a + 1))) (by omega) (by omega) (by rw [sI_1, if_pos rfl]) (by rw [sI_1, if_neg (by decide)]; exact h11) hT hB (fun q hq => by
              rcases (show q < a ∨ q = a by omega) with h | rfl
              · exact hok q h
              · exact hokp.mpr hs) hd1
          refine ⟨r, m', e1, e2, fun k x y => ?_, e3.2⟩
          rw [e3.1 k x y, sI_1, if_neg x]
      · rw [if_neg hs]
        refine ⟨_, _, rfl, ⟨a, ⟨h1, hok, fun _ q => hs (hokp.mp q)⟩, ?_, ?_⟩, fun k x y => rfl, rfl⟩
        · rw [if_neg (by omega)]
        · rw [h11]
          unfold szp
          rw [if_neg (by omega)]
          rfl
theorem readsPlan_sp {m : St} {n : Nat} {t : Nat → Nat} (hn : n ≤ 40) (ht : ∀ i, t i < 256) (hT : m.2.2 6 1 = nI n) (hB : ∀ i, i < n → m.2.2 5 (80 + i) = nI (t i)) : ∃ (r : Int32) (m' : St), fX11_readsPlan m = some (r, m') ∧ PM n t r m' ∧ frQ m m' := by
  unfold fX11_readsPlan
  rw [bS_eq, bS_eq]
  obtain ⟨r, m', e1, e2, e3⟩ := rq_loop hn ht fu 0 (sI (sI m 11 0) 7 0) (by omega) (by unfold fu; omega) rfl rfl hT hB (by omega) rfl
  refine ⟨r, m', e1, e2, fun k x y => ?_, e3.2⟩
  rw [e3.1 k x y, sI_1, if_neg x, sI_1, if_neg y]
