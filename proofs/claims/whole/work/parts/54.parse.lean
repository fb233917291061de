/-! texts as the class parses them -/
theorem sub48 {b : Nat} (h : 48 ≤ b) : nI b - 48 = nI (b - 48) := pk_sub (a := b) (b := 48) h
theorem ne_n {a b : Nat} (h : ¬ a = b) (ha : a < 2 ^ 31) (hb : b < 2 ^ 31) : ¬ nI a = nI b := fun q => h ((nI_eq ha hb).mp q)
theorem accept_sp {t : Nat → Nat} {p s : Nat} (hp : p < 16) (hs : s < 5) (ht : ∀ i, t i < 256) (σ : St) (h2 : s = 2 → 49 ≤ t (5 * p + 1) ∧ σ.2.2 (28 + p) 1 = nI (t (5 * p + 1) - 48)) :
    ∃ (r : Int32) (σ' : St), fX1_accept (nI p) (nI s) (nI (t (5 * p + s))) σ = some (r, σ') ∧ (okc t (5 * p + s) ∧ r = 1 ∨ ¬ okc t (5 * p + s) ∧ r = 0) ∧ σ'.1 = σ.1 ∧ (∀ k, k ≠ 28 + p → σ'.2.2 k = σ.2.2 k) ∧ (∀ q, q ≠ s → σ'.2.2 (28 + p) q = σ.2.2 (28 + p) q) ∧ (s < 4 → okc t (5 * p + s) → σ'.2.2 (28 + p) s = nI (figc t p s)) := by
  have hm : (5 * p + s) % 5 = s := by omega
  have hb := ht (5 * p + s)
  have hb1 := ht (5 * p + 1)
  unfold fX1_accept
  rw [if_neg (nI_pos (show p < 2 ^ 31 by omega)), if_pos (show nI p < (16 : Int32) from nI_lt (b := 16) hp (by decide))]
  rcases (show s = 4 ∨ s = 3 ∨ s = 2 ∨ s < 2 by omega) with rfl | rfl | rfl | hs2
  · rw [if_neg (show ¬ nI 4 ≤ (3 : Int32) by decide)]
    by_cases h : t (5 * p + 4) = 59
    · rw [if_pos (show nI (t (5 * p + 4)) = 59 by rw [h]; rfl)]
      exact ⟨1, σ, rfl, Or.inl ⟨⟨fun _ => h, by omega, by omega, by omega⟩, rfl⟩, rfl, fun _ _ => rfl, fun _ _ => rfl, by omega⟩
    · rw [if_neg (show ¬ nI (t (5 * p + 4)) = 59 from ne_n (b := 59) h (by omega) (by decide))]
      exact ⟨0, σ, rfl, Or.inr ⟨fun q => h (q.1 hm), rfl⟩, rfl, fun _ _ => rfl, fun _ _ => rfl, by omega⟩
  · rw [if_pos (show nI 3 ≤ (3 : Int32) by decide), if_pos (show nI 3 = (3 : Int32) by decide), gI_n hp (by decide), cl_n (by omega), show (3 : Int32).toNatClampNeg = 3 by decide]
    have g3 : ∀ {α : Type} (k : Option α), gIn 3 4 k = k := fun k => gI_n (n := 3) (by decide) (by decide)
    rw [g3, g3, bS_eq, bS_eq]
    by_cases h : t (5 * p + 3) = 114
    · have h' : nI (t (5 * p + 3)) = 114 := by rw [h]; rfl
      rw [if_pos h', if_pos h']
      refine ⟨1, _, rfl, Or.inl ⟨⟨by omega, fun _ => Or.inl h, by omega, by omega⟩, rfl⟩, rfl, fun k hk => by rw [sA_22, if_neg hk], fun q hq => by rw [sA_3, if_neg (by omega)], fun _ _ => ?_⟩
      rw [sA_3, if_pos ⟨rfl, rfl⟩]
      unfold figc
      rw [if_neg (by omega), if_pos h]
      rfl
    · have h' : ¬ nI (t (5 * p + 3)) = 114 := fun q => h ((nI_eq (b := 114) (by omega) (by decide)).mp q)
      rw [if_neg h', if_neg h']
      have hr : (sA σ (28 + p) 3 0).2.2 (28 + p) 3 = nI (figc t p 3) := by
        rw [sA_3, if_pos ⟨rfl, rfl⟩]
        unfold figc
        rw [if_neg (by omega), if_neg h]
        rfl
      by_cases h4 : t (5 * p + 3) = 46
      · rw [if_pos (show nI (t (5 * p + 3)) = 46 by rw [h4]; rfl)]
        exact ⟨1, _, rfl, Or.inl ⟨⟨by omega, fun _ => Or.inr h4, by omega, by omega⟩, rfl⟩, rfl, fun k hk => by rw [sA_22, if_neg hk], fun q hq => by rw [sA_3, if_neg (by omega)], fun _ _ => hr⟩
      · rw [if_neg (show ¬ nI (t (5 * p + 3)) = 46 from ne_n (b := 46) h4 (by omega) (by decide))]
        refine ⟨0, _, rfl, Or.inr ⟨fun q => ?_, rfl⟩, rfl, fun k hk => by rw [sA_22, if_neg hk], fun q hq => by rw [sA_3, if_neg (by omega)], fun _ q => ?_⟩
        · rcases q.2.1 hm with q | q
          · exact h q
          · exact h4 q
        · exact hr
  · rw [if_pos (show nI 2 ≤ (3 : Int32) by decide), if_neg (show ¬ nI 2 = (3 : Int32) by decide)]
    obtain ⟨k1, k2⟩ := h2 rfl
    by_cases h : t (5 * p + 2) < 49
    · rw [if_pos (show nI (t (5 * p + 2)) < (49 : Int32) from nI_lt (b := 49) h (by decide))]
      exact ⟨0, σ, rfl, Or.inr ⟨fun q => by have := (q.2.2.1 (by omega)).1; omega, rfl⟩, rfl, fun _ _ => rfl, fun _ _ => rfl, fun _ q => by have := (q.2.2.1 (by omega)).1; omega⟩
    · rw [if_neg (show ¬ nI (t (5 * p + 2)) < (49 : Int32) from nI_nlt (b := 49) (by omega) (by omega))]
      by_cases h9 : t (5 * p + 2) ≤ 57
      · have g2 : ∀ {α : Type} (k : Option α), gIn 2 4 k = k := fun k => gI_n (n := 2) (by decide) (by decide)
        have g1 : ∀ {α : Type} (k : Option α), gIn 1 4 k = k := fun k => gI_n (n := 1) (by decide) (by decide)
        rw [if_pos (show nI (t (5 * p + 2)) ≤ (57 : Int32) from nI_le (b := 57) h9 (by decide)), gI_n hp (by decide), gI_n (n := 2) (by decide) (by decide), bS_eq, if_pos (show nI 2 = (2 : Int32) by decide), gI_n hp (by decide), g2, gI_n hp (by decide), g1, cl_n (by omega), cl_n (by omega), sub48 (by omega), show (2 : Int32).toNatClampNeg = 2 by decide, show (1 : Int32).toNatClampNeg = 1 by decide, show (sA σ (28 + p) 2 (nI (t (5 * p + 2) - 48))).2.2 (28 + p) 2 = nI (t (5 * p + 2) - 48) by rw [sA_3, if_pos ⟨rfl, rfl⟩], show (sA σ (28 + p) 2 (nI (t (5 * p + 2) - 48))).2.2 (28 + p) 1 = σ.2.2 (28 + p) 1 by rw [sA_3, if_neg (by omega)], k2]
        have hr : (sA σ (28 + p) 2 (nI (t (5 * p + 2) - 48))).2.2 (28 + p) 2 = nI (figc t p 2) := by
          rw [sA_3, if_pos ⟨rfl, rfl⟩]
          rfl
        by_cases hc : t (5 * p + 2) - 48 < t (5 * p + 1) - 48
        · rw [if_pos (nI_lt hc (by omega))]
          refine ⟨0, _, rfl, Or.inr ⟨fun q => ?_, rfl⟩, rfl, fun k hk => by rw [sA_22, if_neg hk], fun q hq => by rw [sA_3, if_neg (by omega)], fun _ _ => hr⟩
          have := q.2.2.2 hm
          rw [show 5 * p + 2 - 1 = 5 * p + 1 by omega] at this
          omega
        · rw [if_neg (nI_nlt (by omega) (by omega))]
          refine ⟨1, _, rfl, Or.inl ⟨⟨by omega, by omega, fun _ => ⟨by omega, h9⟩, fun _ => ?_⟩, rfl⟩, rfl, fun k hk => by rw [sA_22, if_neg hk], fun q hq => by rw [sA_3, if_neg (by omega)], fun _ _ => hr⟩
          rw [show 5 * p + 2 - 1 = 5 * p + 1 by omega]
          omega
      · rw [if_neg (show ¬ nI (t (5 * p + 2)) ≤ (57 : Int32) from nI_ge (a := 57) (by omega) (by omega))]
        exact ⟨0, σ, rfl, Or.inr ⟨fun q => by have := (q.2.2.1 (by omega)).2; omega, rfl⟩, rfl, fun _ _ => rfl, fun _ _ => rfl, fun _ q => by have := (q.2.2.1 (by omega)).2; omega⟩
  · rw [if_pos (show nI s ≤ (3 : Int32) from nI_le (b := 3) (by omega) (by decide)), if_neg (show ¬ nI s = (3 : Int32) from ne_n (b := 3) (by omega) (by omega) (by decide))]
    by_cases h : t (5 * p + s) < 49
    · rw [if_pos (show nI (t (5 * p + s)) < (49 : Int32) from nI_lt (b := 49) h (by decide))]
      exact ⟨0, σ, rfl, Or.inr ⟨fun q => by have := (q.2.2.1 (by omega)).1; omega, rfl⟩, rfl, fun _ _ => rfl, fun _ _ => rfl, fun _ q => by have := (q.2.2.1 (by omega)).1; omega⟩
    · rw [if_neg (show ¬ nI (t (5 * p + s)) < (49 : Int32) from nI_nlt (b := 49) (by omega) (by omega))]
      by_cases h9 : t (5 * p + s) ≤ 57
      · rw [if_pos (show nI (t (5 * p + s)) ≤ (57 : Int32) from nI_le (b := 57) h9 (by decide)), gI_n hp (by decide), gI_n (show s < 4 by omega) (by decide), bS_eq, if_neg (show ¬ nI s = (2 : Int32) from ne_n (b := 2) (by omega) (by omega) (by decide)), cl_n (by omega), cl_n (by omega), sub48 (by omega)]
        refine ⟨1, _, rfl, Or.inl ⟨⟨by omega, by omega, fun _ => ⟨by omega, h9⟩, by omega⟩, rfl⟩, rfl, fun k hk => by rw [sA_22, if_neg hk], fun q hq => by rw [sA_3, if_neg (by omega)], fun _ _ => ?_⟩
        rw [sA_3, if_pos ⟨rfl, rfl⟩]
        unfold figc
        rw [if_pos (by omega)]
      · rw [if_neg (show ¬ nI (t (5 * p + s)) ≤ (57 : Int32) from nI_ge (a := 57) (by omega) (by omega))]
        exact ⟨0, σ, rfl, Or.inr ⟨fun q => by have := (q.2.2.1 (by omega)).2; omega, rfl⟩, rfl, fun _ _ => rfl, fun _ _ => rfl, fun _ q => by have := (q.2.2.1 (by omega)).2; omega⟩
theorem at1_sp {σ : St} {n i : Nat} {t : Nat → Nat} (hn : n ≤ 79) (h0 : σ.1 0 = nI n) (hb : ∀ i, i < n → σ.2.2 2 i = nI (t i)) (hi : i < n) : fX7_at_1 (nI i) σ = some (nI (t i)) := by
  unfold fX7_at_1
  rw [if_neg (nI_pos (show i < 2 ^ 31 by omega)), h0, if_neg (nI_ge hi (by omega)), gI_n (show i < 79 by omega) (by decide), cl_n (by omega), hb i hi]
theorem at3_sp {σ : St} {n i : Nat} {t : Nat → Nat} (hn : n ≤ 40) (h0 : σ.1 1 = nI n) (hb : ∀ i, i < n → σ.2.2 4 i = nI (t i)) (hi : i < n) : fX7_at_3 (nI i) σ = some (nI (t i)) := by
  unfold fX7_at_3
  rw [if_neg (nI_pos (show i < 2 ^ 31 by omega)), h0, if_neg (nI_ge hi (by omega)), gI_n (show i < 40 by omega) (by decide), cl_n (by omega), hb i hi]
/-- what a parse of THE CAVE leaves as it was -/
def frC (σ σ' : St) : Prop := (∀ k, k ≠ 2 → k ≠ 3 → σ'.1 k = σ.1 k) ∧ ∀ k, (k < 28 ∨ 44 ≤ k) → σ'.2.2 k = σ.2.2 k
theorem parse_loop {n : Nat} {t : Nat → Nat} (hn : n ≤ 79) (ht : ∀ i, t i < 256) : ∀ (k i : Nat) (σ : St), i ≤ n → n - i < k → σ.1 0 = nI n → (∀ i, i < n → σ.2.2 2 i = nI (t i)) → σ.1 2 = 0 → σ.1 3 = -1 → (∀ q, q < i → okc t q) → (∀ q, q < i → q % 5 < 4 → σ.2.2 (28 + q / 5) (q % 5) = nI (figc t (q / 5) (q % 5))) → ∃ σ', LX1_parse_17 k σ (nI n) (nI i) = some σ' ∧ RC n t σ' ∧ frC σ σ' := by
  intro k
  induction k with
  | zero => intro i σ h1 h2; omega
  | succ k ih =>
    intro i σ h1 h2 h0 hb hz hf hok hrow
    rw [LX1_parse_17]
    unfold BX1_parse_17
    have g5 : ∀ {α : Type} (k : Option α), gNz 5 k = k := fun k => gNz_pos (by decide)
    by_cases h : i = n
    · subst h
      rw [if_pos (nI_le (Nat.le_refl _) (by omega))]
      unfold BX1_parse_52
      rw [g5, g5, show (5 : Int32) = nI 5 from rfl, pk_rem (by omega) (by decide) (by decide), nI_1, pk_div (by omega) (by decide) (by decide)]
      have hfb : fst_bad (okc t) i i := ⟨Nat.le_refl _, hok, by omega⟩
      have hfin : ∀ j, j < (i + 1) / 5 → ∀ s, s < 4 → (i = 0 ∨ i % 5 = 4) → σ.2.2 (28 + j) s = nI (figc t j s) := fun j hj s hs hw => by
        have := hrow (5 * j + s) (by omega) (by omega)
        rw [show (5 * j + s) / 5 = j by omega, show (5 * j + s) % 5 = s by omega] at this
        exact this
      by_cases hw : i = 0 ∨ i % 5 = 4
      · have hsz : szc i i = (i + 1) / 5 := by unfold szc; rw [if_pos ⟨rfl, hw⟩]
        have res : ∃ σ', some (sI σ 2 (nI ((i + 1) / 5))) = some σ' ∧ RC i t σ' ∧ frC σ σ' := by
          refine ⟨_, rfl, ⟨i, hfb, ?_, ?_, fun p hp s hs => ?_⟩, fun k a b => ?_, fun k _ => rfl⟩
          · rw [sI_1, if_pos rfl, hsz]
          · rw [sI_1, if_neg (by decide), if_pos ⟨rfl, hw⟩, hf]
          · rw [hsz] at hp
            exact hfin p hp s hs hw
          · rw [sI_1, if_neg a]
        by_cases hi0 : i = 0
        · subst hi0
          rw [if_pos (show nI 0 ≤ (0 : Int32) by decide)]
          exact res
        · rw [if_neg (show ¬ nI i ≤ (0 : Int32) from nI_nle (by omega) (by omega)), if_pos (by rw [show i % 5 = 4 by omega]; rfl)]
          exact res
      · rw [if_neg (show ¬ nI i ≤ (0 : Int32) from nI_nle (by omega) (by omega)), if_neg (show ¬ nI (i % 5) = (4 : Int32) from ne_n (b := 4) (by omega) (by omega) (by decide))]
        have hsz : szc i i = 0 := by unfold szc; rw [if_neg (fun q => hw q.2)]
        refine ⟨_, rfl, ⟨i, hfb, ?_, ?_, fun p hp s hs => ?_⟩, fun k a b => ?_, fun k _ => rfl⟩
        · rw [sI_1, if_neg (by decide), hsz, hz]
          rfl
        · rw [sI_1, if_pos rfl, if_neg (fun q => hw q.2)]
        · rw [hsz] at hp
          omega
        · rw [sI_1, if_neg b]
    · rw [if_neg (nI_ge (by omega) (by omega)), g5, g5, at1_sp hn h0 hb (show i < n by omega), bd_e, show (5 : Int32) = nI 5 from rfl, pk_rem (by omega) (by decide) (by decide), pk_div (by omega) (by decide) (by decide)]
      obtain ⟨r, σ1, e1, e2, e3, e4, e5, e6⟩ := accept_sp (t := t) (p := i / 5) (s := i % 5) (by omega) (by omega) ht σ (fun hs => by
        have h3 := hrow (i - 1) (by omega) (by omega)
        rw [show (i - 1) / 5 = i / 5 by omega, show (i - 1) % 5 = 1 by omega] at h3
        have h4 := (hok (i - 1) (by omega)).2.2.1 (by omega)
        have e : 5 * (i / 5) + 1 = i - 1 := by omega
        rw [e]
        refine ⟨h4.1, h3.trans ?_⟩
        unfold figc
        rw [if_pos (by omega), e])
      have ei : 5 * (i / 5) + i % 5 = i := by omega
      rw [ei] at e1 e2 e6
      rw [e1, bd_e]
      rcases e2 with ⟨ok1, rfl⟩ | ⟨ok1, rfl⟩
      · rw [if_neg ne10, bI_eq, nI_1]
        obtain ⟨σ', f1, f2, f3⟩ := ih (i + 1) σ1 (by omega) (by omega) (by rw [e3]; exact h0) (fun q hq => by rw [e4 2 (by omega)]; exact hb q hq) (by rw [e3]; exact hz) (by rw [e3]; exact hf) (fun q hq => by
          rcases (show q < i ∨ q = i by omega) with h | rfl
          · exact hok q h
          · exact ok1) (fun q hq hq4 => by
          by_cases hqi : q = i
          · subst hqi
            exact e6 hq4 ok1
          · by_cases hd : q / 5 = i / 5
            · rw [hd, e5 (q % 5) (by omega), ← hd]
              exact hrow q (by omega) hq4
            · rw [e4 (28 + q / 5) (by omega)]
              exact hrow q (by omega) hq4)
        refine ⟨σ', f1, f2, fun k a b => ?_, fun k hk => ?_⟩
        · rw [f3.1 k a b, e3]
        · rw [f3.2 k hk, e4 k (by omega)]
      · rw [if_pos rfl]
        unfold BX1_parse_40
        rw [bS_eq]
        have hfb : fst_bad (okc t) n i := ⟨h1, hok, fun _ => ok1⟩
        have hsz : szc n i = 0 := by unfold szc; rw [if_neg (by omega)]
        refine ⟨_, rfl, ⟨i, hfb, ?_, ?_, fun p hp s hs => ?_⟩, fun k a b => ?_, fun k hk => ?_⟩
        · rw [sI_1, if_neg (by decide), hsz, e3, hz]
          rfl
        · rw [sI_1, if_pos rfl, if_neg (by omega)]
        · rw [hsz] at hp
          omega
        · rw [sI_1, if_neg b, e3]
        · rw [sI_2, e4 k (by omega)]
theorem parse1_sp {n : Nat} {t : Nat → Nat} {σ : St} (hn : n ≤ 79) (ht : ∀ i, t i < 256) (h0 : σ.1 0 = nI n) (hb : ∀ i, i < n → σ.2.2 2 i = nI (t i)) : ∃ σ', fX1_parse σ = some σ' ∧ RC n t σ' ∧ frC σ σ' := by
  unfold fX1_parse fX7_length_1
  rw [bd_e, bS_eq, bS_eq, h0]
  obtain ⟨σ', e1, e2, e3⟩ := parse_loop hn ht fu 0 (sI (sI σ 2 0) 3 (-1)) (by omega) (by unfold fu; omega) h0 hb rfl rfl (by omega) (by omega)
  refine ⟨σ', e1, e2, fun k a b => ?_, fun k hk => e3.2 k hk⟩
  rw [e3.1 k a b, sI_1, if_neg b, sI_1, if_neg a]
/-- THE PLAN -/
def frP (σ σ' : St) : Prop := (∀ k, k ≠ 4 → k ≠ 5 → σ'.1 k = σ.1 k) ∧ σ'.2 = σ.2
theorem act_sp {b : Nat} (hb : b < 256) : fX4_isAct (nI b) = some (if b = 43 ∨ b = 45 ∨ b = 117 ∨ b = 120 then 1 else 0) := by
  unfold fX4_isAct
  have e : ∀ k : Nat, k < 256 → (nI b = nI k ↔ b = k) := fun k hk => nI_eq (by omega) (by omega)
  simp only [show (43 : Int32) = nI 43 from rfl, show (45 : Int32) = nI 45 from rfl, show (117 : Int32) = nI 117 from rfl, show (120 : Int32) = nI 120 from rfl, e 43 (by decide), e 45 (by decide), e 117 (by decide), e 120 (by decide)]
  by_cases h1 : b = 43
  · rw [if_pos h1, if_pos (Or.inl h1)]
  · by_cases h2 : b = 45
    · rw [if_neg h1, if_pos h2, if_pos (by omega)]
    · by_cases h3 : b = 117
      · rw [if_neg h1, if_neg h2, if_pos h3, if_pos (by omega)]
      · by_cases h4 : b = 120
        · rw [if_neg h1, if_neg h2, if_neg h3, if_pos h4, if_pos (by omega)]
        · rw [if_neg h1, if_neg h2, if_neg h3, if_neg h4, if_neg (by omega)]
theorem step_sp {b : Nat} (hb : b < 256) : fX11_isStep (nI b) = some (if b = 43 ∨ b = 45 ∨ b = 117 ∨ b = 120 then 1 else 0) := act_sp hb
theorem goer_sp {b : Nat} (hb : b < 256) : fX4_isGoerFigure (nI b) = some (if 48 ≤ b ∧ b ≤ 51 then 1 else 0) := by
  unfold fX4_isGoerFigure
  by_cases h1 : b < 48
  · rw [if_pos (show nI b < (48 : Int32) from nI_lt (b := 48) h1 (by decide)), if_neg (by omega)]
  · rw [if_neg (show ¬ nI b < (48 : Int32) from nI_nlt (b := 48) (by omega) (by omega))]
    by_cases h2 : 51 < b
    · rw [if_pos (show (51 : Int32) < nI b from nI_lt (a := 51) h2 (by omega)), if_neg (by omega)]
    · rw [if_neg (show ¬ (51 : Int32) < nI b from nI_nlt (a := 51) (by omega) (by decide)), if_pos (by omega)]
def b01 (x : Bool) : Int32 := if x = true then 1 else 0
theorem plan_loop {n : Nat} {t : Nat → Nat} (hn : n ≤ 40) (ht : ∀ i, t i < 256) : ∀ (k i : Nat) (σ : St), i ≤ n → n - i < k → σ.1 1 = nI n → (∀ i, i < n → σ.2.2 4 i = nI (t i)) → σ.1 4 = 0 → σ.1 5 = -1 → (∀ q, q < i → okp t q) → ∃ σ', LX4_parse_20 k σ (nI n) (b01 (duep t i)) (nI i) = some σ' ∧ RP n t σ' ∧ frP σ σ' := by
  intro k
  induction k with
  | zero => intro i σ h1 h2; omega
  | succ k ih =>
    intro i σ h1 h2 h0 hb hz hf hok
    rw [LX4_parse_20]
    unfold BX4_parse_20
    by_cases h : i = n
    · subst h
      rw [if_pos (nI_le (Nat.le_refl _) (by omega))]
      unfold BX4_parse_87
      have hfb : fst_bad (okp t) i i := ⟨Nat.le_refl _, hok, by omega⟩
      cases hd : duep t i with
      | false =>
        rw [show b01 false = 0 from rfl, if_pos rfl]
        refine ⟨_, rfl, ⟨i, hfb, ?_, ?_⟩, fun k a b => ?_, rfl⟩
        · rw [sI_1, if_pos rfl]
          unfold szp
          rw [if_pos ⟨rfl, hd⟩]
        · rw [sI_1, if_neg (by decide), hf, if_pos ⟨rfl, hd⟩]
        · rw [sI_1, if_neg a]
      | true =>
        rw [show b01 true = 1 from rfl, if_neg ne10]
        refine ⟨_, rfl, ⟨i, hfb, ?_, ?_⟩, fun k a b => ?_, rfl⟩
        · rw [sI_1, if_neg (by decide), hz]
          unfold szp
          rw [if_neg (by rw [hd]; simp)]
          rfl
        · rw [sI_1, if_pos rfl, if_neg (by rw [hd]; simp)]
        · rw [sI_1, if_neg b]
    · have hi : i < n := by omega
      have bad : ¬ okp t i → ∃ σ', BX4_parse_57 σ (nI i) = some σ' ∧ RP n t σ' ∧ frP σ σ' := fun hno => by
        refine ⟨_, rfl, ⟨i, ⟨h1, hok, fun _ => hno⟩, ?_, ?_⟩, fun k a b => ?_, rfl⟩
        · rw [sI_1, if_neg (by decide), hz]
          unfold szp
          rw [if_neg (by omega)]
          rfl
        · rw [sI_1, if_pos rfl, if_neg (by omega)]
        · rw [sI_1, if_neg b]
      have good : okp t i → ∃ σ', LX4_parse_20 k σ (nI n) (b01 (duep t (i + 1))) (nI (i + 1)) = some σ' ∧ RP n t σ' ∧ frP σ σ' := fun hyes => ih (i + 1) σ (by omega) (by omega) h0 hb hz hf (fun q hq => by
          rcases (show q < i ∨ q = i by omega) with h | rfl
          · exact hok q h
          · exact hyes)
      rw [if_neg (nI_ge hi (by omega)), at3_sp hn h0 hb hi, bd_e]
      have hdu : duep t (i + 1) = (!(duep t i) && (t i == 120)) := rfl
      cases hd : duep t i with
      | false =>
        rw [show b01 false = 0 from rfl, if_pos rfl, act_sp (ht i), bd_e, ite10]
        by_cases ha : t i = 43 ∨ t i = 45 ∨ t i = 117 ∨ t i = 120
        · rw [if_pos ha]
          unfold BX4_parse_64
          rw [if_pos rfl]
          have gd := good (by unfold okp; rw [hd]; simp only [Bool.false_eq_true, if_false]; exact ha)
          by_cases hx : t i = 120
          · rw [if_pos (show nI (t i) = 120 by rw [hx]; rfl), bI_eq, nI_1]
            rw [hdu, hd, hx] at gd
            exact gd
          · rw [if_neg (show ¬ nI (t i) = (120 : Int32) from ne_n (b := 120) hx (by have := ht i; omega) (by decide)), bI_eq, nI_1]
            rw [hdu, hd, show (t i == 120) = false by simp [hx]] at gd
            exact gd
        · rw [if_neg ha]
          exact bad (by unfold okp; rw [hd]; simp only [Bool.false_eq_true, if_false]; exact ha)
      | true =>
        rw [show b01 true = 1 from rfl, if_neg ne10, goer_sp (ht i), bd_e, ite10]
        by_cases ha : 48 ≤ t i ∧ t i ≤ 51
        · rw [if_pos ha]
          unfold BX4_parse_64
          rw [if_neg ne10, bI_eq, nI_1]
          have gd := good (by unfold okp; rw [hd]; simp only [if_true]; exact ha)
          rw [hdu, hd] at gd
          exact gd
        · rw [if_neg ha]
          exact bad (by unfold okp; rw [hd]; simp only [if_true]; exact ha)
theorem parse4_sp {n : Nat} {t : Nat → Nat} {σ : St} (hn : n ≤ 40) (ht : ∀ i, t i < 256) (h0 : σ.1 1 = nI n) (hb : ∀ i, i < n → σ.2.2 4 i = nI (t i)) : ∃ σ', fX4_parse σ = some σ' ∧ RP n t σ' ∧ frP σ σ' := by
  unfold fX4_parse fX7_length_3
  rw [bd_e, bS_eq, bS_eq, h0]
  obtain ⟨σ', e1, e2, e3⟩ := plan_loop hn ht fu 0 (sI (sI σ 4 0) 5 (-1)) (by omega) (by unfold fu; omega) h0 hb rfl rfl (by omega)
  refine ⟨σ', e1, e2, fun k a b => ?_, e3.2⟩
  rw [e3.1 k a b, sI_1, if_neg b, sI_1, if_neg a]
