/-! unlit -/
theorem nI_or (a b : Nat) : nI a ||| nI b = nI (a ||| b) := by
  apply Int32.toBitVec_inj.mp
  rw [Int32.toBitVec_or]
  show BitVec.ofNat 32 a ||| BitVec.ofNat 32 b = BitVec.ofNat 32 (a ||| b)
  apply BitVec.eq_of_getLsbD_eq
  intro i hi
  simp [BitVec.getLsbD_ofNat, Nat.testBit_or, hi]
theorem msk (u R : Nat) : nI u &&& (nI R ^^^ (-1)) = 0 ↔ ∀ i, i < 32 → u.testBit i = true → R.testBit i = true := by
  have e : (nI u &&& (nI R ^^^ (-1))).toBitVec = BitVec.ofNat 32 u &&& (BitVec.ofNat 32 R ^^^ BitVec.allOnes 32) := by
    rw [Int32.toBitVec_and, Int32.toBitVec_xor]
    rfl
  have bit : ∀ i, i < 32 → (nI u &&& (nI R ^^^ (-1))).toBitVec.getLsbD i = (u.testBit i && !(R.testBit i)) := by
    intro i hi
    rw [e, BitVec.getLsbD_and, BitVec.getLsbD_xor, BitVec.getLsbD_ofNat, BitVec.getLsbD_ofNat, BitVec.getLsbD_allOnes, decide_eq_true hi, Bool.true_and, Bool.true_and, Bool.xor_true]
  constructor
  · intro h i hi hu
    have := bit i hi
    rw [h, hu] at this
    cases hR : R.testBit i with
    | true => rfl
    | false => rw [hR] at this; simp at this
  · intro h
    apply Int32.toBitVec_inj.mp
    apply BitVec.eq_of_getLsbD_eq
    intro i hi
    rw [bit i hi]
    cases hu : u.testBit i with
    | false => simp
    | true => rw [h i hi hu]; simp
theorem bit10 : ∀ u, u < 1024 → ∀ j, j < 10 → decide (((nI u >>> (nI j &&& 31)) &&& 1) = 1) = u.testBit j := by decide +kernel
theorem shl10 : ∀ j, j < 11 → (1 : Int32) <<< (nI j &&& 31) = nI (2 ^ j) := by decide +kernel
theorem shz10 : ∀ j, j < 11 → nI 0 <<< (nI j &&& 31) = nI 0 := by decide +kernel
theorem isIn_10 {u j : Nat} (hu : u < 1024) (hj : j < 10) : fX11_isIn (nI u) (nI j) = some (if u.testBit j = true then 1 else 0) := by
  unfold fX11_isIn
  have e := bit10 u hu j hj
  by_cases q : ((nI u >>> (nI j &&& 31)) &&& 1) = 1
  · rw [if_pos q, ← e, decide_eq_true q]; rfl
  · rw [if_neg q, ← e, decide_eq_false q]; rfl
def vv (F : Nat → Nat → Nat) (i : Nat) : Nat := F i 0 + F i 1
def dk (F : Nat → Nat → Nat) (u : Nat) : Nat → Nat
  | 0 => 0
  | i + 1 => dk F u i + (if u.testBit i = true then vv F i else 0)
def lk (F : Nat → Nat → Nat) (u : Nat) : Nat → Nat
  | 0 => 0
  | i + 1 => lk F u i + (if u.testBit i = true then 0 else vv F i)
def rpb (F : Nat → Nat → Nat) (u : Nat) : Nat → Bool
  | 0 => true
  | i + 1 => rpb F u i && (!(u.testBit i) || !(F i 3 == 0))
theorem dk_lk (F : Nat → Nat → Nat) (u : Nat) : ∀ i, dk F u i + lk F u i = sm F 0 i + sm F 1 i := by
  intro i
  induction i with
  | zero => rfl
  | succ i ih =>
    show dk F u i + (if u.testBit i = true then vv F i else 0) + (lk F u i + (if u.testBit i = true then 0 else vv F i)) = (sm F 0 i + F i 0) + (sm F 1 i + F i 1)
    have : vv F i = F i 0 + F i 1 := rfl
    split <;> omega
theorem rpb_iff (F : Nat → Nat → Nat) (u : Nat) : ∀ i, rpb F u i = true ↔ ∀ j, j < i → u.testBit j = true → ¬ F j 3 = 0 := by
  intro i
  induction i with
  | zero => exact ⟨fun _ j hj => by omega, fun _ => rfl⟩
  | succ i ih =>
    rw [rpb, Bool.and_eq_true, ih]
    constructor
    · rintro ⟨h1, h2⟩ j hj hu
      by_cases q : j = i
      · subst q
        rw [hu] at h2
        simpa using h2
      · exact h1 j (by omega) hu
    · intro h
      refine ⟨fun j hj => h j (by omega), ?_⟩
      cases hu : u.testBit i with
      | false => rfl
      | true => simpa using h i (by omega) hu
theorem rope_loop {k K : Nat} {F : Nat → Nat → Nat} {c m : St} (h : Cv k F c m) (hK : K ≤ k) (hK2 : K ≤ 10) : ∀ (f i R : Nat), i ≤ K → K < f + i → (∀ j, R.testBit j = true ↔ j < i ∧ ¬ F j 3 = 0) → ∃ R', LX8_ropeBits_4 c f (nI K) (nI R) (nI i) = some (nI R') ∧ ∀ j, R'.testBit j = true ↔ j < K ∧ ¬ F j 3 = 0 := by
  intro f
  induction f with
  | zero => intro i R a1 a2; omega
  | succ f ih =>
    intro i R a1 a2 a3
    rw [LX8_ropeBits_4]
    unfold BX8_ropeBits_4
    by_cases z : i = K
    · subst z
      rw [if_pos (nI_le (by omega) (by omega))]
      exact ⟨R, rfl, a3⟩
    · obtain ⟨b1, -⟩ := h.2.2.2 i (by omega)
      rw [if_neg (nI_ge (show i < K by omega) (by omega)), show fX1_figure (nI i) 3 c = _ from figure_n (s := 3) h (by omega) (by decide), bd_e, bI_eq, bI_eq, nI_1]
      by_cases q : F i 3 = 0
      · rw [q, shz10 i (by omega), nI_or, Nat.or_zero]
        refine ih (i + 1) R (by omega) (by omega) (fun j => ?_)
        rw [a3 j]
        constructor
        · rintro ⟨x, y⟩; exact ⟨by omega, y⟩
        · rintro ⟨x, y⟩
          refine ⟨?_, y⟩
          by_cases e : j = i
          · subst e; exact absurd q y
          · omega
      · rw [show F i 3 = 1 by omega, show nI 1 <<< (nI i &&& 31) = nI (2 ^ i) from shl10 i (by omega), nI_or]
        refine ih (i + 1) _ (by omega) (by omega) (fun j => ?_)
        rw [Nat.testBit_or, Nat.testBit_two_pow, Bool.or_eq_true, a3 j, decide_eq_true_iff]
        constructor
        · rintro (⟨x, y⟩ | x)
          · exact ⟨by omega, y⟩
          · subst x; exact ⟨by omega, q⟩
        · rintro ⟨x, y⟩
          by_cases e : i = j
          · exact Or.inr e
          · exact Or.inl ⟨by omega, y⟩
theorem mo_loop {k K u : Nat} {F : Nat → Nat → Nat} {c m : St} (h : Cv k F c m) (hK : K ≤ k) (hK2 : K ≤ 10) (hu : u < 1024) : ∀ (f i : Nat), i ≤ K → K < f + i → LX8_minutesOf_5 c f (nI K) (nI u) (nI (dk F u i)) (nI i) = some (nI (dk F u K)) := by
  intro f
  induction f with
  | zero => intro i a1 a2; omega
  | succ f ih =>
    intro i a1 a2
    rw [LX8_minutesOf_5]
    unfold BX8_minutesOf_5
    by_cases z : i = K
    · subst z
      rw [if_pos (nI_le (by omega) (by omega))]
    · rw [if_neg (nI_ge (show i < K by omega) (by omega))]
      have e := bit10 u hu i (by omega)
      have ed : dk F u (i + 1) = dk F u i + (if u.testBit i = true then vv F i else 0) := rfl
      have := ih (i + 1) (by omega) (by omega)
      by_cases q : ((nI u >>> (nI i &&& 31)) &&& 1) = 1
      · rw [decide_eq_true q] at e
        rw [ed, ← e, if_pos rfl] at this
        rw [if_pos q, show fX1_figure (nI i) 0 c = _ from figure_n (s := 0) h (by omega) (by decide), bd_e, show fX1_figure (nI i) 1 c = _ from figure_n (s := 1) h (by omega) (by decide), bd_e, bI_eq, bI_eq, nI_1, nI_add, nI_add]
        exact this
      · rw [decide_eq_false q] at e
        rw [ed, ← e, if_neg (by decide), Nat.add_zero] at this
        rw [if_neg q, bI_eq, nI_1]
        exact this
theorem fd_loop {k K u : Nat} {F : Nat → Nat → Nat} {c m : St} (h : Cv k F c m) (hK : K ≤ k) (hK2 : K ≤ 10) (hu : u < 1024) (k16 : St → Int32 → Int32 → Int32 → Option St) (gx : Int32) : ∀ (f i : Nat), i ≤ K → K < f + i → LX11_findDark_35 k16 f m (nI K) gx (nI u) (nI (lk F u i)) (nI (lk F u i + 2 * dk F u i)) (b01 (rpb F u i)) (nI i) = BX11_findDark_144 k16 m (nI K) gx (nI u) (nI (lk F u K)) (nI (lk F u K + 2 * dk F u K)) (b01 (rpb F u K)) := by
  intro f
  induction f with
  | zero => intro i a1 a2; omega
  | succ f ih =>
    intro i a1 a2
    rw [LX11_findDark_35]
    unfold BX11_findDark_35
    by_cases z : i = K
    · subst z
      rw [if_pos (nI_le (by omega) (by omega))]
    · obtain ⟨b1, b2, b3, b4⟩ := h.2.2.2 i (by omega)
      have ed : dk F u (i + 1) = dk F u i + (if u.testBit i = true then vv F i else 0) := rfl
      have el : lk F u (i + 1) = lk F u i + (if u.testBit i = true then 0 else vv F i) := rfl
      have er : rpb F u (i + 1) = (rpb F u i && (!(u.testBit i) || !(F i 3 == 0))) := rfl
      have nx := ih (i + 1) (by omega) (by omega)
      have key : ∀ y : Bool, y = rpb F u (i + 1) → BX11_findDark_93 k16 (LX11_findDark_35 k16 f) m (nI K) gx (nI u) (nI (lk F u i)) (nI (lk F u i + 2 * dk F u i)) (nI i) (nI (vv F i)) (b01 y) = BX11_findDark_144 k16 m (nI K) gx (nI u) (nI (lk F u K)) (nI (lk F u K + 2 * dk F u K)) (b01 (rpb F u K)) := by
        intro y hy
        rw [← hy] at nx
        unfold BX11_findDark_93 BX11_findDark_112
        rw [isIn_10 hu (by omega), bd_e]
        cases hb : u.testBit i with
        | true =>
          rw [hb, if_pos rfl] at ed el
          rw [if_neg (show ¬ (if true = true then (1 : Int32) else 0) = 0 by decide), bI_eq, bd_e, if_neg (show ¬ (if true = true then (1 : Int32) else 0) = 0 by decide), bI_eq, bI_eq, nI_1, show (2 : Int32) * nI (vv F i) = nI (2 * vv F i) from pk_mul 2 _, nI_add, show nI (lk F u i) + 0 = nI (lk F u i + 0) from nI_add _ 0]
          rw [ed, el, show lk F u i + 0 + 2 * (dk F u i + vv F i) = lk F u i + 2 * dk F u i + 2 * vv F i by omega] at nx
          exact nx
        | false =>
          rw [hb, if_neg (by decide)] at ed el
          rw [if_pos (show (if false = true then (1 : Int32) else 0) = 0 from rfl), bI_eq, bd_e, if_pos (show (if false = true then (1 : Int32) else 0) = 0 from rfl), bI_eq, bI_eq, nI_1, nI_add, nI_add]
          rw [ed, el, show lk F u i + vv F i + 2 * (dk F u i + 0) = lk F u i + 2 * dk F u i + vv F i by omega] at nx
          exact nx
      rw [if_neg (nI_ge (show i < K by omega) (by omega)), show (3 : Int32) * nI i = nI (3 * i) from pk_mul 3 i, show nI (3 * i) + 1 = nI (3 * i + 1) from nI_1 _, gI_n (show 3 * i < 48 by omega) (by decide), gI_n (show 3 * i + 1 < 48 by omega) (by decide), cl_n (by omega), cl_n (by omega), show m.2.2 7 (3 * i) = nI (F i 0) from b3 0 (by decide), b3 1 (by decide), nI_add, bI_eq]
      show (if b01 (rpb F u i) = 0 then _ else _) = _
      unfold BX11_findDark_92 BX11_findDark_88
      cases hr : rpb F u i with
      | false =>
        rw [if_pos (show b01 false = 0 from rfl)]
        exact key false (by rw [er, hr]; rfl)
      | true =>
        rw [if_neg (show ¬ b01 true = 0 by decide), isIn_10 hu (by omega), bd_e]
        cases hb : u.testBit i with
        | false =>
          rw [if_pos (show (if false = true then (1 : Int32) else 0) = 0 from rfl)]
          exact key true (by rw [er, hr, hb]; rfl)
        | true =>
          rw [if_neg (show ¬ (if true = true then (1 : Int32) else 0) = 0 by decide), gI_n (show i < 16 by omega) (by decide), cl_n (by omega), b4]
          by_cases q : F i 3 = 0
          · rw [q, if_pos (show nI 0 = (0 : Int32) from rfl)]
            exact key false (by rw [er, hr, hb, q]; rfl)
          · rw [if_neg (nI_ne0 (by omega) (by omega))]
            exact key true (by rw [er, hr, hb, beq_false_of_ne q]; rfl)
def fU (c c' : St) : Prop := (∀ j, j ≠ 12 → j ≠ 13 → c'.1 j = c.1 j) ∧ c'.2 = c.2
def fD (m m' : St) : Prop := m'.1 = m.1 ∧ ∀ k, k ≠ 12 → m'.2.2 k = m.2.2 k
theorem fU.tr {a b c : St} (h : fU a b) (g : fU b c) : fU a c := ⟨fun j x y => (g.1 j x y).trans (h.1 j x y), g.2.trans h.2⟩
theorem fD.tr {a b c : St} (h : fD a b) (g : fD b c) : fD a c := ⟨g.1.trans h.1, fun j x => (g.2 j x).trans (h.2 j x)⟩
theorem Cv.ud {k : Nat} {F : Nat → Nat → Nat} {c m c' m' : St} (h : Cv k F c m) (a : fU c c') (b : fD m m') : Cv k F c' m' := h.fr (a.1 _ (by decide) (by decide)) (fun p _ => by rw [a.2]) (by rw [b.1]) (b.2 _ (by decide)) (b.2 _ (by decide))
theorem srch_loop {k K R x bu : Nat} {F : Nat → Nat → Nat} (hK : K ≤ k) (hK2 : K ≤ 10) (hR : ∀ j, R.testBit j = true ↔ j < K ∧ ¬ F j 3 = 0) (hx : x < 4) (hbu : bu ≤ 999) : ∀ (f u : Nat) (c m : St) (x6 : Int32), u ≤ 2 ^ K → 2 ^ K < f + u → Cv k F c m → m.2.2 9 x = nI bu → c.1 12 = m.2.2 12 0 → c.1 13 = m.2.2 12 1 → ((x6 = -1 ∧ m.2.2 12 0 = -1) ∨ ∃ b : Nat, b ≤ 999 ∧ x6 = nI b ∧ m.2.2 12 0 = nI (sm F 0 K + sm F 1 K + b)) → ∃ (c' m' : St), LX8_search_38 f c (nI K) (nI bu) (nI (sm F 0 K + sm F 1 K)) (nI R) x6 (nI u) = some c' ∧ LX11_findDark_16 f m (nI K) (nI x) (nI u) = some m' ∧ fU c c' ∧ fD m m' ∧ c'.1 12 = m'.2.2 12 0 ∧ c'.1 13 = m'.2.2 12 1 := by
  have hp2 : 2 ^ K ≤ 2 ^ 10 := Nat.pow_le_pow_right (by decide) hK2
  intro f
  induction f with
  | zero => intro u c m x6 a1 a2; omega
  | succ f ih =>
    intro u c m x6 a1 a2 a3 a4 a5 a6 a7
    rw [LX8_search_38, LX11_findDark_16]
    unfold BX8_search_38 BX11_findDark_16
    rw [shl10 K (by omega)]
    by_cases z : u = 2 ^ K
    · rw [z, if_pos (nI_le (Nat.le_refl _) (by omega)), if_pos (nI_le (Nat.le_refl _) (by omega))]
      exact ⟨c, m, rfl, rfl, ⟨fun _ _ _ => rfl, rfl⟩, ⟨rfl, fun _ _ => rfl⟩, a5, a6⟩
    · have hu : u < 1024 := by omega
      have s0 := sm_le a3 (s := 0) (by decide) K hK
      have s1 := sm_le a3 (s := 1) (by decide) K hK
      have dl := dk_lk F u K
      have e1 : LX11_findDark_35 (LX11_findDark_16 f) fu m (nI K) (nI x) (nI u) 0 0 1 0 = _ := fd_loop a3 hK hK2 hu (LX11_findDark_16 f) (nI x) fu 0 (by omega) (by unfold fu; omega)
      have e2 : fX8_minutesOf (nI K) (nI u) c = _ := mo_loop a3 hK hK2 hu fu 0 (by omega) (by unfold fu; omega)
      have hmask : nI u &&& (nI R ^^^ (-1)) = 0 ↔ rpb F u K = true := by
        rw [msk, rpb_iff]
        constructor
        · intro h j hj hb
          exact ((hR j).mp (h j (by omega) hb)).2
        · intro h j hj hb
          have hjK : j < K := by
            by_cases q : j < K
            · exact q
            · rw [Nat.testBit_lt_two_pow (Nat.lt_of_lt_of_le (show u < 2 ^ K by omega) (Nat.pow_le_pow_right (by decide) (by omega)))] at hb
              exact absurd hb (by decide)
          exact (hR j).mpr ⟨hjK, h j hjK hb⟩
      rw [if_neg (nI_ge (show u < 2 ^ K by omega) (by omega)), if_neg (nI_ge (show u < 2 ^ K by omega) (by omega)), e1, e2, bd_e]
      unfold BX11_findDark_144
      have skip : ∃ (c' m' : St), LX8_search_38 f c (nI K) (nI bu) (nI (sm F 0 K + sm F 1 K)) (nI R) x6 (nI (u + 1)) = some c' ∧ LX11_findDark_16 f m (nI K) (nI x) (nI (u + 1)) = some m' ∧ fU c c' ∧ fD m m' ∧ c'.1 12 = m'.2.2 12 0 ∧ c'.1 13 = m'.2.2 12 1 := ih (u + 1) c m x6 (by omega) (by omega) a3 a4 a5 a6 a7
      have setv : ∃ (c' m' : St), BX8_search_90 (LX8_search_38 f) c (nI K) (nI bu) (nI (sm F 0 K + sm F 1 K)) (nI R) (nI u) (nI (dk F u K)) = some c' ∧ BX11_findDark_181 (LX11_findDark_16 f) m (nI K) (nI x) (nI u) (nI (lk F u K + 2 * dk F u K)) = some m' ∧ fU c c' ∧ fD m m' ∧ c'.1 12 = m'.2.2 12 0 ∧ c'.1 13 = m'.2.2 12 1 := by
        unfold BX8_search_90 BX11_findDark_181
        simp only [g02, g12, bS_eq, bI_eq, nI_1, z_cl.1, z_cl.2.1]
        rw [nI_add, show lk F u K + 2 * dk F u K = sm F 0 K + sm F 1 K + dk F u K by omega]
        have fu1 : fU c (sI (sI c 12 (nI (sm F 0 K + sm F 1 K + dk F u K))) 13 (nI u)) := ⟨fun j p q => by rw [sI_1, if_neg q, sI_1, if_neg p], rfl⟩
        have fd1 : fD m (sA (sA m 12 0 (nI (sm F 0 K + sm F 1 K + dk F u K))) 12 1 (nI u)) := ⟨rfl, fun j p => by rw [sA_22, if_neg p, sA_22, if_neg p]⟩
        have n0 : (sA (sA m 12 0 (nI (sm F 0 K + sm F 1 K + dk F u K))) 12 1 (nI u)).2.2 12 0 = nI (sm F 0 K + sm F 1 K + dk F u K) := by rw [sA_3, if_neg (by decide), sA_3, if_pos (by decide)]
        have n1 : (sA (sA m 12 0 (nI (sm F 0 K + sm F 1 K + dk F u K))) 12 1 (nI u)).2.2 12 1 = nI u := by rw [sA_3, if_pos (by decide)]
        obtain ⟨c', m', f1, f2, f3, f4, f5⟩ := ih (u + 1) _ _ (nI (dk F u K)) (by omega) (by omega) (a3.ud fu1 fd1) (by rw [fd1.2 9 (by decide)]; exact a4) (by rw [n0]; rfl) (by rw [n1]; rfl) (Or.inr ⟨dk F u K, by omega, rfl, n0⟩)
        exact ⟨c', m', f1, f2, fu1.tr f3, fd1.tr f4, f5⟩
      simp only [bI_eq, nI_1]
      by_cases q : rpb F u K = true
      · rw [if_pos (hmask.mpr q), q, if_neg (show ¬ b01 true = 0 by decide), gI_n hx (by decide), cl_n (by omega), a4, pk_sub (show dk F u K ≤ sm F 0 K + sm F 1 K by omega), show sm F 0 K + sm F 1 K - dk F u K = lk F u K by omega]
        by_cases q2 : bu < lk F u K
        · rw [if_pos (nI_lt q2 (by omega)), if_pos (nI_lt q2 (by omega))]
          exact skip
        · rw [if_neg (nI_nlt (by omega) (by omega)), if_neg (nI_nlt (by omega) (by omega)), g02, g02, z_cl.1]
          rcases a7 with ⟨rfl, b2⟩ | ⟨b, hb, rfl, b2⟩
          · rw [if_pos rfl, b2, if_pos rfl]
            exact setv
          · rw [if_neg (nI_nm1 (by omega)), b2, if_neg (nI_nm1 (by omega))]
            by_cases q3 : b ≤ dk F u K
            · rw [if_pos (nI_le q3 (by omega)), if_pos (nI_le (by omega) (by omega))]
              exact skip
            · rw [if_neg (nI_ge (by omega) (by omega)), if_neg (nI_ge (by omega) (by omega))]
              exact setv
      · rw [if_neg (fun y => q (hmask.mp y)), Bool.eq_false_iff.mpr q, if_pos (show b01 false = 0 from rfl)]
        exact skip
theorem unlit_fr (a0 a1 a2 : Int32) {c m : St} (h : Rel c m) : ∃ (r : Int32) (c1 : St) (m1 : St), fX10_unlit a0 a1 a2 c = some (r, c1) ∧ fX11_unlit a0 a1 a2 m = some (r, m1) ∧ Rel c1 m1 ∧ SameC c c1 ∧ c1.2.2 = c.2.2 := by
  obtain ⟨m1, k, n, F, t, e1, e2, e3, e4⟩ := reads_sp h
  have hR := h.same SameC.rf e2.same
  obtain ⟨g, w, hL⟩ := hR.2.1
  obtain ⟨g1, g2, g3, g4, g5⟩ := id hL
  have hk := e3.1
  have hles : fX11_lesser (m1.1 8) 10 = some (nI (min k 10)) := by
    unfold fX11_lesser
    rw [e3.2.2.1]
    by_cases q : 10 ≤ k
    · rw [if_pos (show (10 : Int32) ≤ nI k from nI_le (a := 10) q (by omega)), Nat.min_eq_right q]; rfl
    · rw [if_neg (show ¬ (10 : Int32) ≤ nI k from nI_ge (show k < 10 by omega) (by decide)), Nat.min_eq_left (by omega)]
  unfold fX10_unlit fX11_unlit BX10_unlit_25 BX10_unlit_26 fX1_size
  simp only [e1, bd_e, hles, within_sp, in_sp, isTwo_sp, goer_c hL, goer_m hL, ite10, i_64, i_ti (show min k 10 < 2 ^ 31 by omega), lit_ti, lit_tl, if_pos (show (0 : Int32) = 0 from rfl), if_neg ne10, e3.2.1]
  by_cases v0 : 0 ≤ a0.toInt ∧ a0.toInt ≤ ((min k 10 : Nat) : Int)
  case neg =>
    rw [if_neg v0]
    by_cases q : 0 ≤ a0.toInt ∧ a0.toInt ≤ 10
    · obtain ⟨K, -, hK, rfl⟩ := i_rg (a := a0) (lo := 0) (hi := 10) q.1 q.2
      rw [i_ti (by omega)] at v0
      rw [if_pos q, if_pos (nI_lt (show k < K by omega) (by omega))]
      exact ⟨_, _, _, rfl, rfl, hR, SameC.rf, rfl⟩
    · rw [if_neg q]
      exact ⟨_, _, _, rfl, rfl, hR, SameC.rf, rfl⟩
  obtain ⟨K, -, hK, rfl⟩ := i_rg (a := a0) (lo := 0) (hi := 10) v0.1 (by omega)
  have hKk : K ≤ k := by have := v0.2; rw [i_ti (by omega)] at this; omega
  rw [if_pos v0, if_pos (show 0 ≤ (nI K).toInt ∧ (nI K).toInt ≤ 10 by rw [i_ti (by omega)]; omega), if_neg (nI_nlt hKk (by omega))]
  by_cases v1 : 0 ≤ a1.toInt ∧ a1.toInt ≤ (g : Int) - 1
  case neg => rw [if_neg v1, if_neg v1]; exact ⟨_, _, _, rfl, rfl, hR, SameC.rf, rfl⟩
  by_cases v2 : 0 ≤ a2.toInt ∧ a2.toInt ≤ 1
  case neg => rw [if_pos v1, if_pos v1, if_neg v2, if_neg v2]; exact ⟨_, _, _, rfl, rfl, hR, SameC.rf, rfl⟩
  obtain ⟨x, -, hx, rfl⟩ := i_rg (a := a1) (lo := 0) (hi := 3) v1.1 (by omega)
  obtain ⟨y, -, hy, rfl⟩ := i_rg (a := a2) (lo := 0) (hi := 1) v2.1 v2.2
  have g6 := g5 x (by omega)
  rw [if_pos v1, if_pos v1, if_pos v2, if_pos v2, burns_n (by omega), bd_e, g6.2.1]
  unfold fX8_search fX11_findDark
  obtain ⟨R, r1, r2⟩ := rope_loop e3 hKk hK fu 0 0 (by omega) (by unfold fu; omega) (fun j => by rw [Nat.zero_testBit]; exact ⟨fun q => absurd q (by decide), fun q => by omega⟩)
  have s0 : fX1_sum 0 (nI K) c = _ := sum_sp e3 (s := 0) (by decide) hKk
  have s1 : fX1_sum 1 (nI K) c = _ := sum_sp e3 (s := 1) (by decide) hKk
  rw [s0, bd_e, s1, bd_e, bI_eq, nI_add, show fX8_ropeBits (nI K) c = _ from r1, bd_e]
  simp only [bS_eq, g02, g12, z_cl.1, z_cl.2.1]
  have fu1 : fU c (sI (sI c 12 (-1)) 13 (-1)) := ⟨fun j p q => by rw [sI_1, if_neg q, sI_1, if_neg p], rfl⟩
  have fd1 : fD m1 (sA (sA m1 12 0 (-1)) 12 1 (-1)) := ⟨rfl, fun j p => by rw [sA_22, if_neg p, sA_22, if_neg p]⟩
  have n0 : (sA (sA m1 12 0 (-1)) 12 1 (-1)).2.2 12 0 = -1 := by rw [sA_3, if_neg (by decide), sA_3, if_pos (by decide)]
  have n1 : (sA (sA m1 12 0 (-1)) 12 1 (-1)).2.2 12 1 = -1 := by rw [sA_3, if_pos (by decide)]
  have hp2 : 2 ^ K ≤ 2 ^ 10 := Nat.pow_le_pow_right (by decide) hK
  obtain ⟨c', m', f1, f2, f3, f4, f5, f6⟩ := srch_loop (F := F) hKk hK r2 (show x < 4 by omega) g6.1 fu 0 (sI (sI c 12 (-1)) 13 (-1)) (sA (sA m1 12 0 (-1)) 12 1 (-1)) (-1) (Nat.zero_le _) (Nat.lt_of_le_of_lt hp2 (by unfold fu; decide)) (e3.ud fu1 fd1) (by rw [fd1.2 9 (by decide)]; exact g6.2.2) (by rw [n0]; rfl) (by rw [n1]; rfl) (Or.inl ⟨rfl, n0⟩)
  have hSC : SameC c c' := ⟨fun j hj => (fu1.tr f3).1 j (by omega) (by omega), fun j _ _ => by rw [(fu1.tr f3).2]⟩
  have hA : c'.2.2 = c.2.2 := by rw [(fu1.tr f3).2]
  have hR2 : Rel c' m' := hR.same hSC ⟨fun j _ _ _ _ _ _ => by rw [(fd1.tr f4).1], fun j _ _ _ _ _ hj _ => (fd1.tr f4).2 j hj⟩
  unfold fX8_minutes fX8_bits
  rw [show LX8_search_38 fu (sI (sI c 12 (-1)) 13 (-1)) (nI K) (nI (w x)) (nI (sm F 0 K + sm F 1 K)) (nI R) (-1) 0 = _ from f1, bd_e, show LX11_findDark_16 fu (sA (sA m1 12 0 (-1)) 12 1 (-1)) (nI K) (nI x) 0 = _ from f2, bd_e, bd_e, bd_e, gI_n (show y < 2 by omega) (by decide), cl_n (by omega), f5, f6]
  rcases (show y = 0 ∨ y = 1 by omega) with rfl | rfl
  · rw [if_pos (show nI 0 = (0 : Int32) from rfl)]
    exact ⟨_, _, _, rfl, rfl, hR2, hSC, hA⟩
  · rw [if_neg (show ¬ nI 1 = (0 : Int32) by decide)]
    exact ⟨_, _, _, rfl, rfl, hR2, hSC, hA⟩
theorem sim_unlit (a0 a1 a2 : Int32) {c m : St} (h : Rel c m) : ∃ (r : Int32) (c1 : St) (m1 : St), fX10_unlit a0 a1 a2 c = some (r, c1) ∧ fX11_unlit a0 a1 a2 m = some (r, m1) ∧ Rel c1 m1 := by
  obtain ⟨r, c1, m1, e1, e2, e3, -⟩ := unlit_fr a0 a1 a2 h
  exact ⟨r, c1, m1, e1, e2, e3⟩
