/-! plain facts of states and numbers -/
theorem sI_1 (σ : St) (k j : Nat) (v : Int32) : (sI σ k v).1 j = if j = k then v else σ.1 j := rfl
theorem sI_2 (σ : St) (k : Nat) (v : Int32) : (sI σ k v).2 = σ.2 := rfl
theorem sL_1 (σ : St) (k : Nat) (v : Int64) : (sL σ k v).1 = σ.1 := rfl
theorem sL_21 (σ : St) (k j : Nat) (v : Int64) : (sL σ k v).2.1 j = if j = k then v else σ.2.1 j := rfl
theorem sL_22 (σ : St) (k : Nat) (v : Int64) : (sL σ k v).2.2 = σ.2.2 := rfl
theorem sR_1 (σ : St) (k : Nat) (f : Nat → Int32) : (sR σ k f).1 = σ.1 := rfl
theorem sR_21 (σ : St) (k : Nat) (f : Nat → Int32) : (sR σ k f).2.1 = σ.2.1 := rfl
theorem sR_22 (σ : St) (k j : Nat) (f : Nat → Int32) : (sR σ k f).2.2 j = if j = k then f else σ.2.2 j := rfl
theorem sA_1 (σ : St) (k j : Nat) (v : Int32) : (sA σ k j v).1 = σ.1 := rfl
theorem sA_21 (σ : St) (k j : Nat) (v : Int32) : (sA σ k j v).2.1 = σ.2.1 := rfl
theorem sA_22 (σ : St) (k j i : Nat) (v : Int32) : (sA σ k j v).2.2 i = if i = k then upd (σ.2.2 k) j v else σ.2.2 i := rfl
theorem sA_3 (σ : St) (k j i n : Nat) (v : Int32) : (sA σ k j v).2.2 i n = if i = k ∧ n = j then v else σ.2.2 i n := by
  rw [sA_22]
  by_cases h : i = k
  · subst h
    rw [if_pos rfl]
    by_cases h2 : n = j
    · subst h2; simp [upd]
    · simp [upd, h2]
  · simp [h]
theorem bS_eq {α : Type} (s : St) (k : St → Option α) : bS s k = k s := rfl
theorem bI_eq {α : Type} (s : Int32) (k : Int32 → Option α) : bI s k = k s := rfl
theorem bL_eq {α : Type} (s : Int64) (k : Int64 → Option α) : bL s k = k s := rfl
theorem bd_e {α β : Type} (a : α) (f : α → Option β) : (some a).bind f = f a := rfl
theorem gNz_pos {α : Type} {y : Int32} {k : Option α} (h : ¬ y = 0) : gNz y k = k := if_neg h
theorem gNl_pos {α : Type} {y : Int64} {k : Option α} (h : ¬ y = 0) : gNl y k = k := if_neg h
theorem gB_pos {α : Type} {y : Int32} {k : Option α} (h : y = 0 ∨ y = 1) : gB y k = k := if_pos h
theorem gB_0 {α : Type} {k : Option α} : gB 0 k = k := rfl
theorem gB_1 {α : Type} {k : Option α} : gB 1 k = k := rfl
theorem gI_n {α : Type} {n N : Nat} {k : Option α} (h : n < N) (hN : N < 2 ^ 31) : gIn (nI n) N k = k := gIn_pos (vp_in_nI h hN)
theorem cl_n {n : Nat} (h : n < 2 ^ 31) : (nI n).toNatClampNeg = n := nI_clamp h
theorem l32 (n : Nat) : (OfNat.ofNat n : Int32) = nI n := rfl
theorem l64 (n : Nat) : (OfNat.ofNat n : Int64) = lN n := rfl
theorem i_lt (a b : Int32) : a < b ↔ a.toInt < b.toInt := Int32.lt_iff_toInt_lt
theorem i_le (a b : Int32) : a ≤ b ↔ a.toInt ≤ b.toInt := Int32.le_iff_toInt_le
theorem i_eq (a b : Int32) : a = b ↔ a.toInt = b.toInt := Int32.toInt_inj.symm
theorem j_lt (a b : Int64) : a < b ↔ a.toInt < b.toInt := Int64.lt_iff_toInt_lt
theorem j_le (a b : Int64) : a ≤ b ↔ a.toInt ≤ b.toInt := Int64.le_iff_toInt_le
theorem j_eq (a b : Int64) : a = b ↔ a.toInt = b.toInt := Int64.toInt_inj.symm
theorem i_64 (a : Int32) : a.toInt64.toInt = a.toInt := Int32.toInt_toInt64 a
theorem i_ti {n : Nat} (h : n < 2 ^ 31) : (nI n).toInt = n := nI_toInt h
theorem i_m1 : (-1 : Int32).toInt = -1 := by decide
/-- an int in a range of small numbers -/
theorem i_rg {a : Int32} {lo hi : Nat} (h1 : (lo : Int) ≤ a.toInt) (h2 : a.toInt ≤ (hi : Int)) : ∃ n : Nat, lo ≤ n ∧ n ≤ hi ∧ a = nI n := by
  refine ⟨a.toInt.toNat, by omega, by omega, ?_⟩
  have hlt : a.toInt < 2 ^ 31 := Int32.toInt_lt a
  rw [i_eq, i_ti (by omega)]
  omega
theorem within_sp (a lo hi : Int32) : fX10_within a lo hi = some (if lo.toInt ≤ a.toInt ∧ a.toInt ≤ hi.toInt then 1 else 0) := by
  unfold fX10_within
  simp only [i_lt]
  by_cases h1 : a.toInt < lo.toInt
  · rw [if_pos h1, if_neg (by omega)]
  · by_cases h2 : hi.toInt < a.toInt
    · rw [if_neg h1, if_pos h2, if_neg (by omega)]
    · rw [if_neg h1, if_neg h2, if_pos (by omega)]
theorem in_sp (a lo hi : Int64) : fX11_in a lo hi = some (if lo.toInt ≤ a.toInt ∧ a.toInt ≤ hi.toInt then 1 else 0) := by
  unfold fX11_in
  simp only [j_lt]
  by_cases h1 : a.toInt < lo.toInt
  · rw [if_pos h1, if_neg (by omega)]
  · by_cases h2 : hi.toInt < a.toInt
    · rw [if_neg h1, if_pos h2, if_neg (by omega)]
    · rw [if_neg h1, if_neg h2, if_pos (by omega)]
theorem gB_if {α : Type} {p : Prop} [Decidable p] {k : Option α} : gB (if p then 1 else 0) k = k := by
  by_cases h : p
  · rw [if_pos h]; rfl
  · rw [if_neg h]; rfl
theorem isTwo_sp (a : Int32) : fX11_isTwo a = some (if 0 ≤ a.toInt ∧ a.toInt ≤ 1 then 1 else 0) := by
  unfold fX11_isTwo
  rw [in_sp, bd_e, gB_if, i_64]
  rfl
theorem isSheet_sp (a : Int32) : fX11_isSheet a = some (if 0 ≤ a.toInt ∧ a.toInt ≤ 3 then 1 else 0) := by
  unfold fX11_isSheet
  rw [in_sp, bd_e, gB_if, i_64]
  rfl
theorem exists_sp (a : Int32) : fX5_exists a = some (if 0 ≤ a.toInt ∧ a.toInt ≤ 3 then 1 else 0) := by
  unfold fX5_exists
  simp only [i_lt, i_le]
  have e0 : (0 : Int32).toInt = 0 := by decide
  have e4 : (4 : Int32).toInt = 4 := by decide
  by_cases h1 : a.toInt < (0 : Int32).toInt
  · rw [if_pos h1, if_neg (by omega)]
  · by_cases h2 : (4 : Int32).toInt ≤ a.toInt
    · rw [if_neg h1, if_pos h2, if_neg (by omega)]
    · rw [if_neg h1, if_neg h2, if_pos (by omega)]
theorem isForm_sp (a : Int32) : fX5_isForm a = some (if 0 ≤ a.toInt ∧ a.toInt ≤ 2 then 1 else 0) := by
  unfold fX5_isForm
  simp only [i_lt]
  have e0 : (0 : Int32).toInt = 0 := by decide
  have e4 : (2 : Int32).toInt = 2 := by decide
  by_cases h1 : a.toInt < (0 : Int32).toInt
  · rw [if_pos h1, if_neg (by omega)]
  · by_cases h2 : (2 : Int32).toInt < a.toInt
    · rw [if_neg h1, if_pos h2, if_neg (by omega)]
    · rw [if_neg h1, if_neg h2, if_pos (by omega)]
theorem ne10 : ¬ (1 : Int32) = 0 := by decide
theorem ite10 {p : Prop} [Decidable p] {α : Type} (A B : α) : (if (if p then (1 : Int32) else 0) = 0 then A else B) = if p then B else A := by
  by_cases h : p
  · rw [if_pos h, if_pos h, if_neg ne10]
  · rw [if_neg h, if_neg h, if_pos rfl]
theorem lit_ti : (0 : Int32).toInt = 0 ∧ (1 : Int32).toInt = 1 ∧ (2 : Int32).toInt = 2 ∧ (3 : Int32).toInt = 3 ∧ (4 : Int32).toInt = 4 ∧ (5 : Int32).toInt = 5 ∧ (6 : Int32).toInt = 6 ∧ (9 : Int32).toInt = 9 ∧ (16 : Int32).toInt = 16 ∧ (60 : Int32).toInt = 60 ∧ (99 : Int32).toInt = 99 ∧ (255 : Int32).toInt = 255 ∧ (999 : Int32).toInt = 999 ∧ (10 : Int32).toInt = 10 := by decide
theorem lit_tl : (0 : Int64).toInt = 0 ∧ (1 : Int64).toInt = 1 ∧ (2 : Int64).toInt = 2 ∧ (3 : Int64).toInt = 3 ∧ (4 : Int64).toInt = 4 ∧ (5 : Int64).toInt = 5 ∧ (6 : Int64).toInt = 6 ∧ (9 : Int64).toInt = 9 ∧ (16 : Int64).toInt = 16 ∧ (48 : Int64).toInt = 48 ∧ (51 : Int64).toInt = 51 ∧ (99 : Int64).toInt = 99 ∧ (255 : Int64).toInt = 255 ∧ (999 : Int64).toInt = 999 := by decide
/-! the relation between a state of the class and one of the reference, in five groups -/
/-- a byte of THE CAVE's text that may stand at i -/
def okc (t : Nat → Nat) (i : Nat) : Prop := (i % 5 = 4 → t i = 59) ∧ (i % 5 = 3 → t i = 114 ∨ t i = 46) ∧ (i % 5 < 3 → 49 ≤ t i ∧ t i ≤ 57) ∧ (i % 5 = 2 → t (i - 1) ≤ t i)
/-- the first place that may not be, or the end -/
def fst_bad (ok : Nat → Prop) (n j : Nat) : Prop := j ≤ n ∧ (∀ i, i < j → ok i) ∧ (j < n → ¬ ok j)
theorem fst_bad_u {ok : Nat → Prop} {n j k : Nat} (h1 : fst_bad ok n j) (h2 : fst_bad ok n k) : j = k := by
  obtain ⟨a1, a2, a3⟩ := h1
  obtain ⟨b1, b2, b3⟩ := h2
  rcases Nat.lt_trichotomy j k with h | h | h
  · exact absurd (b2 j h) (a3 (by omega))
  · exact h
  · exact absurd (a2 k h) (b3 (by omega))
/-- the figures of a PART, as the text tells them -/
def figc (t : Nat → Nat) (p s : Nat) : Nat := if s < 3 then t (5 * p + s) - 48 else if t (5 * p + 3) = 114 then 1 else 0
def wellc (n : Nat) : Prop := n = 0 ∨ n % 5 = 4
/-- how many PARTS -/
def szc (n j : Nat) : Nat := if j = n ∧ (n = 0 ∨ n % 5 = 4) then (n + 1) / 5 else 0
/-- THE PLAN's text: a figure is due behind x -/
def duep (t : Nat → Nat) : Nat → Bool
  | 0 => false
  | i + 1 => !(duep t i) && (t i == 120)
def okp (t : Nat → Nat) (i : Nat) : Prop := if duep t i = true then 48 ≤ t i ∧ t i ≤ 51 else t i = 43 ∨ t i = 45 ∨ t i = 117 ∨ t i = 120
def szp (t : Nat → Nat) (n j : Nat) : Nat := if j = n ∧ duep t n = false then n else 0
/-- texts -/
def RT (n0 n1 : Nat) (t0 t1 : Nat → Nat) (c m : St) : Prop :=
  n0 ≤ 79 ∧ n1 ≤ 40 ∧ (∀ i, t0 i < 256) ∧ (∀ i, t1 i < 256) ∧ c.1 0 = nI n0 ∧ c.1 1 = nI n1 ∧ m.2.2 6 0 = nI n0 ∧ m.2.2 6 1 = nI n1 ∧ (∀ i, i < n0 → c.2.2 2 i = nI (t0 i)) ∧ (∀ i, i < n1 → c.2.2 4 i = nI (t1 i)) ∧ (∀ i, i < n0 → m.2.2 5 i = nI (t0 i)) ∧ (∀ i, i < n1 → m.2.2 5 (80 + i) = nI (t1 i))
/-- THE CAVE as the class holds it -/
def RC (n0 : Nat) (t0 : Nat → Nat) (c : St) : Prop :=
  ∃ j, fst_bad (okc t0) n0 j ∧ c.1 2 = nI (szc n0 j) ∧ c.1 3 = (if j = n0 ∧ (n0 = 0 ∨ n0 % 5 = 4) then -1 else nI j) ∧ ∀ p, p < szc n0 j → ∀ s, s < 4 → c.2.2 (28 + p) s = nI (figc t0 p s)
/-- THE PLAN as the class holds it -/
def RP (n1 : Nat) (t1 : Nat → Nat) (c : St) : Prop :=
  ∃ j, fst_bad (okp t1) n1 j ∧ c.1 4 = nI (szp t1 n1 j) ∧ c.1 5 = (if j = n1 ∧ duep t1 n1 = false then -1 else nI j)
/-- lamps -/
def RLm (g : Nat) (w : Nat → Nat) (c m : St) : Prop := 1 ≤ g ∧ g ≤ 4 ∧ c.1 6 = nI g ∧ m.1 12 = nI g ∧ (∀ i, i < 4 → w i ≤ 999 ∧ c.2.2 9 i = nI (w i) ∧ m.2.2 9 i = nI (w i))
/-- whether SIDE WAY a is tried ahead of b: by sixteenths to a minute, of like ones the least -/
def befo (ch mi : Nat → Nat) (a b : Nat) : Prop := ch b * mi a < ch a * mi b ∨ (ch b * mi a = ch a * mi b ∧ a < b)
/-- side ways; their order as the class holds it -/
def RS (n : Nat) (ch mi od : Nat → Nat) (c m : St) : Prop :=
  n ≤ 6 ∧ c.1 14 = nI n ∧ m.1 20 = nI n ∧ (∀ i, i < n → ch i ≤ 16 ∧ 1 ≤ mi i ∧ mi i ≤ 99 ∧ c.2.2 15 i = nI (ch i) ∧ m.2.2 13 (2 * i) = nI (ch i) ∧ c.2.2 16 i = nI (mi i) ∧ m.2.2 13 (2 * i + 1) = nI (mi i)) ∧ ((List.range n).map ch).sum ≤ 16 ∧ (∀ i, i < n → od i < n ∧ c.2.2 17 i = nI (od i)) ∧ (∀ i j, i < j → j < n → befo ch mi (od i) (od j))
/-- cans -/
def RK (n : Nat) (pl ow re wy : Nat → Nat) (c m : St) : Prop :=
  n ≤ 6 ∧ c.1 15 = nI n ∧ m.1 23 = nI n ∧ (∀ i, i < n → pl i ≤ 16 ∧ ow i ≤ 3 ∧ re i ≤ 999 ∧ wy i ≤ 1 ∧ c.2.2 19 i = nI (pl i) ∧ c.2.2 20 i = nI (ow i) ∧ c.2.2 21 i = nI (re i) ∧ c.2.2 22 i = nI (wy i) ∧ m.2.2 15 (4 * i) = nI (pl i) ∧ m.2.2 15 (4 * i + 1) = nI (ow i) ∧ m.2.2 15 (4 * i + 2) = nI (re i) ∧ m.2.2 15 (4 * i + 3) = nI (wy i))
/-- sheets -/
def RH1 (c m : St) (s : Nat) : Prop := (c.2.2 26 s = -1 ∧ m.2.2 1 s = -1) ∨ ∃ f z : Nat, f ≤ 2 ∧ z ≤ 60 ∧ c.2.2 25 s = nI f ∧ m.2.2 1 s = nI f ∧ c.2.2 26 s = nI z ∧ m.2.2 2 s = nI z ∧ ∀ i, i < z → c.2.2 (44 + s) i = m.2.2 3 (60 * s + i)
def RH (c m : St) : Prop := c.1 16 = m.1 4 ∧ ∀ s, s < 4 → RH1 c m s
def Rel (c m : St) : Prop := (∃ n0 n1 t0 t1, RT n0 n1 t0 t1 c m ∧ RC n0 t0 c ∧ RP n1 t1 c) ∧ (∃ g w, RLm g w c m) ∧ (∃ n ch mi od, RS n ch mi od c m) ∧ (∃ n pl ow re wy, RK n pl ow re wy c m) ∧ RH c m
/-- what a group says when its cells are the same -/
theorem RT.fr {n0 n1 : Nat} {t0 t1 : Nat → Nat} {c m c' m' : St} (h : RT n0 n1 t0 t1 c m) (e0 : c'.1 0 = c.1 0) (e1 : c'.1 1 = c.1 1) (e2 : c'.2.2 2 = c.2.2 2) (e3 : c'.2.2 4 = c.2.2 4) (f1 : m'.2.2 5 = m.2.2 5) (f2 : m'.2.2 6 = m.2.2 6) : RT n0 n1 t0 t1 c' m' := by
  unfold RT at *
  rw [e0, e1, e2, e3, f1, f2]
  exact h
theorem RC.fr {n0 : Nat} {t0 : Nat → Nat} {c c' : St} (h : RC n0 t0 c) (e2 : c'.1 2 = c.1 2) (e3 : c'.1 3 = c.1 3) (e4 : ∀ p, p < 16 → c'.2.2 (28 + p) = c.2.2 (28 + p)) (hn : n0 ≤ 79) : RC n0 t0 c' := by
  obtain ⟨j, h1, h2, h3, h4⟩ := h
  refine ⟨j, h1, e2.trans h2, e3.trans h3, fun p hp s hs => ?_⟩
  rw [e4 p (by unfold szc at hp; split at hp <;> omega)]
  exact h4 p hp s hs
theorem RP.fr {n1 : Nat} {t1 : Nat → Nat} {c c' : St} (h : RP n1 t1 c) (e2 : c'.1 4 = c.1 4) (e3 : c'.1 5 = c.1 5) : RP n1 t1 c' := by
  obtain ⟨j, h1, h2, h3⟩ := h
  exact ⟨j, h1, e2.trans h2, e3.trans h3⟩
theorem RLm.fr {g : Nat} {w : Nat → Nat} {c m c' m' : St} (h : RLm g w c m) (e0 : c'.1 6 = c.1 6) (e1 : c'.2.2 9 = c.2.2 9) (f0 : m'.1 12 = m.1 12) (f1 : m'.2.2 9 = m.2.2 9) : RLm g w c' m' := by
  unfold RLm at *
  rw [e0, e1, f0, f1]
  exact h
theorem RS.fr {n : Nat} {ch mi od : Nat → Nat} {c m c' m' : St} (h : RS n ch mi od c m) (e0 : c'.1 14 = c.1 14) (e1 : c'.2.2 15 = c.2.2 15) (e2 : c'.2.2 16 = c.2.2 16) (e3 : c'.2.2 17 = c.2.2 17) (f0 : m'.1 20 = m.1 20) (f1 : m'.2.2 13 = m.2.2 13) : RS n ch mi od c' m' := by
  unfold RS at *
  rw [e0, e1, e2, e3, f0, f1]
  exact h
theorem RK.fr {n : Nat} {pl ow re wy : Nat → Nat} {c m c' m' : St} (h : RK n pl ow re wy c m) (e0 : c'.1 15 = c.1 15) (e1 : c'.2.2 19 = c.2.2 19) (e2 : c'.2.2 20 = c.2.2 20) (e3 : c'.2.2 21 = c.2.2 21) (e4 : c'.2.2 22 = c.2.2 22) (f0 : m'.1 23 = m.1 23) (f1 : m'.2.2 15 = m.2.2 15) : RK n pl ow re wy c' m' := by
  unfold RK at *
  rw [e0, e1, e2, e3, e4, f0, f1]
  exact h
theorem RH1.fr {c m c' m' : St} {s : Nat} (h : RH1 c m s) (e1 : c'.2.2 25 s = c.2.2 25 s) (e2 : c'.2.2 26 s = c.2.2 26 s) (e3 : ∀ i, i < 60 → c'.2.2 (44 + s) i = c.2.2 (44 + s) i) (f1 : m'.2.2 1 s = m.2.2 1 s) (f2 : m'.2.2 2 s = m.2.2 2 s) (f3 : ∀ i, i < 60 → m'.2.2 3 (60 * s + i) = m.2.2 3 (60 * s + i)) : RH1 c' m' s := by
  rcases h with ⟨h1, h2⟩ | ⟨f, z, h1, h2, h3, h4, h5, h6, h7⟩
  · exact Or.inl ⟨e2.trans h1, f1.trans h2⟩
  · exact Or.inr ⟨f, z, h1, h2, e1.trans h3, f1.trans h4, e2.trans h5, f2.trans h6, fun i hi => by rw [e3 i (by omega), f3 i (by omega)]; exact h7 i hi⟩
theorem RH.fr {c m c' m' : St} (h : RH c m) (e0 : c'.1 16 = c.1 16) (e1 : c'.2.2 25 = c.2.2 25) (e2 : c'.2.2 26 = c.2.2 26) (e3 : ∀ s, s < 4 → c'.2.2 (44 + s) = c.2.2 (44 + s)) (f0 : m'.1 4 = m.1 4) (f1 : m'.2.2 1 = m.2.2 1) (f2 : m'.2.2 2 = m.2.2 2) (f3 : m'.2.2 3 = m.2.2 3) : RH c' m' :=
  ⟨by rw [e0, f0]; exact h.1, fun s hs => (h.2 s hs).fr (by rw [e1]) (by rw [e2]) (fun i _ => by rw [e3 s hs]) (by rw [f1]) (by rw [f2]) (fun i _ => by rw [f3])⟩
/-- only what questions write over has changed -/
def SameC (c c' : St) : Prop := (∀ k, (k < 7 ∨ 13 < k) → c'.1 k = c.1 k) ∧ ∀ k, k ≠ 11 → k ≠ 12 → c'.2.2 k = c.2.2 k
def SameM (m m' : St) : Prop := (∀ k, k ≠ 7 → k ≠ 8 → k ≠ 11 → k ≠ 14 → k ≠ 15 → k ≠ 16 → m'.1 k = m.1 k) ∧ ∀ k, k ≠ 4 → k ≠ 7 → k ≠ 8 → k ≠ 10 → k ≠ 11 → k ≠ 12 → k ≠ 14 → m'.2.2 k = m.2.2 k
theorem SameC.rf {c : St} : SameC c c := ⟨fun _ _ => rfl, fun _ _ _ => rfl⟩
theorem SameM.rf {m : St} : SameM m m := ⟨fun _ _ _ _ _ _ _ => rfl, fun _ _ _ _ _ _ _ _ => rfl⟩
theorem SameC.tr {c c1 c2 : St} (h : SameC c c1) (g : SameC c1 c2) : SameC c c2 := ⟨fun k hk => (g.1 k hk).trans (h.1 k hk), fun k a b => (g.2 k a b).trans (h.2 k a b)⟩
theorem SameM.tr {m m1 m2 : St} (h : SameM m m1) (g : SameM m1 m2) : SameM m m2 := ⟨fun k a b c d e f => (g.1 k a b c d e f).trans (h.1 k a b c d e f), fun k a b c d e f j => (g.2 k a b c d e f j).trans (h.2 k a b c d e f j)⟩
theorem Rel.same {c m c' m' : St} (h : Rel c m) (hc : SameC c c') (hm : SameM m m') : Rel c' m' := by
  obtain ⟨⟨n0, n1, t0, t1, h1, h2, h3⟩, ⟨g, w, h4⟩, ⟨n, ch, mi, od, h5⟩, ⟨k, pl, ow, re, wy, h6⟩, h7⟩ := h
  refine ⟨⟨n0, n1, t0, t1, h1.fr ?_ ?_ ?_ ?_ ?_ ?_, h2.fr ?_ ?_ ?_ h1.1, h3.fr ?_ ?_⟩, ⟨g, w, h4.fr ?_ ?_ ?_ ?_⟩, ⟨n, ch, mi, od, h5.fr ?_ ?_ ?_ ?_ ?_ ?_⟩, ⟨k, pl, ow, re, wy, h6.fr ?_ ?_ ?_ ?_ ?_ ?_ ?_⟩, h7.fr ?_ ?_ ?_ ?_ ?_ ?_ ?_ ?_⟩
  all_goals first | exact hc.1 _ (by decide) | exact hc.2 _ (by decide) (by decide) | exact hm.1 _ (by decide) (by decide) (by decide) (by decide) (by decide) (by decide) | exact hm.2 _ (by decide) (by decide) (by decide) (by decide) (by decide) (by decide) (by decide) | (intro p hp; exact hc.2 _ (by omega) (by omega))
theorem rel0 : Rel cst0 mst0 := by
  refine ⟨⟨0, 0, fun _ => 0, fun _ => 0, ⟨by decide, by decide, fun _ => Nat.le_of_ble_eq_true rfl, fun _ => Nat.le_of_ble_eq_true rfl, rfl, rfl, rfl, rfl, fun i h => by omega, fun i h => by omega, fun i h => by omega, fun i h => by omega⟩, ⟨0, ⟨by decide, fun i h => by omega, fun h => by omega⟩, rfl, rfl, fun p hp => absurd hp (Nat.not_lt_zero _)⟩, ⟨0, ⟨by decide, fun i h => by omega, fun h => by omega⟩, rfl, rfl⟩⟩, ⟨4, fun _ => 60, by decide, by decide, rfl, rfl, fun i hi => ⟨Nat.le_of_ble_eq_true rfl, ?_⟩⟩, ⟨0, fun _ => 0, fun _ => 0, fun _ => 0, by decide, rfl, rfl, fun i h => by omega, by decide, fun i h => by omega, fun i j h1 h2 => by omega⟩, ⟨0, fun _ => 0, fun _ => 0, fun _ => 0, fun _ => 0, by decide, rfl, rfl, fun i h => by omega⟩, rfl, fun s hs => Or.inl ?_⟩
  · rcases (show i = 0 ∨ i = 1 ∨ i = 2 ∨ i = 3 by omega) with rfl | rfl | rfl | rfl <;> exact ⟨rfl, rfl⟩
  · rcases (show s = 0 ∨ s = 1 ∨ s = 2 ∨ s = 3 by omega) with rfl | rfl | rfl | rfl <;> exact ⟨rfl, rfl⟩
