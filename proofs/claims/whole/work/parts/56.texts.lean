/-! type, wipe, undo, fault, goers, lamp, read -/
/-- only texts have changed, and what is parsed of them -/
theorem Rel.setT {c m c' m' : St} (h : Rel c m) (hi : ∀ k, 6 ≤ k → c'.1 k = c.1 k) (ha : ∀ k, k ≠ 2 → k ≠ 4 → (k < 28 ∨ 44 ≤ k) → c'.2.2 k = c.2.2 k) (ji : m'.1 = m.1) (ja : ∀ k, k ≠ 5 → k ≠ 6 → m'.2.2 k = m.2.2 k) (hT : ∃ n0 n1 t0 t1, RT n0 n1 t0 t1 c' m' ∧ RC n0 t0 c' ∧ RP n1 t1 c') : Rel c' m' := by
  obtain ⟨-, ⟨g, w, h4⟩, ⟨n, ch, mi, od, h5⟩, ⟨k, pl, ow, re, wy, h6⟩, h7⟩ := h
  refine ⟨hT, ⟨g, w, h4.fr ?_ ?_ ?_ ?_⟩, ⟨n, ch, mi, od, h5.fr ?_ ?_ ?_ ?_ ?_ ?_⟩, ⟨k, pl, ow, re, wy, h6.fr ?_ ?_ ?_ ?_ ?_ ?_ ?_⟩, h7.fr ?_ ?_ ?_ ?_ ?_ ?_ ?_ ?_⟩
  all_goals first | exact hi _ (by decide) | exact ha _ (by decide) (by decide) (by decide) | rw [ji] | exact ja _ (by decide) (by decide) | (intro s hs; exact ha _ (by omega) (by omega) (by omega))
/-- only lamps have changed -/
theorem Rel.setL {c m c' m' : St} (h : Rel c m) (hi : ∀ k, k ≠ 6 → c'.1 k = c.1 k) (ha : ∀ k, k ≠ 9 → c'.2.2 k = c.2.2 k) (ji : ∀ k, k ≠ 12 → m'.1 k = m.1 k) (ja : ∀ k, k ≠ 9 → m'.2.2 k = m.2.2 k) (hL : ∃ g w, RLm g w c' m') : Rel c' m' := by
  obtain ⟨⟨n0, n1, t0, t1, h1, h2, h3⟩, -, ⟨n, ch, mi, od, h5⟩, ⟨k, pl, ow, re, wy, h6⟩, h7⟩ := h
  refine ⟨⟨n0, n1, t0, t1, h1.fr ?_ ?_ ?_ ?_ ?_ ?_, h2.fr ?_ ?_ ?_ h1.1, h3.fr ?_ ?_⟩, hL, ⟨n, ch, mi, od, h5.fr ?_ ?_ ?_ ?_ ?_ ?_⟩, ⟨k, pl, ow, re, wy, h6.fr ?_ ?_ ?_ ?_ ?_ ?_ ?_⟩, h7.fr ?_ ?_ ?_ ?_ ?_ ?_ ?_ ?_⟩
  all_goals first | exact hi _ (by decide) | exact ha _ (by decide) | exact ji _ (by decide) | exact ja _ (by decide) | (intro s hs; exact ha _ (by omega))
/-- behind a change of text 0 in both, the class parses it -/
theorem reparse0 {c m c' m' : St} (h : Rel c m) {n0 : Nat} {t0 : Nat → Nat} (hn : n0 ≤ 79) (ht : ∀ i, t0 i < 256) (e0 : c'.1 0 = nI n0) (ei : ∀ k, k ≠ 0 → c'.1 k = c.1 k) (eb : ∀ i, i < n0 → c'.2.2 2 i = nI (t0 i)) (ea : ∀ k, k ≠ 2 → c'.2.2 k = c.2.2 k) (f1 : m'.1 = m.1) (f6 : m'.2.2 6 0 = nI n0) (f61 : m'.2.2 6 1 = m.2.2 6 1) (fb : ∀ i, i < n0 → m'.2.2 5 i = nI (t0 i)) (fb1 : ∀ i, i < 40 → m'.2.2 5 (80 + i) = m.2.2 5 (80 + i)) (fa : ∀ k, k ≠ 5 → k ≠ 6 → m'.2.2 k = m.2.2 k) : ∃ c2, fX10_parseAgain 0 c' = some c2 ∧ c2.1 0 = nI n0 ∧ Rel c2 m' := by
  obtain ⟨c2, e1, e2, e3⟩ := parse1_sp hn ht e0 eb
  refine ⟨c2, ?_, ?_, ?_⟩
  · unfold fX10_parseAgain
    rw [if_pos rfl, e1, bd_e]
  · rw [e3.1 0 (by decide) (by decide), e0]
  · refine h.setT (fun k hk => ?_) (fun k a b d => ?_) f1 fa ?_
    · rw [e3.1 k (by omega) (by omega), ei k (by omega)]
    · rw [e3.2 k d, ea k a]
    · obtain ⟨⟨p0, n1, s0, t1, ⟨h1, h2, h3, h4, h5, h6, h7, h8, h9, h10, h11, h12⟩, -, hP⟩, -⟩ := h
      refine ⟨n0, n1, t0, t1, ⟨hn, h2, ht, h4, ?_, ?_, f6, ?_, fun i hi => ?_, fun i hi => ?_, fb, fun i hi => ?_⟩, e2, hP.fr ?_ ?_⟩
      · rw [e3.1 0 (by decide) (by decide), e0]
      · rw [e3.1 1 (by decide) (by decide), ei 1 (by decide), h6]
      · rw [f61, h8]
      · rw [e3.2 2 (by decide), eb i hi]
      · rw [e3.2 4 (by decide), ea 4 (by decide), h10 i hi]
      · rw [fb1 i (by omega), h12 i hi]
      · rw [e3.1 4 (by decide) (by decide), ei 4 (by decide)]
      · rw [e3.1 5 (by decide) (by decide), ei 5 (by decide)]
theorem reparse1 {c m c' m' : St} (h : Rel c m) {n1 : Nat} {t1 : Nat → Nat} (hn : n1 ≤ 40) (ht : ∀ i, t1 i < 256) (e0 : c'.1 1 = nI n1) (ei : ∀ k, k ≠ 1 → c'.1 k = c.1 k) (eb : ∀ i, i < n1 → c'.2.2 4 i = nI (t1 i)) (ea : ∀ k, k ≠ 4 → c'.2.2 k = c.2.2 k) (f1 : m'.1 = m.1) (f6 : m'.2.2 6 1 = nI n1) (f61 : m'.2.2 6 0 = m.2.2 6 0) (fb : ∀ i, i < n1 → m'.2.2 5 (80 + i) = nI (t1 i)) (fb1 : ∀ i, i < 80 → m'.2.2 5 i = m.2.2 5 i) (fa : ∀ k, k ≠ 5 → k ≠ 6 → m'.2.2 k = m.2.2 k) : ∃ c2, fX10_parseAgain 1 c' = some c2 ∧ c2.1 1 = nI n1 ∧ Rel c2 m' := by
  obtain ⟨c2, e1, e2, e3⟩ := parse4_sp hn ht e0 eb
  refine ⟨c2, ?_, ?_, ?_⟩
  · unfold fX10_parseAgain
    rw [if_neg ne10, e1, bd_e]
  · rw [e3.1 1 (by decide) (by decide), e0]
  · refine h.setT (fun k hk => ?_) (fun k a b d => ?_) f1 fa ?_
    · rw [e3.1 k (by omega) (by omega), ei k (by omega)]
    · rw [e3.2, ea k b]
    · obtain ⟨⟨n0, p1, t0, s1, ⟨h1, h2, h3, h4, h5, h6, h7, h8, h9, h10, h11, h12⟩, hC, -⟩, -⟩ := h
      refine ⟨n0, n1, t0, t1, ⟨h1, hn, h3, ht, ?_, ?_, ?_, f6, fun i hi => ?_, fun i hi => ?_, fun i hi => ?_, fb⟩, hC.fr ?_ ?_ (fun p hp => ?_) h1, e2⟩
      · rw [e3.1 0 (by decide) (by decide), ei 0 (by decide), h5]
      · rw [e3.1 1 (by decide) (by decide), e0]
      · rw [f61, h7]
      · rw [e3.2, ea 2 (by decide), h9 i hi]
      · rw [e3.2, eb i hi]
      · rw [fb1 i (by omega), h11 i hi]
      · rw [e3.1 2 (by decide) (by decide), ei 2 (by decide)]
      · rw [e3.1 3 (by decide) (by decide), ei 3 (by decide)]
      · rw [e3.2, ea (28 + p) (by omega)]
theorem tof_sp (a : Int32) : (a = 0 ∧ fX10_textOf a = some 1 ∧ fX11_isTwo a = some 1) ∨ (a = 1 ∧ fX10_textOf a = some 3 ∧ fX11_isTwo a = some 1) ∨ (fX10_textOf a = some 0 ∧ fX11_isTwo a = some 0) := by
  rw [isTwo_sp]
  unfold fX10_textOf
  by_cases h0 : a = 0
  · subst h0
    exact Or.inl ⟨rfl, rfl, by rw [if_pos (by decide)]⟩
  · by_cases h1 : a = 1
    · subst h1
      exact Or.inr (Or.inl ⟨rfl, rfl, by rw [if_pos (by decide)]⟩)
    · rw [if_neg h0, if_neg h1]
      refine Or.inr (Or.inr ⟨rfl, ?_⟩)
      rw [if_neg (fun q => ?_)]
      have e0 : ¬ a.toInt = 0 := fun w => h0 ((i_eq _ _).mpr w)
      have e1 : ¬ a.toInt = 1 := fun w => h1 ((i_eq _ _).mpr w)
      omega
theorem sim_type (a0 a1 : Int32) {c m : St} (h : Rel c m) : ∃ (r : Int32) (c1 : St) (m1 : St), fX10_type a0 a1 c = some (r, c1) ∧ fX11_type a0 a1 m = some (r, m1) ∧ Rel c1 m1 := by
  unfold fX10_type fX11_type
  obtain ⟨⟨n0, n1, t0, t1, ⟨h1, h2, h3, h4, h5, h6, h7, h8, h9, h10, h11, h12⟩, hC, hP⟩, -⟩ := id h
  have wi := within_sp a1 0 255
  have ii := in_sp a1.toInt64 0 255
  rw [i_64, show (0 : Int64).toInt = 0 by decide, show (255 : Int64).toInt = 255 by decide] at ii
  rw [show (0 : Int32).toInt = 0 by decide, show (255 : Int32).toInt = 255 by decide] at wi
  rcases tof_sp a0 with ⟨rfl, e1, e2⟩ | ⟨rfl, e1, e2⟩ | ⟨e1, e2⟩
  · rw [e1, e2, bd_e, bd_e, if_pos rfl, if_neg ne10, wi, ii, bd_e, bd_e, ite10, ite10, g02, if_pos rfl, z_cl.1, h7]
    by_cases v : 0 ≤ a1.toInt ∧ a1.toInt ≤ 255
    · rw [if_pos v, if_pos v]
      obtain ⟨b, -, hb, rfl⟩ := i_rg (a := a1) (lo := 0) (hi := 255) v.1 v.2
      unfold fX7_push_1 BX11_type_39
      simp only [bS_eq, g02, z_cl.1, h5, h7, sA_1]
      by_cases hf : n0 = 79
      · subst hf
        rw [if_neg (show ¬ nI 79 < (79 : Int32) by decide), bd_e, if_pos rfl, if_pos (show nI 79 = (79 : Int32) by decide)]
        exact ⟨_, _, _, rfl, rfl, h⟩
      · rw [if_pos (show nI n0 < (79 : Int32) from nI_lt (b := 79) (by omega) (by decide)), gI_n (show n0 < 79 by omega) (by decide), bd_e, if_neg ne10, if_neg (show ¬ nI n0 = (79 : Int32) from ne_n (b := 79) hf (by omega) (by decide)), show (80 : Int32) * 0 + nI n0 = nI (80 * 0 + n0) from idx_n 80 0 n0, gI_n (show 80 * 0 + n0 < 120 by omega) (by decide), cl_n (show n0 < 2 ^ 31 by omega), cl_n (show 80 * 0 + n0 < 2 ^ 31 by omega), nI_1, show 80 * 0 + n0 = n0 by omega, show (sA m 5 n0 (nI b)).2.2 6 0 = nI n0 from h7, nI_1]
        obtain ⟨c2, q1, q2, q3⟩ := reparse0 h (n0 := n0 + 1) (t0 := fun i => if i = n0 then b else t0 i) (c' := sI (sA c 2 n0 (nI b)) 0 (nI (n0 + 1))) (m' := sA (sA m 5 n0 (nI b)) 6 0 (nI (n0 + 1))) (by omega) (fun i => by
            show (if i = n0 then b else t0 i) < 256
            split
            · omega
            · exact h3 i) (by rw [sI_1, if_pos rfl]) (fun k hk => by rw [sI_1, if_neg hk, sA_1]) (fun i hi => by
            rw [sI_2, sA_3]
            by_cases hin : i = n0
            · rw [if_pos ⟨rfl, hin⟩, if_pos hin]
            · rw [if_neg (by omega), if_neg hin, h9 i (by omega)]) (fun k hk => by rw [sI_2, sA_22, if_neg hk]) rfl (by rw [sA_3, if_pos ⟨rfl, rfl⟩]) (by rw [sA_3, if_neg (by omega), sA_22, if_neg (by decide)]) (fun i hi => by
            rw [sA_22, if_neg (by decide), sA_3]
            by_cases hin : i = n0
            · rw [if_pos ⟨rfl, hin⟩, if_pos hin]
            · rw [if_neg (by omega), if_neg hin, h11 i (by omega)]) (fun i hi => by rw [sA_22, if_neg (by decide), sA_3, if_neg (by omega)]) (fun k a b => by rw [sA_22, if_neg b, sA_22, if_neg a])
        rw [q1, bd_e]
        unfold fX7_length_1
        rw [bd_e, q2, show (sA (sA m 5 n0 (nI b)) 6 0 (nI (n0 + 1))).2.2 6 0 = nI (n0 + 1) by rw [sA_3, if_pos ⟨rfl, rfl⟩]]
        exact ⟨_, _, _, rfl, rfl, q3⟩
    · rw [if_neg v, if_neg v]
      exact ⟨_, _, _, rfl, rfl, h⟩
  · rw [e1, e2, bd_e, bd_e, if_neg (show ¬ 3 = 1 by decide), if_pos rfl, if_neg ne10, wi, ii, bd_e, bd_e, ite10, ite10, g12, if_neg ne10, z_cl.2.1, h8]
    by_cases v : 0 ≤ a1.toInt ∧ a1.toInt ≤ 255
    · rw [if_pos v, if_pos v]
      obtain ⟨b, -, hb, rfl⟩ := i_rg (a := a1) (lo := 0) (hi := 255) v.1 v.2
      unfold fX7_push_3 BX11_type_39
      simp only [bS_eq, g12, z_cl.2.1, h6, h8, sA_1]
      by_cases hf : n1 = 40
      · subst hf
        rw [if_neg (show ¬ nI 40 < (40 : Int32) by decide), bd_e, if_pos rfl, if_pos (show nI 40 = (40 : Int32) by decide)]
        exact ⟨_, _, _, rfl, rfl, h⟩
      · rw [if_pos (show nI n1 < (40 : Int32) from nI_lt (b := 40) (by omega) (by decide)), gI_n (show n1 < 40 by omega) (by decide), bd_e, if_neg ne10, if_neg (show ¬ nI n1 = (40 : Int32) from ne_n (b := 40) hf (by omega) (by decide)), show (80 : Int32) * 1 + nI n1 = nI (80 * 1 + n1) from idx_n 80 1 n1, gI_n (show 80 * 1 + n1 < 120 by omega) (by decide), cl_n (show n1 < 2 ^ 31 by omega), cl_n (show 80 * 1 + n1 < 2 ^ 31 by omega), nI_1, show 80 * 1 + n1 = 80 + n1 by omega, show (sA m 5 (80 + n1) (nI b)).2.2 6 1 = nI n1 from h8, nI_1]
        obtain ⟨c2, q1, q2, q3⟩ := reparse1 h (n1 := n1 + 1) (t1 := fun i => if i = n1 then b else t1 i) (c' := sI (sA c 4 n1 (nI b)) 1 (nI (n1 + 1))) (m' := sA (sA m 5 (80 + n1) (nI b)) 6 1 (nI (n1 + 1))) (by omega) (fun i => by
            show (if i = n1 then b else t1 i) < 256
            split
            · omega
            · exact h4 i) (by rw [sI_1, if_pos rfl]) (fun k hk => by rw [sI_1, if_neg hk, sA_1]) (fun i hi => by
            rw [sI_2, sA_3]
            by_cases hin : i = n1
            · rw [if_pos ⟨rfl, hin⟩, if_pos hin]
            · rw [if_neg (by omega), if_neg hin, h10 i (by omega)]) (fun k hk => by rw [sI_2, sA_22, if_neg hk]) rfl (by rw [sA_3, if_pos ⟨rfl, rfl⟩]) (by rw [sA_3, if_neg (by omega), sA_22, if_neg (by decide)]) (fun i hi => by
            rw [sA_22, if_neg (by decide), sA_3]
            by_cases hin : i = n1
            · rw [if_pos ⟨rfl, by omega⟩, if_pos hin]
            · rw [if_neg (by omega), if_neg hin, h12 i (by omega)]) (fun i hi => by rw [sA_22, if_neg (by decide), sA_3, if_neg (by omega)]) (fun k a b => by rw [sA_22, if_neg b, sA_22, if_neg a])
        rw [q1, bd_e]
        unfold fX7_length_3
        rw [bd_e, q2, show (sA (sA m 5 (80 + n1) (nI b)) 6 1 (nI (n1 + 1))).2.2 6 1 = nI (n1 + 1) by rw [sA_3, if_pos ⟨rfl, rfl⟩]]
        exact ⟨_, _, _, rfl, rfl, q3⟩
    · rw [if_neg v, if_neg v]
      exact ⟨_, _, _, rfl, rfl, h⟩
  · rw [e1, e2, bd_e, bd_e, if_neg (by decide), if_neg (by decide), if_pos rfl]
    exact ⟨_, _, _, rfl, rfl, h⟩
theorem sim_wipe (a0 : Int32) {c m : St} (h : Rel c m) : ∃ (r : Int32) (c1 : St) (m1 : St), fX10_wipe a0 c = some (r, c1) ∧ fX11_wipe a0 m = some (r, m1) ∧ Rel c1 m1 := by
  unfold fX10_wipe fX11_wipe
  obtain ⟨⟨n0, n1, t0, t1, ⟨h1, h2, h3, h4, h5, h6, h7, h8, h9, h10, h11, h12⟩, hC, hP⟩, -⟩ := id h
  rcases tof_sp a0 with ⟨rfl, e1, e2⟩ | ⟨rfl, e1, e2⟩ | ⟨e1, e2⟩
  · unfold fX7_length_1 fX7_clear_1
    simp only [e1, e2, bd_e, if_true, if_neg ne10, g02, bI_eq, bS_eq, z_cl.1, h7, h5]
    obtain ⟨c2, q1, q2, q3⟩ := reparse0 h (n0 := 0) (t0 := t0) (c' := sI c 0 0) (m' := sA m 6 0 0) (by omega) h3 (by rw [sI_1, if_pos rfl]; rfl) (fun k hk => by rw [sI_1, if_neg hk]) (by omega) (fun k hk => rfl) rfl (by rw [sA_3, if_pos ⟨rfl, rfl⟩]; rfl) (by rw [sA_3, if_neg (by omega)]) (by omega) (fun i hi => by rw [sA_3, if_neg (by omega)]) (fun k a b => by rw [sA_22, if_neg b])
    rw [q1, bd_e]
    exact ⟨_, _, _, rfl, rfl, q3⟩
  · unfold fX7_length_3 fX7_clear_3
    simp only [e1, e2, bd_e, if_neg (show ¬ 3 = 1 by decide), if_true, if_neg ne10, g12, bI_eq, bS_eq, z_cl.2.1, h8, h6]
    obtain ⟨c2, q1, q2, q3⟩ := reparse1 h (n1 := 0) (t1 := t1) (c' := sI c 1 0) (m' := sA m 6 1 0) (by omega) h4 (by rw [sI_1, if_pos rfl]; rfl) (fun k hk => by rw [sI_1, if_neg hk]) (by omega) (fun k hk => rfl) rfl (by rw [sA_3, if_pos ⟨rfl, rfl⟩]; rfl) (by rw [sA_3, if_neg (by omega)]) (by omega) (fun i hi => by rw [sA_3, if_neg (by omega)]) (fun k a b => by rw [sA_22, if_neg b])
    rw [q1, bd_e]
    exact ⟨_, _, _, rfl, rfl, q3⟩
  · rw [e1, e2, bd_e, bd_e, if_neg (by decide), if_neg (by decide), if_pos rfl]
    exact ⟨_, _, _, rfl, rfl, h⟩
theorem sim_undo (a0 : Int32) {c m : St} (h : Rel c m) : ∃ (r : Int32) (c1 : St) (m1 : St), fX10_undo a0 c = some (r, c1) ∧ fX11_undo a0 m = some (r, m1) ∧ Rel c1 m1 := by
  unfold fX10_undo fX11_undo
  obtain ⟨⟨n0, n1, t0, t1, ⟨h1, h2, h3, h4, h5, h6, h7, h8, h9, h10, h11, h12⟩, hC, hP⟩, -⟩ := id h
  rcases tof_sp a0 with ⟨rfl, e1, e2⟩ | ⟨rfl, e1, e2⟩ | ⟨e1, e2⟩
  · unfold fX7_pop_1
    simp only [e1, e2, bd_e, if_true, if_neg ne10, g02, bS_eq, z_cl.1, h7, h5]
    by_cases hz : n0 = 0
    · subst hz
      rw [if_pos (show nI 0 = (0 : Int32) from rfl), if_pos (show nI 0 = (0 : Int32) from rfl), bd_e, if_pos rfl]
      exact ⟨_, _, _, rfl, rfl, h⟩
    · rw [if_neg (show ¬ nI n0 = (0 : Int32) from nI_ne0 (by omega) (by omega)), if_neg (show ¬ nI n0 = (0 : Int32) from nI_ne0 (by omega) (by omega)), bd_e, if_neg ne10, show nI n0 - 1 = nI (n0 - 1) from pk_sub (b := 1) (by omega)]
      obtain ⟨c2, q1, q2, q3⟩ := reparse0 h (n0 := n0 - 1) (t0 := t0) (c' := sI c 0 (nI (n0 - 1))) (m' := sA m 6 0 (nI (n0 - 1))) (by omega) h3 (by rw [sI_1, if_pos rfl]) (fun k hk => by rw [sI_1, if_neg hk]) (fun i hi => h9 i (by omega)) (fun k hk => rfl) rfl (by rw [sA_3, if_pos ⟨rfl, rfl⟩]) (by rw [sA_3, if_neg (by omega)]) (fun i hi => by rw [sA_3, if_neg (by omega)]; exact h11 i (by omega)) (fun i hi => by rw [sA_3, if_neg (by omega)]) (fun k a b => by rw [sA_22, if_neg b])
      unfold fX7_length_1
      rw [q1, bd_e, bd_e, q2, sA_3, if_pos ⟨rfl, rfl⟩]
      exact ⟨_, _, _, rfl, rfl, q3⟩
  · unfold fX7_pop_3
    simp only [e1, e2, bd_e, if_neg (show ¬ 3 = 1 by decide), if_true, if_neg ne10, g12, bS_eq, z_cl.2.1, h8, h6]
    by_cases hz : n1 = 0
    · subst hz
      rw [if_pos (show nI 0 = (0 : Int32) from rfl), if_pos (show nI 0 = (0 : Int32) from rfl), bd_e, if_pos rfl]
      exact ⟨_, _, _, rfl, rfl, h⟩
    · rw [if_neg (show ¬ nI n1 = (0 : Int32) from nI_ne0 (by omega) (by omega)), if_neg (show ¬ nI n1 = (0 : Int32) from nI_ne0 (by omega) (by omega)), bd_e, if_neg ne10, show nI n1 - 1 = nI (n1 - 1) from pk_sub (b := 1) (by omega)]
      obtain ⟨c2, q1, q2, q3⟩ := reparse1 h (n1 := n1 - 1) (t1 := t1) (c' := sI c 1 (nI (n1 - 1))) (m' := sA m 6 1 (nI (n1 - 1))) (by omega) h4 (by rw [sI_1, if_pos rfl]) (fun k hk => by rw [sI_1, if_neg hk]) (fun i hi => h10 i (by omega)) (fun k hk => rfl) rfl (by rw [sA_3, if_pos ⟨rfl, rfl⟩]) (by rw [sA_3, if_neg (by omega)]) (fun i hi => by rw [sA_3, if_neg (by omega)]; exact h12 i (by omega)) (fun i hi => by rw [sA_3, if_neg (by omega)]) (fun k a b => by rw [sA_22, if_neg b])
      unfold fX7_length_3
      rw [q1, bd_e, bd_e, q2, sA_3, if_pos ⟨rfl, rfl⟩]
      exact ⟨_, _, _, rfl, rfl, q3⟩
  · rw [e1, e2, bd_e, bd_e, if_neg (by decide), if_neg (by decide), if_pos rfl]
    exact ⟨_, _, _, rfl, rfl, h⟩
theorem sim_fault (a0 : Int32) {c m : St} (h : Rel c m) : ∃ (r : Int32) (m1 : St), fX10_fault a0 c = some r ∧ fX11_fault a0 m = some (r, m1) ∧ Rel c m1 := by
  unfold fX10_fault fX11_fault
  obtain ⟨⟨n0, n1, t0, t1, ⟨h1, h2, h3, h4, h5, h6, h7, h8, h9, h10, h11, h12⟩, hC, hP⟩, -⟩ := id h
  rw [within_sp, isTwo_sp, bd_e, bd_e, ite10, ite10, show (0 : Int32).toInt = 0 by decide, show (1 : Int32).toInt = 1 by decide]
  by_cases v : 0 ≤ a0.toInt ∧ a0.toInt ≤ 1
  · rw [if_pos v, if_pos v]
    by_cases h0 : a0 = 0
    · rw [if_pos h0, if_pos h0]
      obtain ⟨r, m1, e1, ⟨j, g1, g2, g3, g4⟩, e3, e4⟩ := readsCave_sp h1 h3 h7 h11
      obtain ⟨j', k1, k2, k3, k4⟩ := hC
      rw [fst_bad_u k1 g1] at k3
      rw [e1, bd_e]
      unfold fX1_faultPlace
      rw [bd_e, k3, ← g2]
      exact ⟨_, _, rfl, rfl, h.same SameC.rf e3.same⟩
    · rw [if_neg h0, if_neg h0]
      obtain ⟨r, m1, e1, ⟨j, g1, g2, g3⟩, e3⟩ := readsPlan_sp h2 h4 h8 h12
      obtain ⟨j', k1, k2, k3⟩ := hP
      rw [fst_bad_u k1 g1] at k3
      rw [e1, bd_e]
      unfold fX4_faultPlace
      rw [bd_e, k3, ← g2]
      refine ⟨_, _, rfl, rfl, h.same SameC.rf ⟨fun k a _ b _ _ _ => e3.1 k a b, fun k _ _ _ _ _ _ _ => by rw [e3.2]⟩⟩
  · rw [if_neg v, if_neg v]
    exact ⟨_, _, rfl, rfl, h⟩
theorem sim_goers (a0 : Int32) {c m : St} (h : Rel c m) : ∃ (r : Int32) (c1 : St) (m1 : St), fX10_goers a0 c = some (r, c1) ∧ fX11_goers a0 m = some (r, m1) ∧ Rel c1 m1 := by
  unfold fX10_goers fX11_goers fX3_party fX3_setParty
  obtain ⟨-, ⟨g, w, g1, g2, g3, g4, g5⟩, -⟩ := id h
  simp only [within_sp, in_sp, bd_e, ite10, i_64, show (1 : Int32).toInt = 1 by decide, show (4 : Int32).toInt = 4 by decide, show (1 : Int64).toInt = 1 by decide, show (4 : Int64).toInt = 4 by decide, bS_eq, bI_eq]
  by_cases v : 1 ≤ a0.toInt ∧ a0.toInt ≤ 4
  · rw [if_pos v, if_pos v, g3, g4]
    obtain ⟨n, hn1, hn, rfl⟩ := i_rg (a := a0) (lo := 1) (hi := 4) v.1 v.2
    exact ⟨_, _, _, rfl, rfl, h.setL (fun k hk => by rw [sI_1, if_neg hk]) (fun _ _ => rfl) (fun k hk => by rw [sI_1, if_neg hk]) (fun _ _ => rfl) ⟨n, w, hn1, hn, rfl, rfl, g5⟩⟩
  · rw [if_neg v, if_neg v]
    exact ⟨_, _, _, rfl, rfl, h⟩
/-- a lamp of both is set -/
theorem Rel.lampS {c m : St} (h : Rel c m) {i v : Nat} (hi : i < 4) (hv : v ≤ 999) : Rel (sA c 9 i (nI v)) (sA m 9 i (nI v)) := by
  obtain ⟨-, ⟨g, w, g1, g2, g3, g4, g5⟩, -⟩ := id h
  refine h.setL (fun _ _ => rfl) (fun k hk => by rw [sA_22, if_neg hk]) (fun _ _ => rfl) (fun k hk => by rw [sA_22, if_neg hk]) ⟨g, fun j => if j = i then v else w j, g1, g2, g3, g4, fun j hj => ?_⟩
  rw [sA_3, sA_3]
  by_cases hji : j = i
  · simp only [hji, if_pos, and_self]
    exact ⟨hv, trivial⟩
  · simp only [hji, if_false, and_false]
    exact g5 j hj
theorem burns_n {c : St} {i : Nat} (hi : i < 4) : fX3_burns (nI i) c = some (c.2.2 9 i) := by
  unfold fX3_burns
  rw [if_neg (nI_pos (show i < 2 ^ 31 by omega)), if_neg (show ¬ (4 : Int32) ≤ nI i from nI_ge (b := 4) hi (by decide)), gI_n hi (by decide), cl_n (by omega)]
theorem setBurns_n {c : St} {i : Nat} (hi : i < 4) (v : Int32) : fX3_setBurns (nI i) v c = some (sA c 9 i v) := by
  unfold fX3_setBurns
  rw [if_neg (nI_pos (show i < 2 ^ 31 by omega)), if_neg (show ¬ (4 : Int32) ≤ nI i from nI_ge (b := 4) hi (by decide)), gI_n hi (by decide), cl_n (by omega), bS_eq]
theorem lampM_sp {m : St} {i : Nat} (hi : i < 4) (v : Int32) : fX11_lamp (nI i) v m = if 0 ≤ v.toInt ∧ v.toInt ≤ 999 then some (m.2.2 9 i, sA m 9 i v) else some (-2, m) := by
  unfold fX11_lamp
  have v0 : (0 : Int64).toInt ≤ (nI i).toInt ∧ (nI i).toInt ≤ (3 : Int64).toInt := by rw [i_ti (by omega), show (0 : Int64).toInt = 0 by decide, show (3 : Int64).toInt = 3 by decide]; omega
  simp only [in_sp, i_64, bd_e, ite10, if_pos v0, gI_n hi (show 4 < 2 ^ 31 by decide), bI_eq, bS_eq, cl_n (show i < 2 ^ 31 by omega)]
  rfl
theorem sim_lamp (a0 a1 : Int32) {c m : St} (h : Rel c m) : ∃ (r : Int32) (c1 : St) (m1 : St), fX10_lamp a0 a1 c = some (r, c1) ∧ fX11_lamp a0 a1 m = some (r, m1) ∧ Rel c1 m1 := by
  obtain ⟨-, ⟨g, w, g1, g2, g3, g4, g5⟩, -⟩ := id h
  unfold fX10_lamp
  rw [within_sp, bd_e, ite10, show (0 : Int32).toInt = 0 by decide, show (3 : Int32).toInt = 3 by decide]
  by_cases v0 : 0 ≤ a0.toInt ∧ a0.toInt ≤ 3
  · rw [if_pos v0]
    obtain ⟨i, -, hi, rfl⟩ := i_rg (a := a0) (lo := 0) (hi := 3) v0.1 v0.2
    rw [lampM_sp (show i < 4 by omega), within_sp, bd_e, ite10, show (0 : Int32).toInt = 0 by decide, show (999 : Int32).toInt = 999 by decide]
    by_cases v1 : 0 ≤ a1.toInt ∧ a1.toInt ≤ 999
    · rw [if_pos v1, if_pos v1, burns_n (by omega), bd_e, setBurns_n (by omega), bd_e]
      obtain ⟨v, -, hv, rfl⟩ := i_rg (a := a1) (lo := 0) (hi := 999) v1.1 v1.2
      obtain ⟨-, e1, e2⟩ := g5 i (by omega)
      rw [e1, e2]
      exact ⟨_, _, _, rfl, rfl, h.lampS (by omega) hv⟩
    · rw [if_neg v1, if_neg v1]
      exact ⟨_, _, _, rfl, rfl, h⟩
  · rw [if_neg v0]
    refine ⟨_, _, m, rfl, ?_, h⟩
    unfold fX11_lamp
    rw [in_sp, i_64, bd_e, ite10, show (0 : Int64).toInt = 0 by decide, show (3 : Int64).toInt = 3 by decide, if_neg v0]
theorem item_n {c : St} {s z j : Nat} (hs : s < 4) (hz : z ≤ 60) (hj : j < z) (h5 : c.2.2 26 s = nI z) : fX5_item (nI s) (nI j) c = some (c.2.2 (44 + s) j) := by
  unfold fX5_item
  rw [holds_sp hs hz h5, bd_e, ite10, if_pos (by rw [i_ti (by omega), show (1 : Int32).toInt = 1 by decide]; omega), gI_n hs (by decide), gI_n (show j < 60 by omega) (by decide), cl_n (by omega), cl_n (by omega)]
theorem read_loop {s z : Nat} (hs : s < 4) (hz : z ≤ 60) : ∀ (k i : Nat) (c m : St), Rel c m → c.2.2 26 s = nI z → m.2.2 2 s = nI z → (∀ i, i < z → c.2.2 (44 + s) i = m.2.2 3 (60 * s + i)) → i ≤ z → i ≤ 4 → 4 < k + i → ∃ (r : Int32) (c1 m1 : St), LX10_read_45 k c (nI s) (nI (if z < 4 then z else 4)) (nI i) = some (r, c1) ∧ LX11_read_27 k m (nI s) (nI i) = some (r, m1) ∧ Rel c1 m1 := by
  intro k
  induction k with
  | zero => intro i c m _ _ _ _ h1 h2 h3; omega
  | succ k ih =>
    intro i c m h h5 h6 h7 h1 h2 h3
    rw [LX10_read_45, LX11_read_27]
    unfold BX10_read_45 BX11_read_27
    rw [gI_n hs (by decide), cl_n (show s < 2 ^ 31 by omega), h6]
    by_cases hiz : i = z
    · subst hiz
      rw [if_pos (nI_le (by split <;> omega) (by omega)), if_pos (nI_le (Nat.le_refl _) (by omega))]
      exact ⟨_, _, _, rfl, rfl, h⟩
    · rw [if_neg (show ¬ nI z ≤ nI i from nI_ge (by omega) (by omega)), show (60 : Int32) * nI s + nI i = nI (60 * s + i) from idx_n 60 s i, gI_n (show 60 * s + i < 240 by omega) (by decide), cl_n (show 60 * s + i < 2 ^ 31 by omega)]
      by_cases hi4 : i = 4
      · subst hi4
        rw [if_pos (nI_le (by split <;> omega) (by decide))]
        refine ⟨nI 4, c, m, rfl, ?_, h⟩
        have : ∀ v : Int32, fX11_lamp (nI 4) v m = some (-2, m) := fun v => by
          unfold fX11_lamp
          rw [in_sp, i_64, bd_e, ite10, if_neg (by decide)]
        rw [this, bd_e, if_pos (show (-2 : Int32) < 0 by decide)]
      · rw [if_neg (nI_ge (by split <;> omega) (by split <;> omega)), item_n hs hz (show i < z by omega) h5, bd_e, within_sp, bd_e, ite10, show (0 : Int32).toInt = 0 by decide, show (999 : Int32).toInt = 999 by decide, lampM_sp (show i < 4 by omega), ← h7 i (by omega)]
        by_cases v1 : 0 ≤ (c.2.2 (44 + s) i).toInt ∧ (c.2.2 (44 + s) i).toInt ≤ 999
        · obtain ⟨v, -, hv, ev⟩ := i_rg (a := c.2.2 (44 + s) i) (lo := 0) (hi := 999) v1.1 v1.2
          rw [if_pos v1, if_pos v1, bd_e, bd_e, setBurns_n (show i < 4 by omega), bd_e, bI_eq, nI_1, ev]
          obtain ⟨-, ⟨g, w, g1, g2, g3, g4, g5⟩, -⟩ := id h
          obtain ⟨w1, e1, e2⟩ := g5 i (by omega)
          rw [if_neg (show ¬ (m.2.2 9 i, sA m 9 i (nI v)).1 < 0 by show ¬ m.2.2 9 i < 0; rw [e2]; exact nI_pos (by omega))]
          exact ih (i + 1) _ _ (h.lampS (by omega) hv) (by rw [sA_22, if_neg (by decide)]; exact h5) (by rw [sA_22, if_neg (by decide)]; exact h6) (fun q hq => by rw [sA_22, if_neg (by omega), sA_22, if_neg (by decide)]; exact h7 q hq) (by omega) (by omega) (by omega)
        · rw [if_neg v1, if_neg v1, bd_e, if_pos (show ((-2 : Int32), m).1 < 0 from (by decide : (-2 : Int32) < 0))]
          exact ⟨_, _, _, rfl, rfl, h⟩
theorem sim_read (a0 : Int32) {c m : St} (h : Rel c m) : ∃ (r : Int32) (c1 : St) (m1 : St), fX10_read a0 c = some (r, c1) ∧ fX11_read a0 m = some (r, m1) ∧ Rel c1 m1 := by
  unfold fX10_read fX11_read
  rw [exists_sp, isSheet_sp, bd_e, bd_e, ite10, ite10]
  by_cases v0 : 0 ≤ a0.toInt ∧ a0.toInt ≤ 3
  · rw [if_pos v0, if_pos v0]
    obtain ⟨s, -, hs, rfl⟩ := i_rg (a := a0) (lo := 0) (hi := 3) v0.1 v0.2
    have hs4 : s < 4 := by omega
    rw [gI_n hs4 (by decide), cl_n (by omega)]
    rcases h.2.2.2.2.2 s hs4 with ⟨h1, h2⟩ | ⟨f, z, h1, h2, h3, h4, h5, h6, h7⟩
    · rw [lost_y hs4 h1, bd_e, if_neg ne10, h2, if_neg (show ¬ (0 : Int32) ≤ -1 by decide), found_e, met_e]
      exact ⟨_, _, _, rfl, rfl, h.find 1⟩
    · rw [lost_n hs4 (by omega) h5, bd_e, if_pos rfl, size_n hs4 (by omega) h5, bd_e, bI_eq, h4, if_pos (pos_n (by omega))]
      obtain ⟨r, c1, m1, e1, e2, e3⟩ := read_loop hs4 h2 fu 0 c m h h5 h6 h7 (by omega) (by omega) (by decide)
      have ez : (if nI z < (4 : Int32) then nI z else 4) = nI (if z < 4 then z else 4) := by
        by_cases hz : z < 4
        · rw [if_pos hz, if_pos (show nI z < (4 : Int32) from nI_lt (b := 4) hz (by decide))]
        · rw [if_neg hz, if_neg (show ¬ nI z < (4 : Int32) from nI_nlt (b := 4) (by omega) (by omega))]
          rfl
      rw [ez]
      exact ⟨r, c1, m1, e1, e2, e3⟩
  · rw [if_neg v0, if_neg v0]
    exact ⟨_, _, _, rfl, rfl, h⟩
