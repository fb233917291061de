/-! constructors: worlds as lists that grow -/
def va_AOA (ty : FieldType) (U : State) : Prop := (Cond.arrayOver (.array ty)).before #[] U = true
theorem va_AOA.of {ty : FieldType} {A : Array Value} {U : State} (h : (Cond.arrayOver (.array ty)).before A U = true) : va_AOA ty U := Jvm.Stand.arrayOver_alikeB (Vm.Alike.refl U.vm) h
theorem va_AOA.use {ty : FieldType} {A : Array Value} {U : State} (h : va_AOA ty U) : (Cond.arrayOver (.array ty)).before A U = true := Jvm.Stand.arrayOver_alikeB (Vm.Alike.refl U.vm) h
theorem va_AOA.moved {ty : FieldType} {u U : State} (hvm : u.vm.Alike U.vm) (h : va_AOA ty u) : va_AOA ty U := Jvm.Stand.arrayOver_alikeB hvm h
/-! ===== BEGIN new T[n][m]: the outer array a place, the inner ones among the pooled ===== -/
/-- f, but v at every address of l -/
def vr_up {α : Type} (f : Nat → α) (l : List Nat) (v : α) : Nat → α := fun a => if a ∈ l then v else f a
theorem vr_up_in {α : Type} {f : Nat → α} {l : List Nat} {v : α} {a : Nat} (h : a ∈ l) : vr_up f l v a = v := if_pos h
theorem vr_up_ne {α : Type} {f : Nat → α} {l : List Nat} {v : α} {a : Nat} (h : a ∉ l) : vr_up f l v a = f a := if_neg h
theorem vr_rows {L l : List Nat} {f : Nat → va_E} {e : va_E} (h : ∀ a, a ∈ l → a ∉ L) : va_pl L f ++ l.map (fun a => (a, e)) = va_pl (L ++ l) (vr_up f l e) := by
  unfold va_pl
  rw [List.map_append]
  congr 1
  · apply List.map_congr_left
    intro a ha
    rw [vr_up_ne (fun q => h a q ha)]
  · apply List.map_congr_left
    intro a ha
    rw [vr_up_in ha]
theorem vr_lay {X rows : va_W} {x : Nat × va_E} {pl : va_W} {D : va_G} {cl : List vw_C} {H : Heap} (hP : va_P D cl (((X ++ pl) ++ [x]) ++ rows) H) : va_P D cl ((X ++ [x]) ++ (pl ++ rows)) H := by
  rw [List.append_assoc (X ++ pl)] at hP
  have h := va_P.swap hP
  rw [← List.append_assoc X] at h
  have h2 := va_P.swap h
  rw [List.append_assoc (X ++ [x])] at h2
  exact h2
theorem vr_layD {X rows : va_W} {x : Nat × va_E} {pl : va_W} {A : Nat → Prop} (hD : va_D A (((X ++ pl) ++ [x]) ++ rows)) : va_D A ((X ++ [x]) ++ (pl ++ rows)) := by
  rw [List.append_assoc (X ++ pl)] at hD
  have h := va_D.swap hD
  rw [← List.append_assoc X] at h
  have h2 := va_D.swap h
  rw [List.append_assoc (X ++ [x])] at h2
  exact h2
theorem vr_outer (c : ClassId) (N h0 : Nat) : ∀ i : Nat, Jvm.Free.Multi.outerC c N h0 i = arrV c N (fun j => va_rf (if j < i then some (h0 + 1 + j) else none))
  | 0 => by
    show ({ cls := c, slots := Array.replicate N .null, vm := .none } : Cell) = _
    rw [arrV_new]
    refine congrArg (arrV c N) (funext fun j => ?_)
    simp [va_rf]
  | i + 1 => by
    show (Jvm.Free.Multi.outerC c N h0 i).setSlot i (.ref (h0 + 1 + i)) = _
    rw [vr_outer c N h0 i, arrV_store]
    refine congrArg (arrV c N) (funext fun j => ?_)
    by_cases e : j = i
    · subst e
      simp [updV, va_rf]
    · by_cases h : j < i
      · simp [updV, e, h, Nat.lt_succ_of_lt h]
      · simp [updV, e, h, show ¬ j < i + 1 by omega]
section VGM
variable {p : Program} {l : Launch} {e : Env} {R : Room} {s : State} {m : MethodId} {args : Array Value} {below : List Frame} {meth : Method} {c : Code} {H : Heap} {locs : List Loc} {cells slots : Nat} {Q : State → Prop}
variable {cc : ByteArray} {pc : Nat} {ls : Array Slot} {rest : List Value} {D : va_G} {cl : List vw_C} {A : Nat → Prop} {a : Nat} {tys : List (ClassId × FieldType)} {ws : va_W} {H0 : Heap}
theorem va_mna {X : va_W} {L : List Nat} {f : Nat → va_E} {cc : ByteArray} (hexec : p.tables.exec = Jvm.exec) (hb : c.code = cc) {own : String} {index : Nat} {ty : FieldType} {cy : ClassId} (hown : s.vm.findClass own = some m.cls) (hclink : (Cond.classLink own index ("[" ++ (FieldType.array ty).toString)).before args s = true) (hover : va_AOA ty s) (harr : (Cond.arrayClass ty).before args s = true) (hcy : s.vm.findClass (FieldType.array ty).toString = some cy)
    (hK : va_K D cl tys s) (hP : va_P D cl (X ++ va_pl L f) H) (hD : va_D A (X ++ va_pl L f)) (hS : va_S A H0 H locs) (hA : ∀ q, H0.size ≤ q → A q) {n k : Int32} {N' K' : Nat} {z : vp_A} (hn : ¬ n < 0) (hk : ¬ k < 0) (hN : n.toNatClampNeg = N') (hM : k.toNatClampNeg = K')
    (hb1 : N' * 4 ≤ 536870912) (hb2 : K' * componentBytes ty ≤ 536870912) (hb3 : K' ≤ 536870912) (hdf : fits ty (defaultValue ty) = true) (hdd : (defaultValue ty).isDefault = true) (hcells : cells + (1 + N') ≤ R.cells) (hslots : slots + (N' + N' * K') ≤ R.slots) (hz : ∀ c : ClassId, Jvm.Free.Multi.innerC c K' (defaultValue ty) = vp_cell c z) (hdg : decode cc pc = .ok (.multianewarray index 2, 4))
    (kk : ∀ (q : Nat) (r : Nat → Nat) (cA : ClassId) (H1 : Heap), (∀ i j : Nat, i < N' → j < N' → r i = r j → i = j) → (∀ i : Nat, i < N' → r i ∉ L) → va_K D cl (tys ++ [(cA, .array ty)]) s →
      va_P D cl ((X ++ [(q, .inl (cA, N', .inr (.inr (.inr (.inr (fun i => if i < N' then some (r i) else none))))))]) ++ va_pl (L ++ (List.range N').map r) (vr_up f ((List.range N').map r) (.inl (cy, z)))) H1 → va_D A ((X ++ [(q, .inl (cA, N', .inr (.inr (.inr (.inr (fun i => if i < N' then some (r i) else none))))))]) ++ va_pl (L ++ (List.range N').map r) (vr_up f ((List.range N').map r) (.inl (cy, z)))) → va_S A H0 H1 locs →
      W p l e R s m args below meth c H1 locs (cells + 1 + N') (slots + N' + N' * K') Q (F0 m (pc + 4) ls (.ref q :: rest))) : W p l e R s m args below meth c H locs cells slots Q (F0 m pc ls (.int k :: .int n :: rest)) := by
  subst hN
  subst hM
  intro T hT Xs
  obtain ⟨vm₁, cA, comp, -, fA, fC, hO, -, X', step⟩ := Xs.multianewarray2F hexec hown hclink (va_AOA.use hover) harr (g := F0 m pc ls (.int k :: .int n :: rest)) rfl (by rw [hb]; exact hdg) rfl hn hk hb1 hb2 hb3 hdf hdd hcells hslots
  have ec : some cy = some comp := hcy.symm.trans fC
  cases ec
  generalize hF : Jvm.Free.Multi.fill (T.setVm vm₁) cA cy n.toNatClampNeg k.toNatClampNeg (defaultValue ty) n.toNatClampNeg = F at X' step
  have hTh : (T.setVm vm₁).heap = H := hT
  obtain ⟨f1, f2, -, -⟩ := Jvm.Free.Multi.fill_facts (T.setVm vm₁) cA cy n.toNatClampNeg k.toNatClampNeg (defaultValue ty) n.toNatClampNeg
  rw [hF, hTh] at f1 f2
  have hold : ∀ x : Nat, x < H.size → F.heap[x]? = H[x]? := fun x hx => by
    have := Jvm.Free.Multi.fill_old (T.setVm vm₁) cA cy n.toNatClampNeg k.toNatClampNeg (defaultValue ty) (a := x) (by rw [hTh]; exact hx) n.toNatClampNeg
    rw [hF, hTh] at this
    exact this
  have hrow : ∀ j : Nat, j < n.toNatClampNeg → F.heap[H.size + 1 + j]? = some (vp_cell cy z) := fun j hj => by
    have := Jvm.Free.Multi.fill_inner (T.setVm vm₁) cA cy n.toNatClampNeg k.toNatClampNeg (defaultValue ty) n.toNatClampNeg j hj
    rw [hF, hTh, hz] at this
    exact this
  have hout : Jvm.Free.Multi.outerC cA n.toNatClampNeg H.size n.toNatClampNeg = vp_cell cA (n.toNatClampNeg, .inr (.inr (.inr (.inr (fun i => if i < n.toNatClampNeg then some (H.size + 1 + i) else none))))) := by
    rw [vp_cell_q]
    exact vr_outer cA n.toNatClampNeg H.size n.toNatClampNeg
  rw [hout] at f2
  have hlt : ∀ a, a ∈ L → a < H.size := fun a ha => by
    obtain ⟨k9, hk9⟩ := va_pl_get (X := X) (f := f) ha
    exact (hP k9 _ hk9).lt
  have hnl : ∀ i : Nat, i < n.toNatClampNeg → H.size + 1 + i ∉ L := fun i _ h => by
    have := hlt _ h
    omega
  have hnm : ∀ a, a ∈ (List.range n.toNatClampNeg).map (fun i => H.size + 1 + i) → a ∉ L := fun a ha h => by
    obtain ⟨i, -, rfl⟩ := List.mem_map.mp ha
    have := hlt _ h
    omega
  have hP0 : va_P D cl (X ++ va_pl L f) F.heap := hP.kept (fun k9 x hx => hold x.1 ((hP k9 x hx).lt))
  have hP1 : va_P D cl ((X ++ va_pl L f) ++ [(H.size, .inl (cA, n.toNatClampNeg, .inr (.inr (.inr (.inr (fun i => if i < n.toNatClampNeg then some (H.size + 1 + i) else none))))))]) F.heap := hP0.app (fun k9 x hx => by
    have h0 : k9 < 1 := (List.getElem?_eq_some_iff.mp hx).1
    rw [show k9 = 0 by omega] at hx
    cases hx
    exact f2)
  have hP2 : va_P D cl (((X ++ va_pl L f) ++ [(H.size, .inl (cA, n.toNatClampNeg, .inr (.inr (.inr (.inr (fun i => if i < n.toNatClampNeg then some (H.size + 1 + i) else none))))))]) ++ ((List.range n.toNatClampNeg).map (fun i => H.size + 1 + i)).map (fun a => (a, .inl (cy, z)))) F.heap := hP1.app (fun k9 x hx => by
    obtain ⟨a, ha, rfl⟩ := List.mem_map.mp (List.mem_of_getElem? hx)
    obtain ⟨i, hi, rfl⟩ := List.mem_map.mp ha
    exact hrow i (List.mem_range.mp hi))
  have hD2 : va_D A (((X ++ va_pl L f) ++ [(H.size, .inl (cA, n.toNatClampNeg, .inr (.inr (.inr (.inr (fun i => if i < n.toNatClampNeg then some (H.size + 1 + i) else none))))))]) ++ ((List.range n.toNatClampNeg).map (fun i => H.size + 1 + i)).map (fun a => (a, .inl (cy, z)))) := by
    have hD1 := hD.push (e := .inl (cA, n.toNatClampNeg, .inr (.inr (.inr (.inr (fun i => if i < n.toNatClampNeg then some (H.size + 1 + i) else none)))))) hP rfl (hA _ hS.1)
    generalize hW1 : (X ++ va_pl L f) ++ [(H.size, .inl (cA, n.toNatClampNeg, .inr (.inr (.inr (.inr (fun i => if i < n.toNatClampNeg then some (H.size + 1 + i) else none))))))] = W1 at hD1 hP1 ⊢
    have hle : ∀ (k9 : Nat) (x : Nat × va_E), W1[k9]? = some x → x.1 ≤ H.size := fun k9 x hx => by
      rw [← hW1] at hx
      by_cases hl : k9 < (X ++ va_pl L f).length
      · rw [List.getElem?_append_left hl] at hx
        exact Nat.le_of_lt ((hP k9 x hx).lt)
      · rw [List.getElem?_append_right (by omega)] at hx
        have h0 : k9 - (X ++ va_pl L f).length < 1 := (List.getElem?_eq_some_iff.mp hx).1
        rw [show k9 - (X ++ va_pl L f).length = 0 by omega] at hx
        cases hx
        exact Nat.le_refl _
    have hr : ∀ (k9 : Nat) (x : Nat × va_E), (((List.range n.toNatClampNeg).map (fun i => H.size + 1 + i)).map (fun a => ((a, .inl (cy, z)) : Nat × va_E)))[k9]? = some x → x.1 = H.size + 1 + k9 := fun k9 x hx => by
      rw [List.getElem?_map, List.getElem?_map] at hx
      by_cases h9 : k9 < n.toNatClampNeg
      · rw [List.getElem?_range h9] at hx
        cases hx
        rfl
      · have hn0 : (List.range n.toNatClampNeg)[k9]? = none := List.getElem?_eq_none (by rw [List.length_range]; omega)
        rw [hn0] at hx
        cases hx
    refine ⟨fun i j x y hi hj hxy => ?_, fun k9 x hx => ?_⟩
    · by_cases h1 : i < W1.length <;> by_cases h2 : j < W1.length
      · rw [List.getElem?_append_left h1] at hi
        rw [List.getElem?_append_left h2] at hj
        exact hD1.1 i j x y hi hj hxy
      · rw [List.getElem?_append_left h1] at hi
        rw [List.getElem?_append_right (by omega)] at hj
        have := hle _ _ hi
        have := hr _ _ hj
        omega
      · rw [List.getElem?_append_right (by omega)] at hi
        rw [List.getElem?_append_left h2] at hj
        have := hle _ _ hj
        have := hr _ _ hi
        omega
      · rw [List.getElem?_append_right (by omega)] at hi hj
        have := hr _ _ hi
        have := hr _ _ hj
        omega
    · by_cases h1 : k9 < W1.length
      · rw [List.getElem?_append_left h1] at hx
        exact hD1.2 k9 x hx
      · rw [List.getElem?_append_right (by omega)] at hx
        have := hr _ _ hx
        exact hA _ (by have := hS.1; omega)
  have hAr : ArrOfT s cA (.array ty) := fun N9 z9 => by
    obtain ⟨-, k9, hk9, cm9, hkk9⟩ := (hO 0 0 0).1
    exact ⟨(fun q hq => by cases hq), k9, hk9, cm9, hkk9⟩
  have hK2 : va_K D cl (tys ++ [(cA, .array ty)]) s := ⟨hK.1, fun k9 x hx => by
    by_cases hl : k9 < tys.length
    · rw [List.getElem?_append_left hl] at hx
      exact hK.2 k9 x hx
    · rw [List.getElem?_append_right (by omega)] at hx
      have h0 : k9 - tys.length < 1 := (List.getElem?_eq_some_iff.mp hx).1
      rw [show k9 - tys.length = 0 by omega] at hx
      cases hx
      exact ⟨hAr, fA⟩⟩
  obtain ⟨t, a1, b1⟩ := kk H.size (fun i => H.size + 1 + i) cA F.heap (fun i j _ _ h => by have h9 : H.size + 1 + i = H.size + 1 + j := h; omega) hnl hK2 (by rw [← vr_rows hnm]; exact vr_lay hP2) (by rw [← vr_rows hnm]; exact vr_layD hD2) ⟨by rw [f1]; have := hS.1; omega, fun x h1 h2 => (hold x (Nat.lt_of_lt_of_le h1 hS.1)).trans (hS.2.1 x h1 h2), hS.2.2⟩ F rfl X'
  refine ⟨t, step t ?_, b1⟩
  have e : T.heap.size = H.size := by rw [hT]
  rw [e]
  exact a1
end VGM
/-! ===== END ===== -/
abbrev tyK (cI cZ cO : ClassId) : List (ClassId × FieldType) := [(cI, .int), (cZ, .boolean), (cO, .array .int)]
/-- what a constructor's code stands on -/
def OkK (D : va_G) (A : Nat → Prop) (X : XT) (cc : ByteArray) (nL : Nat) (own : String) (rm : Room) (cI cZ cO : ClassId) (F : (Nat → Nat) → va_W) (mc ms : Nat) : Prop :=
  X.1.tables.exec = Jvm.exec ∧ X.2.2.2.2.2.2.2.2.2.1.code = cc ∧ X.2.2.2.2.2.2.2.2.2.1.maxLocals = nL ∧ X.2.2.2.2.1.vm.findClass own = some X.2.2.2.2.2.1.cls ∧ (∀ w ∈ wsL_law, w.before X.2.2.2.2.2.2.1 X.2.2.2.2.1 = true) ∧ va_K D vwCl (tyK cI cZ cO) X.2.2.2.2.1 ∧ X.2.2.2.2.2.2.2.2.1.sig.returnType = none ∧ X.2.2.2.2.2.2.2.2.1.locks = false ∧ X.2.2.2.2.2.2.2.2.1.name = "<init>" ∧ X.2.2.2.1 = rm ∧ (∀ q, X.2.2.2.2.1.heap.size ≤ q → A q) ∧ X.2.2.2.2.2.2.2.2.2.2 = MQ X.2.2.2.2.2.2.2.1 (va_Qv (fun _ : Nat → Nat => True) (fun a t => va_P D vwCl (F a) t.heap ∧ va_D A (F a)) A) X.2.2.2.2.2.2.1 X.2.2.2.2.1 mc ms A
def AtK (D : va_G) (A : Nat → Prop) (X : XT) (nL pc : Nat) (lv : List (Nat × Value)) (st : List Value) (ws : va_W) (cells slots : Nat) : Prop :=
  ∀ (H : Heap) (locs : List Loc) (ls : Array Slot), va_P D vwCl ws H → va_D A ws → va_S A X.2.2.2.2.1.heap H locs → lv_has ls nL lv →
    W X.1 X.2.1 X.2.2.1 X.2.2.2.1 X.2.2.2.2.1 X.2.2.2.2.2.1 X.2.2.2.2.2.2.1 X.2.2.2.2.2.2.2.1 X.2.2.2.2.2.2.2.2.1 X.2.2.2.2.2.2.2.2.2.1 H locs cells slots X.2.2.2.2.2.2.2.2.2.2 (F0 X.2.2.2.2.2.1 pc ls st)
section KL
variable {D : va_G} {A : Nat → Prop} {X : XT} {cc : ByteArray} {nL pc pc' : Nat} {own : String} {rm : Room} {cI cZ cO : ClassId} {F : (Nat → Nat) → va_W} {mc ms cells slots cells' slots' : Nat} {lv : List (Nat × Value)} {st : List Value} {ws ws' : va_W}
theorem k_iconst (O : OkK D A X cc nL own rm cI cZ cO F mc ms) {n : Int} {v : Int32} (d : decode cc pc = .ok (.iconst n, 1)) (hv : Int32.ofInt n = v) (hp : pc + 1 = pc') (k : AtK D A X nL pc' lv (.int v :: st) ws cells slots) : AtK D A X nL pc lv st ws cells slots := by
  subst hp
  exact fun H locs ls hP hD hS hl => lv_iconst O.1 O.2.1 d hv (k H locs ls hP hD hS hl)
theorem k_bipush (O : OkK D A X cc nL own rm cI cZ cO F mc ms) {n : Int} {v : Int32} (d : decode cc pc = .ok (.bipush n, 2)) (hv : (Int8.ofInt n).toInt32 = v) (hp : pc + 2 = pc') (k : AtK D A X nL pc' lv (.int v :: st) ws cells slots) : AtK D A X nL pc lv st ws cells slots := by
  subst hp
  exact fun H locs ls hP hD hS hl => lv_bipush O.1 O.2.1 d hv (k H locs ls hP hD hS hl)
theorem k_sipush (O : OkK D A X cc nL own rm cI cZ cO F mc ms) {n : Int} {v : Int32} (d : decode cc pc = .ok (.sipush n, 3)) (hv : (Int16.ofInt n).toInt32 = v) (hp : pc + 3 = pc') (k : AtK D A X nL pc' lv (.int v :: st) ws cells slots) : AtK D A X nL pc lv st ws cells slots := by
  subst hp
  exact fun H locs ls hP hD hS hl => lv_sipush O.1 O.2.1 d hv (k H locs ls hP hD hS hl)
theorem k_lconst (O : OkK D A X cc nL own rm cI cZ cO F mc ms) {n : Fin 2} {v : Int64} (d : decode cc pc = .ok (.lconst n, 1)) (hv : Int64.ofNat (n : Nat) = v) (hp : pc + 1 = pc') (k : AtK D A X nL pc' lv (.long v :: st) ws cells slots) : AtK D A X nL pc lv st ws cells slots := by
  subst hp
  exact fun H locs ls hP hD hS hl => lv_lconst O.1 O.2.1 d hv (k H locs ls hP hD hS hl)
theorem k_aload (O : OkK D A X cc nL own rm cI cZ cO F mc ms) {k0 : Fin 4} {i x : Nat} (d : decode cc pc = .ok (.aload_n k0, 1)) (hi : (k0 : Nat) = i) (q : Nat) (hq : lv[q]? = some (i, .ref x)) (hp : pc + 1 = pc') (k : AtK D A X nL pc' lv (.ref x :: st) ws cells slots) : AtK D A X nL pc lv st ws cells slots := by
  subst hp
  exact fun H locs ls hP hD hS hl => lv_aload_n O.1 O.2.1 d hi (lv_at hl q hq) (k H locs ls hP hD hS hl)
theorem k_iload (O : OkK D A X cc nL own rm cI cZ cO F mc ms) {k0 : Fin 4} {i : Nat} {x : Int32} (d : decode cc pc = .ok (.iload_n k0, 1)) (hi : (k0 : Nat) = i) (q : Nat) (hq : lv[q]? = some (i, .int x)) (hp : pc + 1 = pc') (k : AtK D A X nL pc' lv (.int x :: st) ws cells slots) : AtK D A X nL pc lv st ws cells slots := by
  subst hp
  exact fun H locs ls hP hD hS hl => lv_iload_n O.1 O.2.1 d hi (lv_at hl q hq) (k H locs ls hP hD hS hl)
theorem k_dup (O : OkK D A X cc nL own rm cI cZ cO F mc ms) {va : Value} (d : decode cc pc = .ok (.dup, 1)) (hva : va.category = 1) (hp : pc + 1 = pc') (k : AtK D A X nL pc' lv (va :: va :: st) ws cells slots) : AtK D A X nL pc lv (va :: st) ws cells slots := by
  subst hp
  exact fun H locs ls hP hD hS hl => lv_dup O.1 O.2.1 d hva (k H locs ls hP hD hS hl)
theorem k_topv {x y : Int32} (h : x = y) (k : AtK D A X nL pc lv (.int y :: st) ws cells slots) : AtK D A X nL pc lv (.int x :: st) ws cells slots := h ▸ k
theorem k_ws (h : ws = ws') (k : AtK D A X nL pc lv st ws' cells slots) : AtK D A X nL pc lv st ws cells slots := h ▸ k
theorem k_istore (O : OkK D A X cc nL own rm cI cZ cO F mc ms) {k0 : Fin 4} {i : Nat} {x : Int32} {lv' : List (Nat × Value)} (d : decode cc pc = .ok (.istore_n k0, 1)) (hi : (k0 : Nat) = i) (hn : i < nL) (hl : (i, Value.int x) :: lv.filter (fun q => !(q.1 == i) && !(q.1 + 1 == i && q.2.category == 2)) = lv') (hp : pc + 1 = pc') (k : AtK D A X nL pc' lv' st ws cells slots) : AtK D A X nL pc lv (.int x :: st) ws cells slots := by
  subst hp
  exact fun H locs ls hP hD hS h => lv_istore_n O.1 O.2.1 d hi h hn hl (fun ls h => k H locs ls hP hD hS h)
theorem k_iinc (O : OkK D A X cc nL own rm cI cZ cO F mc ms) {i : Nat} {n : Int} {x v : Int32} {lv' : List (Nat × Value)} (d : decode cc pc = .ok (.iinc i n, 3)) (q : Nat) (hq : lv[q]? = some (i, .int x)) (hv : x + Int32.ofInt n = v) (hn : i < nL) (hl : (i, Value.int v) :: lv.filter (fun q => !(q.1 == i) && !(q.1 + 1 == i && q.2.category == 2)) = lv') (hp : pc + 3 = pc') (k : AtK D A X nL pc' lv' st ws cells slots) : AtK D A X nL pc lv st ws cells slots := by
  subst hp
  exact fun H locs ls hP hD hS h => lv_iinc O.1 O.2.1 d h hq hv hn hl (fun ls h => k H locs ls hP hD hS h)
theorem k_goto (O : OkK D A X cc nL own rm cI cZ cO F mc ms) {off : Int} {tgt : Nat} (d : decode cc pc = .ok (.goto off, 3)) (ht : (pc : Int) + off = (tgt : Int)) (k : AtK D A X nL tgt lv st ws cells slots) : AtK D A X nL pc lv st ws cells slots := fun H locs ls hP hD hS hl => lv_goto O.1 O.2.1 d ht (k H locs ls hP hD hS hl)
theorem k_icmp_ge (O : OkK D A X cc nL own rm cI cZ cO F mc ms) {x y : Int32} {off : Int} {tgt : Nat} (d : decode cc pc = .ok (.if_icmp .ge off, 3)) (ht : (pc : Int) + off = (tgt : Int)) (hA : y ≤ x → AtK D A X nL tgt lv st ws cells slots) (hB : ¬ y ≤ x → AtK D A X nL (pc + 3) lv st ws cells slots) : AtK D A X nL pc lv (.int y :: .int x :: st) ws cells slots := fun H locs ls hP hD hS hl => lv_icmp_ge O.1 O.2.1 d ht (fun c => hA c H locs ls hP hD hS hl) (fun c => hB c H locs ls hP hD hS hl)
theorem k_obj (O : OkK D A X cc nL own rm cI cZ cO F mc ms) {index x : Nat} (w1 : Cond.methodLink own index objectInit ∈ wsL_law) (w2 : Cond.instanceMethod objectInit ∈ wsL_law) (w3 : Cond.code objectInit ⟨#[0xb1]⟩ 1 none ∈ wsL_law) (hfr : 1 ≤ rm.frames) (hlo : 12 ≤ rm.locals) (d : decode cc pc = .ok (.invokespecial index, 3)) (hp : pc + 3 = pc') (k : AtK D A X nL pc' lv [] ws cells slots) : AtK D A X nL pc lv [.ref x] ws cells slots := by
  subst hp
  obtain ⟨hx, hb, hml, hown, hts, hK, hr, hlk, hin, hR, hA, hQ⟩ := O
  exact fun H locs ls hP hD hS hl => W.objInit hx hb hown (hts _ w1) (hts _ w2) (hts _ w3) rfl (by rw [hml]; exact hl.1) rfl d (by rw [hR]; exact hfr) (by rw [hR]; exact hlo) (k H locs ls hP hD hS hl)
theorem k_new (O : OkK D A X cc nL own rm cI cZ cO F mc ms) {C : String} {T : u_T} {N ci index : Nat} (ty : Nat → FieldType) (hty : ∀ k, k < N → parseFieldDescriptor (T k).2.2.1 = some (ty k)) (hin0 : ∀ w ∈ u_ws C T N, w ∈ wsL_law) (w1 : Cond.classLink own index C ∈ wsL_law) (w2 : Cond.instantiable C N ∈ wsL_law) (w3 : Cond.initialized C ∈ wsL_law) (hc : vwCl[ci]? = some (C, T, N)) {fs : List Value} (hfs : ∀ j, j < N → defaultValue (ty j) = vp_V fs j) (hcells : cells + 1 = cells') (hslots : slots + N = slots') (hc1 : cells' ≤ rm.cells) (hs1 : slots' ≤ rm.slots) (d : decode cc pc = .ok (.new index, 3)) (hp : pc + 3 = pc') (k : ∀ q, AtK D A X nL pc' lv (.ref q :: st) (ws ++ [(q, .inr (ci, fs))]) cells' slots') : AtK D A X nL pc lv st ws cells slots := by
  subst hp
  subst hcells
  subst hslots
  obtain ⟨hx, hb, hml, hown, hts, hK, hr, hlk, hin, hR, hA, hQ⟩ := O
  exact fun H locs ls hP hD hS hl => va_new hx hb hts hin0 ty hty hown (hts _ w1) (hts _ w2) (hts _ w3) hK hP hD hS hA hc hfs (by rw [hR]; exact hc1) (by rw [hR]; exact hs1) d (fun q H1 hP1 hD1 hS1 => k q H1 locs ls hP1 hD1 hS1 hl)
theorem k_newi (O : OkK D A X cc nL own rm cI cZ cO F mc ms) {n : Int32} {N' : Nat} (w1 : Cond.arrayClass .int ∈ wsL_law) (hn : ¬ n < 0) (hN : n.toNatClampNeg = N') (hb0 : N' ≤ 100000) (hcells : cells + 1 = cells') (hslots : slots + N' = slots') (hc1 : cells' ≤ rm.cells) (hs1 : slots' ≤ rm.slots) (d : decode cc pc = .ok (.newarray .int, 2)) (hp : pc + 2 = pc') (k : ∀ q, AtK D A X nL pc' lv (.ref q :: st) (ws ++ [(q, .inl (cI, N', .inl (fun _ => 0)))]) cells' slots') : AtK D A X nL pc lv (.int n :: st) ws cells slots := by
  subst hp
  subst hcells
  subst hslots
  obtain ⟨hx, hb, hml, hown, hts, hK, hr, hlk, hin, hR, hA, hQ⟩ := O
  intro H locs ls hP hD hS hl
  refine va_newa (atype := .int) (ty := .int) (a0 := (N', .inl (fun _ => 0))) hx hb (hts _ w1) rfl hK hP hD hS hA (fun cA => ?_) hn hN ?_ (by rw [hR]; exact hc1) (by rw [hR]; exact hs1) d (fun q cA H1 hK1 hP1 hD1 hS1 => ?_)
  · rw [vp_cell_i]; rfl
  · show N' * 4 ≤ 536870912
    omega
  · have e : cA = cI := Option.some.inj ((show X.2.2.2.2.1.vm.findClass _ = some cA from (hK1.2 3 _ rfl).2).symm.trans (hK.2 0 _ rfl).2)
    subst e
    exact k q H1 locs ls hP1 hD1 hS1 hl
theorem k_newz (O : OkK D A X cc nL own rm cI cZ cO F mc ms) {n : Int32} {N' : Nat} (w1 : Cond.arrayClass .boolean ∈ wsL_law) (hn : ¬ n < 0) (hN : n.toNatClampNeg = N') (hb0 : N' ≤ 100000) (hcells : cells + 1 = cells') (hslots : slots + N' = slots') (hc1 : cells' ≤ rm.cells) (hs1 : slots' ≤ rm.slots) (d : decode cc pc = .ok (.newarray .boolean, 2)) (hp : pc + 2 = pc') (k : ∀ q, AtK D A X nL pc' lv (.ref q :: st) (ws ++ [(q, .inl (cZ, N', .inl (fun _ => 0)))]) cells' slots') : AtK D A X nL pc lv (.int n :: st) ws cells slots := by
  subst hp
  subst hcells
  subst hslots
  obtain ⟨hx, hb, hml, hown, hts, hK, hr, hlk, hin, hR, hA, hQ⟩ := O
  intro H locs ls hP hD hS hl
  refine va_newa (atype := .boolean) (ty := .boolean) (a0 := (N', .inl (fun _ => 0))) hx hb (hts _ w1) rfl hK hP hD hS hA (fun cA => ?_) hn hN ?_ (by rw [hR]; exact hc1) (by rw [hR]; exact hs1) d (fun q cA H1 hK1 hP1 hD1 hS1 => ?_)
  · rw [vp_cell_i]; rfl
  · show N' * 1 ≤ 536870912
    omega
  · have e : cA = cZ := Option.some.inj ((show X.2.2.2.2.1.vm.findClass _ = some cA from (hK1.2 3 _ rfl).2).symm.trans (hK.2 1 _ rfl).2)
    subst e
    exact k q H1 locs ls hP1 hD1 hS1 hl
theorem k_mna (O : OkK D A X cc nL own rm cI cZ cO F mc ms) {index : Nat} (hao : va_AOA .int X.2.2.2.2.1) (w0 : Cond.classLink own index "[[I" ∈ wsL_law) (w1 : Cond.arrayClass .int ∈ wsL_law) {n m : Int32} {N' K' : Nat} (hn : ¬ n < 0) (hk : ¬ m < 0) (hN : n.toNatClampNeg = N') (hM : m.toNatClampNeg = K') (hb1 : N' ≤ 1000) (hb2 : K' ≤ 1000) (hcells : cells + 1 + N' = cells') (hslots : slots + N' + N' * K' = slots') (hc1 : cells' ≤ rm.cells) (hs1 : slots' ≤ rm.slots) (d : decode cc pc = .ok (.multianewarray index 2, 4)) (hp : pc + 4 = pc')
    (k : ∀ (q : Nat) (r : Nat → Nat), AtK D A X nL pc' lv (.ref q :: st) (ws ++ (q, .inl (cO, N', .inr (.inr (.inr (.inr (fun i => if i < N' then some (r i) else none)))))) :: (List.range N').map (fun i => (r i, .inl (cI, K', .inl (fun _ => 0))))) cells' slots') : AtK D A X nL pc lv (.int m :: .int n :: st) ws cells slots := by
  subst hp
  subst hcells
  subst hslots
  obtain ⟨hx, hb, hml, hown, hts, hK, hr, hlk, hin, hR, hA, hQ⟩ := O
  intro H locs ls hP hD hS hl
  have h0 : ws ++ va_pl [] (fun _ => (.inr (0, []) : va_E)) = ws := by show ws ++ [] = ws; exact List.append_nil ws
  refine va_mna (X := ws) (L := []) (f := fun _ => .inr (0, [])) (ty := .int) (cy := cI) (z := (K', .inl (fun _ => 0))) hx hb hown (hts _ w0) hao (hts _ w1) (hK.2 0 _ rfl).2 hK (by rw [h0]; exact hP) (by rw [h0]; exact hD) hS hA hn hk hN hM (by omega) (by show K' * 4 ≤ 536870912; omega) (by omega) rfl rfl (by rw [hR]; omega) (by rw [hR]; omega) (fun c => ?_) d (fun q r cA H1 hr1 hr2 hK1 hP1 hD1 hS1 => ?_)
  · rw [vp_cell_i]
    show ({ cls := c, slots := Array.replicate K' _, vm := .none } : Cell) = _
    rw [arrV_new]
    rfl
  · have e : cA = cO := Option.some.inj ((show X.2.2.2.2.1.vm.findClass _ = some cA from (hK1.2 3 _ rfl).2).symm.trans (hK.2 2 _ rfl).2)
    subst e
    have hw : (ws ++ [(q, (.inl (cA, N', .inr (.inr (.inr (.inr (fun i => if i < N' then some (r i) else none))))) : va_E))]) ++ va_pl ([] ++ (List.range N').map r) (vr_up (fun _ => (.inr (0, []) : va_E)) ((List.range N').map r) (.inl (cI, K', .inl (fun _ => 0)))) = ws ++ (q, .inl (cA, N', .inr (.inr (.inr (.inr (fun i => if i < N' then some (r i) else none)))))) :: (List.range N').map (fun i => (r i, .inl (cI, K', .inl (fun _ => 0)))) := by
      rw [List.append_assoc, List.singleton_append, List.nil_append]
      congr 2
      unfold va_pl
      rw [List.map_map]
      apply List.map_congr_left
      intro i hi
      show (r i, vr_up _ _ _ (r i)) = _
      rw [vr_up_in (List.mem_map.mpr ⟨i, hi, rfl⟩)]
    rw [hw] at hP1 hD1
    exact k q r H1 locs ls hP1 hD1 hS1 hl
theorem k_putF (O : OkK D A X cc nL own rm cI cZ cO F mc ms) {T : u_T} {N ci index a : Nat} (ty0 : Nat → FieldType) (hty : ∀ k, k < N → parseFieldDescriptor (T k).2.2.1 = some (ty0 k)) (hnm : ∀ a, a < N → ∀ b, b < N → a ≠ b → (T a).2.1 ≠ (T b).2.1) (q0 : Nat) {fs : List Value} (he : ws[q0]? = some (a, .inr (ci, fs))) (hc : vwCl[ci]? = some (own, T, N)) (hin0 : ∀ w ∈ u_ws own T N, w ∈ wsL_law) (k0 : Nat) (hk : k0 < N) (hw : Cond.fieldLink own index (T k0).1 (T k0).2.1 (T k0).2.2.1 ∈ wsL_law) (hfin : (T k0).2.2.2 = true) (hdecl : (T k0).1 = own) {ty : FieldType} {v : Value} (hd : parseFieldDescriptor (T k0).2.2.1 = some ty) (hn : narrow ty v = v) (hfit : fits ty v = true) (hl0 : k0 < fs.length) (hs : ws.set q0 (a, .inr (ci, fs.set k0 v)) = ws') (d : decode cc pc = .ok (.putfield index, 3)) (hp : pc + 3 = pc') (k : AtK D A X nL pc' lv st ws' cells slots) : AtK D A X nL pc lv (v :: .ref a :: st) ws cells slots := by
  subst hp
  subst hs
  obtain ⟨hx, hb, hml, hown, hts, hK, hr, hlk, hin, hR, hA, hQ⟩ := O
  exact fun H locs ls hP hD hS hl => va_putF hx hb hts hin0 ty0 hty hnm hown hK hP hD hS q0 he hc k0 hk (hts _ hw) (fun _ h => h) hfin hin hdecl hd hn hfit hl0 d (fun H1 locs1 hP1 hD1 hS1 => k H1 locs1 ls hP1 hD1 hS1 hl)
theorem k_put (O : OkK D A X cc nL own rm cI cZ cO F mc ms) {T : u_T} {N ci index a : Nat} (ty0 : Nat → FieldType) (hty : ∀ k, k < N → parseFieldDescriptor (T k).2.2.1 = some (ty0 k)) (hnm : ∀ a, a < N → ∀ b, b < N → a ≠ b → (T a).2.1 ≠ (T b).2.1) (q0 : Nat) {fs : List Value} (he : ws[q0]? = some (a, .inr (ci, fs))) (hc : vwCl[ci]? = some (own, T, N)) (hin0 : ∀ w ∈ u_ws own T N, w ∈ wsL_law) (k0 : Nat) (hk : k0 < N) (hw : Cond.fieldLink own index (T k0).1 (T k0).2.1 (T k0).2.2.1 ∈ wsL_law) (hfin : (T k0).2.2.2 = false) {ty : FieldType} {v : Value} (hd : parseFieldDescriptor (T k0).2.2.1 = some ty) (hn : narrow ty v = v) (hfit : fits ty v = true) (hl0 : k0 < fs.length) (hs : ws.set q0 (a, .inr (ci, fs.set k0 v)) = ws') (d : decode cc pc = .ok (.putfield index, 3)) (hp : pc + 3 = pc') (k : AtK D A X nL pc' lv st ws' cells slots) : AtK D A X nL pc lv (v :: .ref a :: st) ws cells slots := by
  subst hp
  subst hs
  obtain ⟨hx, hb, hml, hown, hts, hK, hr, hlk, hin, hR, hA, hQ⟩ := O
  exact fun H locs ls hP hD hS hl => va_put hx hb hts hin0 ty0 hty hnm hown hK hP hD hS q0 he hc k0 hk (hts _ hw) (fun _ h => h) hfin hd hn hfit hl0 d (fun H1 locs1 hP1 hD1 hS1 => k H1 locs1 ls hP1 hD1 hS1 hl)
theorem k_get (O : OkK D A X cc nL own rm cI cZ cO F mc ms) {T : u_T} {N ci index a : Nat} (q0 : Nat) {fs : List Value} (he : ws[q0]? = some (a, .inr (ci, fs))) (hc : vwCl[ci]? = some (own, T, N)) (hin0 : ∀ w ∈ u_ws own T N, w ∈ wsL_law) (k0 : Nat) (hk : k0 < N) (hw : Cond.fieldLink own index (T k0).1 (T k0).2.1 (T k0).2.2.1 ∈ wsL_law) {v : Value} (hv : fs[k0]? = some v) (d : decode cc pc = .ok (.getfield index, 3)) (hp : pc + 3 = pc') (k : AtK D A X nL pc' lv (v :: st) ws cells slots) : AtK D A X nL pc lv (.ref a :: st) ws cells slots := by
  subst hp
  obtain ⟨hx, hb, hml, hown, hts, hK, hr, hlk, hin, hR, hA, hQ⟩ := O
  exact fun H locs ls hP hD hS hl => va_get hx hb hts hin0 hown hK hP q0 he hc k0 hk (hts _ hw) (fun _ h => h) hv d (k H locs ls hP hD hS hl)
theorem k_iast (O : OkK D A X cc nL own rm cI cZ cO F mc ms) {a : Nat} (q0 : Nat) {n : Nat} {f : Nat → Int32} (ha : ws[q0]? = some (a, .inl (cI, n, .inl f))) {i x : Int32} (hi : vp_in i n) (hs : ws.set q0 (a, .inl (cI, n, .inl (upd f i.toNatClampNeg x))) = ws') (d : decode cc pc = .ok (.iastore, 1)) (hp : pc + 1 = pc') (k : AtK D A X nL pc' lv st ws' cells slots) : AtK D A X nL pc lv (.int x :: .int i :: .ref a :: st) ws cells slots := by
  subst hp
  subst hs
  obtain ⟨hx, hb, hml, hown, hts, hK, hr, hlk, hin, hR, hA, hQ⟩ := O
  exact fun H locs ls hP hD hS hl => va_iast hx hb hK hP hD hS q0 0 ha rfl hi d (fun H1 locs1 hP1 hD1 hS1 => k H1 locs1 ls hP1 hD1 hS1 hl)
theorem k_mmax (O : OkK D A X cc nL own rm cI cZ cO F mc ms) {index : Nat} (w1 : Cond.methodLink own index Lib.Math.max.name ∈ wsL_law) (w2 : Cond.static Lib.Math.max.name ∈ wsL_law) (w3 : Cond.initialized "java/lang/Math" ∈ wsL_law) (w4 : Cond.code Lib.Math.max.name Lib.Math.max.code 2 (some .int) ∈ wsL_law) (hfr : 1 ≤ rm.frames) (hlo : 21 ≤ rm.locals) (hst : (st.map fun v => v.category).sum ≤ 8) (hc1 : cells ≤ rm.cells) (hs1 : slots ≤ rm.slots) {x y : Int32} (d : decode cc pc = .ok (.invokestatic index, 3)) (hp : pc + 3 = pc') (k : AtK D A X nL pc' lv (.int (if x < y then y else x) :: st) ws cells slots) : AtK D A X nL pc lv (.int y :: .int x :: st) ws cells slots := by
  subst hp
  obtain ⟨hx, hb, hml, hown, hts, hK, hr, hlk, hin, hR, hA, hQ⟩ := O
  exact fun H locs ls hP hD hS hl => va_mmax hx hb (hml.trans hl.1.symm) hown (hts _ w1) (hts _ w2) (hts _ w3) (hts _ w4) (by rw [hR]; exact hfr) (by rw [hR]; omega) (by rw [hR]; exact hc1) (by rw [hR]; exact hs1) d (k H locs ls hP hD hS hl)
theorem k_ret (O : OkK D A X cc nL own rm cI cZ cO F mc ms) (a : Nat → Nat) (hw : ws = F a) (d : decode cc pc = .ok (.return_, 1)) : AtK D A X nL pc lv [] ws mc ms := by
  subst hw
  obtain ⟨hx, hb, hml, hown, hts, hK, hr, hlk, hin, hR, hA, hQ⟩ := O
  intro H locs ls hP hD hS hl
  rw [hQ]
  exact W.vret hx hb hr (fun t ht hW => ⟨⟨a, rfl, trivial, by rw [ht]; exact hP, hD⟩, hS.F ht⟩) hS.2.2 d hlk
end KL
/-- a constructor's contract: the object h, as it was made, and the tables; behind it the world F at some addresses -/
def CtK (y : MethodName) (cc : ByteArray) (ml : Nat) (rm : Room) (D : va_G) (cI cZ cO : ClassId) (ex : State → Prop) (av : List Value) (h : Nat) (e0 : va_E) (F : (Nat → Nat) → va_W) (mc ms : Nat) : Prop :=
  ∀ (l : Launch) (sz : Nat), Met l y (.code y cc ml none :: wsL_law) rm (va_Pc (.ref h :: av) (fun U => U.heap.size = sz ∧ va_P D vwCl [(h, e0)] U.heap ∧ va_K D vwCl (tyK cI cZ cO) U ∧ ex U)) (va_Qv (fun _ : Nat → Nat => True) (fun a t => va_P D vwCl (F a) t.heap ∧ va_D (va_A [(h, e0)] sz) (F a)) (va_A [(h, e0)] sz)) mc ms (va_A [(h, e0)] sz)
theorem CtK.of {y : MethodName} {cc : ByteArray} {ml : Nat} {rm : Room} {D : va_G} {cI cZ cO : ClassId} {ex : State → Prop} {av : List Value} {h : Nat} {e0 : va_E} {F : (Nat → Nat) → va_W} {mc ms : Nat} (hy : plainName y.cls = true) (hyn : y.name = "<init>") (hle : (lg_sl (.ref h :: av)).length ≤ ml) (body : ∀ (A : Nat → Prop) (X : XT), OkK D A X cc ml y.cls rm cI cZ cO F mc ms → ex X.2.2.2.2.1 → AtK D A X ml 0 (lv_args 0 (.ref h :: av)) [] [(h, e0)] 0 0) : CtK y cc ml rm D cI cZ cO ex av h e0 F mc ms := by
  intro l sz
  refine Met.ofW (cc := cc) (maxL := ml) (ret := none) hy rfl ?_
  intro p e s m args below meth c s₁ B hml hv
  obtain ⟨rfl, hsz, hP, hK, hex⟩ := hv
  subst hsz
  have hts := atoms_spec (ws := .code y cc ml none :: wsL_law) B.pre
  have hown : s.vm.findClass y.cls = some m.cls := findClass_of_methodNamed B.named
  have hin : meth.name = "<init>" := (name_of_methodNamed B.named B.method).1.trans hyn
  have hl := lv_entry (.ref h :: av) (n := ml) hle
  rw [lg_entry_eq]
  have hD : va_D (va_A [(h, e0)] s.heap.size) [(h, e0)] := ⟨fun i j p q hi hj _ => by
    have h1 : i < 1 := (List.getElem?_eq_some_iff.mp hi).1
    have h2 : j < 1 := (List.getElem?_eq_some_iff.mp hj).1
    omega, fun k q hk => va_A.in hk⟩
  exact body (va_A [(h, e0)] s.heap.size) (p, l, e, rm, s, m, (.ref h :: av).toArray, below, meth, c, MQ below (va_Qv (fun _ : Nat → Nat => True) (fun a t => va_P D vwCl (F a) t.heap ∧ va_D (va_A [(h, e0)] s.heap.size) (F a)) (va_A [(h, e0)] s.heap.size)) (.ref h :: av).toArray s mc ms (va_A [(h, e0)] s.heap.size)) ⟨B.exec, B.bytes, hml, hown, fun w hw => hts w (List.mem_cons_of_mem _ hw), hK, B.returns, B.notSynchronized, hin, rfl, fun q hq => Or.inr hq, rfl⟩ hex s.heap [] _ hP hD va_S.rf hl
section KC
variable {D : va_G} {A : Nat → Prop} {X : XT} {cc : ByteArray} {nL pc pc' : Nat} {own : String} {rm : Room} {cI cZ cO : ClassId} {F : (Nat → Nat) → va_W} {mc ms cells slots cells' slots' : Nat} {lv : List (Nat × Value)} {st : List Value} {ws : va_W}
/-- a constructor's call, the object being the last cell -/
theorem k_call (O : OkK D A X cc nL own rm cI cZ cO F mc ms) {y : MethodName} {cy : ByteArray} {ml n index b m1 s1 : Nat} {rmc : Room} {ex : State → Prop} {As : List Value} {e0 : va_E} {F1 : (Nat → Nat) → va_W} {rest : va_W} {stk : List Value} (hC : CtK y cy ml rmc D cI cZ cO ex As b e0 F1 m1 s1) (hex0 : ∀ (a : Array Value) (U : State) (g : JFrame) (mk : MethodId), ex U → ex (U.calling g mk a)) (hex : ∀ U : State, X.2.2.2.2.1.WarmedH U.vm → ex U) (isR : List Nat) (hws : ws = rest ++ [(b, e0)]) (nR : Nat) (hnR : ([nR].map (fun i => ws[i]?)) = [(b, e0)].map some) (hR0 : isR.map (fun i => ws[i]?) = rest.map some) (hnd : va_nd isR = true) (hdis : ∀ i ∈ isR, i ∉ [nR])
    (hrun : ∀ (H : Heap) (locs : List Loc) (ls : Array Slot), va_P D vwCl ws H → lv_has ls nL lv → PreS X.2.2.2.2.1 H (va_Pc (.ref b :: As) (fun U => U.heap.size = H.size ∧ va_P D vwCl [(b, e0)] U.heap ∧ va_K D vwCl (tyK cI cZ cO) U ∧ ex U)) (.ref b :: As) → va_Run X.1 X.2.1 X.2.2.1 X.2.2.2.1 X.2.2.2.2.1 X.2.2.2.2.2.1 X.2.2.2.2.2.2.1 X.2.2.2.2.2.2.2.1 X.2.2.2.2.2.2.2.2.1 X.2.2.2.2.2.2.2.2.2.1 H locs cells slots m1 s1 (F0 X.2.2.2.2.2.1 pc ls stk) st (va_Qv (fun _ : Nat → Nat => True) (fun a t => va_P D vwCl (F1 a) t.heap ∧ va_D (va_A [(b, e0)] H.size) (F1 a)) (va_A [(b, e0)] H.size) (.ref b :: As).toArray) (va_A [(b, e0)] H.size)) (hcells : cells + m1 = cells') (hslots : slots + s1 = slots') (hp : pc + 3 = pc') (k : ∀ a : Nat → Nat, AtK D A X nL pc' lv st (rest ++ F1 a) cells' slots') : AtK D A X nL pc lv stk ws cells slots := by
  subst hp
  subst hcells
  subst hslots
  obtain ⟨hx, hb, hml, hown, hts, hK, hr, hlk, hin, hR, hA, hQ⟩ := O
  intro H locs ls hP hD hS hl
  have hPc : va_P D vwCl [(b, e0)] H := fun k1 q hk => by
    have h1 : k1 < 1 := (List.getElem?_eq_some_iff.mp hk).1
    rw [show k1 = 0 by omega] at hk
    cases hk
    have e1 : ws[nR]? = some (b, e0) := by simpa using hnR
    exact hP nR _ e1
  have hFc := va_free (wc := [(b, e0)]) hD hS hA [nR] hnR
  have hpre : PreS X.2.2.2.2.1 H (va_Pc (.ref b :: As) (fun U => U.heap.size = H.size ∧ va_P D vwCl [(b, e0)] U.heap ∧ va_K D vwCl (tyK cI cZ cO) U ∧ ex U)) (.ref b :: As) :=
    ⟨fun a U g mk q => ⟨q.1, q.2.1, q.2.2.1, va_K.moved (u := U) (U := U.calling g mk a) (Vm.Alike.refl U.vm) q.2.2.2.1, hex0 a U g mk q.2.2.2.2⟩, fun U hU hW => ⟨rfl, by rw [hU], by rw [hU]; exact hPc, va_K.moved hW.alike hK, hex U hW⟩⟩
  refine va_callv (hrun H locs ls hP hl hpre) hS (fun q _ h => hFc q h) hFc (fun a t H1 locs1 ht hvm _ hB hz1 hk1 hS1 => ?_)
  obtain ⟨hP1, hD1⟩ := hB
  rw [ht] at hP1
  obtain ⟨hP2, hD2⟩ := va_join (wr := rest) (w1 := F1 a) hP hD [nR] isR hnR hR0 hnd hdis hk1 hFc hP1 hD1
  exact k a H1 locs1 ls hP2 hD2 hS1 hl
theorem k_callI (O : OkK D A X cc nL own rm cI cZ cO F mc ms) {y : MethodName} {cy : ByteArray} {ml n index b m1 s1 : Nat} {rmc : Room} {As : List Value} {e0 : va_E} {F1 : (Nat → Nat) → va_W} {rest : va_W} {stk : List Value} (hC : CtK y cy ml rmc D cI cZ cO (fun _ => True) As b e0 F1 m1 s1) (isR : List Nat) (hws : ws = rest ++ [(b, e0)]) (nR : Nat) (hnR : ([nR].map (fun i => ws[i]?)) = [(b, e0)].map some) (hR0 : isR.map (fun i => ws[i]?) = rest.map some) (hnd : va_nd isR = true) (hdis : ∀ i ∈ isR, i ∉ [nR]) (w1 : Cond.methodLink own index y ∈ wsL_law) (w2 : Cond.instanceMethod y ∈ wsL_law) (w4 : Cond.initialized y.cls ∈ wsL_law) (w5 : Cond.code y cy ml none ∈ wsL_law) (hyn : y.name = "<init>")
    (hd : y.cls ≠ "java/lang/invoke/MethodHandle" ∧ y.cls ≠ "java/lang/invoke/VarHandle" ∧ (parseMethodDescriptor y.desc).map (fun d => d.parameters.length) = some n) (hR : (rmc.cells = m1 ∧ rmc.slots = s1) ∧ rmc.frames + 1 ≤ rm.frames ∧ 8 + (ml + 11) + rmc.locals ≤ rm.locals) (hc1 : cells' ≤ rm.cells) (hs1 : slots' ≤ rm.slots) (hn : As.length = n) (hstk : stk = As.reverse ++ .ref b :: st) (hcat : (st.map fun v => v.category).sum ≤ 8) (d : decode cc pc = .ok (.invokespecial index, 3)) (hcells : cells + m1 = cells') (hslots : slots + s1 = slots') (hp : pc + 3 = pc') (k : ∀ a : Nat → Nat, AtK D A X nL pc' lv st (rest ++ F1 a) cells' slots') : AtK D A X nL pc lv stk ws cells slots := by
  refine k_call (n := n) (index := index) O hC (fun _ _ _ _ h => h) (fun _ _ => trivial) isR hws nR hnR hR0 hnd hdis (fun H locs ls hP hl hpre => ?_) hcells hslots hp k
  obtain ⟨hx, hb, hml, hown, hts, hK, hr, hlk, hin, hRm, hA, hQ⟩ := O
  exact va_runI (As := As) ⟨hx, hb, hml, hown, hts⟩ (hC X.2.1 H.size) (cwI n hts (good_all w5) rfl hR.1.1 hR.1.2 (hts _ w4) (hts _ w1) (hts _ w2) hyn hd (by rw [hRm]; exact hR.2)) hpre rfl hn hl.1 hstk (lv_room hcat) d ⟨by rw [hRm, hcells]; exact hc1, by rw [hRm, hslots]; exact hs1⟩
theorem k_callN (O : OkK D A X cc nL own rm cI cZ cO F mc ms) {y : MethodName} {cy : ByteArray} {ml n index b m1 s1 : Nat} {host : String} {rmc : Room} {ex : State → Prop} {As : List Value} {e0 : va_E} {F1 : (Nat → Nat) → va_W} {rest : va_W} {stk : List Value} (hC : CtK y cy ml rmc D cI cZ cO ex As b e0 F1 m1 s1) (hex0 : ∀ (a : Array Value) (U : State) (g : JFrame) (mk : MethodId), ex U → ex (U.calling g mk a)) (hex : ∀ U : State, X.2.2.2.2.1.WarmedH U.vm → ex U) (isR : List Nat) (hws : ws = rest ++ [(b, e0)]) (nR : Nat) (hnR : ([nR].map (fun i => ws[i]?)) = [(b, e0)].map some) (hR0 : isR.map (fun i => ws[i]?) = rest.map some) (hnd : va_nd isR = true) (hdis : ∀ i ∈ isR, i ∉ [nR]) (w1 : va_Nw (.methodLinkNest own index y host) X.2.2.2.2.1) (w2 : Cond.instanceMethod y ∈ wsL_law) (w4 : Cond.initialized y.cls ∈ wsL_law) (w5 : Cond.code y cy ml none ∈ wsL_law) (hyn : y.name = "<init>")
    (hd : y.cls ≠ "java/lang/invoke/MethodHandle" ∧ y.cls ≠ "java/lang/invoke/VarHandle" ∧ (parseMethodDescriptor y.desc).map (fun d => d.parameters.length) = some n) (hR : (rmc.cells = m1 ∧ rmc.slots = s1) ∧ rmc.frames + 1 ≤ rm.frames ∧ 8 + (ml + 11) + rmc.locals ≤ rm.locals) (hc1 : cells' ≤ rm.cells) (hs1 : slots' ≤ rm.slots) (hn : As.length = n) (hstk : stk = As.reverse ++ .ref b :: st) (hcat : (st.map fun v => v.category).sum ≤ 8) (d : decode cc pc = .ok (.invokespecial index, 3)) (hcells : cells + m1 = cells') (hslots : slots + s1 = slots') (hp : pc + 3 = pc') (k : ∀ a : Nat → Nat, AtK D A X nL pc' lv st (rest ++ F1 a) cells' slots') : AtK D A X nL pc lv stk ws cells slots := by
  refine k_call (n := n) (index := index) O hC hex0 hex isR hws nR hnR hR0 hnd hdis (fun H locs ls hP hl hpre => ?_) hcells hslots hp k
  obtain ⟨hx, hb, hml, hown, hts, hK, hr, hlk, hin, hRm, hA, hQ⟩ := O
  exact va_runIN (As := As) ⟨hx, hb, hml, hown, hts⟩ (hC X.2.1 H.size) ⟨va_cnB n hts (good_all w5) rfl hR.1.1 hR.1.2 w1 (hts _ w4) hd (by rw [hRm]; exact hR.2), hyn, hts _ w2⟩ hpre rfl hn hl.1 hstk (lv_room hcat) d ⟨by rw [hRm, hcells]; exact hc1, by rw [hRm, hslots]; exact hs1⟩
end KC
