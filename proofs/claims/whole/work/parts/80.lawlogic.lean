/-! THE CLAIM OUT OF ONE WALK OF THE LAW'S BODY. Your part is whole_start (and what it stands on); all else here is the same for every law, but numbers. -/
def R_law : String := "TurnThirdLaw"
def lw_P (b : Addr) (xs : List Int32) (args : Array Value) (s : State) : Prop := args = #[.ref b] ∧ s.IntsAt b xs ∧ xs.length ≤ 384 ∧ (Jvm.Cond.and given_1 narrow_1).before args s = true
def lw_Q (_ : Array Value) (s : State) (o : Outcome) (t : State) : Prop := o = .returned (some (.int 1)) ∧ Framed s o t [] 600000 7302250
def lw_Z (below : List Frame) (a : Array Value) (s : State) : State → Prop := fun t => ∃ o, t.status = .running ∧ Ended t below o ∧ lw_Q a s o t
/-- the law's own end, with 1 on the stack, nothing written that was there before, its room as the claim has it -/
theorem lw_ret {p : Program} {l : Launch} {e : Env} {s : State} {m : MethodId} {below : List Frame} {meth : Method} {c : Code} {b : Nat} (hx : p.tables.exec = Jvm.exec) (hb : c.code = code) (hr : meth.sig.returnType = ret) (hlocks : meth.locks = false) {pc : Nat} {H : Heap} {ls : Array Slot} (hdg : decode code pc = .ok (.ireturn, 1)) : W p l e room_1 s m #[Value.ref b] below meth c H [] 600000 7302250 (lw_Z below #[Value.ref b] s) (F0 m pc ls [.int 1]) := by
  intro T hT X
  obtain ⟨fs, hret, hrun, hended, hW, hframe⟩ := X.leave (v := some (.int 1)) (hlocks := hlocks) (fun h => by rw [hr] at h; cases h)
  have hmeth' : T.vm.method? m = some meth := X.method'
  refine ⟨T.setFrames fs, ?_, .returned (some (.int 1)), hrun, hended, rfl, ⟨_, rfl⟩, hW, hframe⟩
  jvm_step X.here [X.here.top, hx, hb, hdg, hmeth', hr, ret, narrow_b1]
  (try refine ⟨rfl, ?_⟩); (try refine ⟨rfl, ?_⟩)
  first | (intro acts; rw [hret _ acts rfl rfl rfl]) | rw [hret _ _ rfl rfl rfl]
  exact Steps.refl _
/-- what holds at the law's entry: the machine, the code, the tables' words (any of lw_tbl by 'hts w (by decide +kernel)'), the script of L ints xs at the cell b, what the Statement gives of the start (any of its parts by flat_of_before) -/
def lw_At (p : Program) (s : State) (m : MethodId) (meth : Method) (c : Code) (b L : Nat) (xs : Nat → Int32) : Prop :=
  p.tables.exec = Jvm.exec ∧ c.code = code ∧ meth.sig.returnType = ret ∧ c.maxLocals = 4 ∧ s.vm.findClass R_law = some m.cls ∧ (∀ w ∈ lw_tbl, w.before #[Value.ref b] s = true) ∧ va_X b L xs s s.heap ∧ b < s.heap.size ∧ meth.locks = false ∧ (Jvm.Cond.and given_1 narrow_1).before #[Value.ref b] s = true
/-! the law's own logic: AtK over the two worlds side by side -/
def OkL (D : va_G) (A : Nat → Prop) (X : XT) (cI cZ cO : ClassId) (b L : Nat) (xs : Nat → Int32) : Prop :=
  X.1.tables.exec = Jvm.exec ∧ X.2.2.2.2.2.2.2.2.2.1.code = cL_law ∧ X.2.2.2.2.2.2.2.2.2.1.maxLocals = 4 ∧ X.2.2.2.2.1.vm.findClass RL = some X.2.2.2.2.2.1.cls ∧ (∀ w ∈ wsL_law, w.before X.2.2.2.2.2.2.1 X.2.2.2.2.1 = true) ∧ va_K D vwCl (tyK cI cZ cO) X.2.2.2.2.1 ∧ X.2.2.2.1 = room_1 ∧ (∀ q, X.2.2.2.2.1.heap.size ≤ q → A q) ∧ va_X b L xs X.2.2.2.2.1 X.2.2.2.2.1.heap ∧ b < X.2.2.2.2.1.heap.size ∧ ¬ A b
theorem va_D_fst {A : Nat → Prop} {ws ws' : va_W} (h : ws.map Prod.fst = ws'.map Prod.fst) (hD : va_D A ws) : va_D A ws' := by
  have key : ∀ (k : Nat) (q : Nat × va_E), ws'[k]? = some q → ∃ q0, ws[k]? = some q0 ∧ q0.1 = q.1 := by
    intro k q hk
    have h1 : (ws'.map Prod.fst)[k]? = some q.1 := by rw [List.getElem?_map, hk]; rfl
    rw [← h, List.getElem?_map] at h1
    cases hw : ws[k]? with
    | none => rw [hw] at h1; cases h1
    | some q0 => rw [hw] at h1; exact ⟨q0, rfl, Option.some.inj h1⟩
  refine ⟨fun i j x y hi hj hxy => ?_, fun k q hk => ?_⟩
  · obtain ⟨x0, h1, h2⟩ := key i x hi
    obtain ⟨y0, h3, h4⟩ := key j y hj
    exact hD.1 i j x0 y0 h1 h3 (h2.trans (hxy.trans h4.symm))
  · obtain ⟨q0, h1, h2⟩ := key k q hk
    rw [← h2]
    exact hD.2 k q0 h1
theorem app_in {pre mid post : va_W} {k : Nat} {q : Nat × va_E} (h : mid[k]? = some q) : (pre ++ (mid ++ post))[pre.length + k]? = some q := by
  have hl : k < mid.length := (List.getElem?_eq_some_iff.mp h).1
  rw [List.getElem?_append_right (by omega), Nat.add_sub_cancel_left, List.getElem?_append_left hl]
  exact h
theorem app_pre {pre mid post : va_W} {k : Nat} {q : Nat × va_E} (h : pre[k]? = some q) : (pre ++ (mid ++ post))[k]? = some q := by
  rw [List.getElem?_append_left (List.getElem?_eq_some_iff.mp h).1]
  exact h
theorem app_post {pre mid post : va_W} {k : Nat} {q : Nat × va_E} (h : post[k]? = some q) : (pre ++ (mid ++ post))[pre.length + (mid.length + k)]? = some q := by
  rw [List.getElem?_append_right (by omega), Nat.add_sub_cancel_left, List.getElem?_append_right (by omega), Nat.add_sub_cancel_left]
  exact h
/-- a world in the midst of others, after a call that changed it alone -/
theorem mid_join {D : va_G} {A Am : Nat → Prop} {pre mid mid1 post : va_W} {H H1 : Heap} (hP : va_P D vwCl (pre ++ (mid ++ post)) H) (hD : va_D A (pre ++ (mid ++ post))) (hAm : ∀ a, Am a → ∃ (k : Nat) (q : Nat × va_E), mid[k]? = some q ∧ q.1 = a) (hk : ∀ q : Nat, q < H.size → ¬ Am q → H1[q]? = H[q]?) (hP1 : va_P D vwCl mid1 H1) (hf : mid1.map Prod.fst = mid.map Prod.fst) : va_P D vwCl (pre ++ (mid1 ++ post)) H1 ∧ va_D A (pre ++ (mid1 ++ post)) := by
  refine ⟨(va_P.app (fun k q h => ?_) (hP1.app (fun k q h => ?_))), va_D_fst (by rw [List.map_append, List.map_append, List.map_append, List.map_append, hf]) hD⟩
  · have h1 := app_pre (mid := mid) (post := post) h
    refine (hP _ _ h1).kept (hk _ (hP _ _ h1).lt (fun ha => ?_))
    obtain ⟨k2, q2, h2, h3⟩ := hAm _ ha
    have e := hD.1 _ _ _ _ h1 (app_in (pre := pre) (post := post) h2) h3.symm
    have hl : k < pre.length := (List.getElem?_eq_some_iff.mp h).1
    omega
  · have h1 := app_post (pre := pre) (mid := mid) h
    refine (hP _ _ h1).kept (hk _ (hP _ _ h1).lt (fun ha => ?_))
    obtain ⟨k2, q2, h2, h3⟩ := hAm _ ha
    have e := hD.1 _ _ _ _ h1 (app_in (pre := pre) (post := post) h2) h3.symm
    have hl : k2 < mid.length := (List.getElem?_eq_some_iff.mp h2).1
    omega
section LL
variable {D : va_G} {A : Nat → Prop} {X : XT} {pc pc' : Nat} {cI cZ cO : ClassId} {b L : Nat} {xs : Nat → Int32} {cells slots cells' slots' : Nat} {lv : List (Nat × Value)} {st : List Value} {ws : va_W}
theorem l_iconst (O : OkL D A X cI cZ cO b L xs) {n : Int} {v : Int32} (d : decode cL_law pc = .ok (.iconst n, 1)) (hv : Int32.ofInt n = v) (hp : pc + 1 = pc') (k : AtK D A X 4 pc' lv (.int v :: st) ws cells slots) : AtK D A X 4 pc lv st ws cells slots := by
  subst hp
  exact fun H locs ls hP hD hS hl => lv_iconst O.1 O.2.1 d hv (k H locs ls hP hD hS hl)
theorem l_bipush (O : OkL D A X cI cZ cO b L xs) {n : Int} {v : Int32} (d : decode cL_law pc = .ok (.bipush n, 2)) (hv : (Int8.ofInt n).toInt32 = v) (hp : pc + 2 = pc') (k : AtK D A X 4 pc' lv (.int v :: st) ws cells slots) : AtK D A X 4 pc lv st ws cells slots := by
  subst hp
  exact fun H locs ls hP hD hS hl => lv_bipush O.1 O.2.1 d hv (k H locs ls hP hD hS hl)
theorem l_aload (O : OkL D A X cI cZ cO b L xs) {k0 : Fin 4} {i x : Nat} (d : decode cL_law pc = .ok (.aload_n k0, 1)) (hi : (k0 : Nat) = i) (q : Nat) (hq : lv[q]? = some (i, .ref x)) (hp : pc + 1 = pc') (k : AtK D A X 4 pc' lv (.ref x :: st) ws cells slots) : AtK D A X 4 pc lv st ws cells slots := by
  subst hp
  exact fun H locs ls hP hD hS hl => lv_aload_n O.1 O.2.1 d hi (lv_at hl q hq) (k H locs ls hP hD hS hl)
theorem l_iload (O : OkL D A X cI cZ cO b L xs) {k0 : Fin 4} {i : Nat} {x : Int32} (d : decode cL_law pc = .ok (.iload_n k0, 1)) (hi : (k0 : Nat) = i) (q : Nat) (hq : lv[q]? = some (i, .int x)) (hp : pc + 1 = pc') (k : AtK D A X 4 pc' lv (.int x :: st) ws cells slots) : AtK D A X 4 pc lv st ws cells slots := by
  subst hp
  exact fun H locs ls hP hD hS hl => lv_iload_n O.1 O.2.1 d hi (lv_at hl q hq) (k H locs ls hP hD hS hl)
theorem l_dup (O : OkL D A X cI cZ cO b L xs) {va : Value} (d : decode cL_law pc = .ok (.dup, 1)) (hva : va.category = 1) (hp : pc + 1 = pc') (k : AtK D A X 4 pc' lv (va :: va :: st) ws cells slots) : AtK D A X 4 pc lv (va :: st) ws cells slots := by
  subst hp
  exact fun H locs ls hP hD hS hl => lv_dup O.1 O.2.1 d hva (k H locs ls hP hD hS hl)
theorem l_iadd (O : OkL D A X cI cZ cO b L xs) {x y : Int32} (d : decode cL_law pc = .ok (.iadd, 1)) (hp : pc + 1 = pc') (k : AtK D A X 4 pc' lv (.int (x + y) :: st) ws cells slots) : AtK D A X 4 pc lv (.int y :: .int x :: st) ws cells slots := by
  subst hp
  exact fun H locs ls hP hD hS hl => lv_iadd O.1 O.2.1 d (k H locs ls hP hD hS hl)
theorem l_isub (O : OkL D A X cI cZ cO b L xs) {x y : Int32} (d : decode cL_law pc = .ok (.isub, 1)) (hp : pc + 1 = pc') (k : AtK D A X 4 pc' lv (.int (x - y) :: st) ws cells slots) : AtK D A X 4 pc lv (.int y :: .int x :: st) ws cells slots := by
  subst hp
  exact fun H locs ls hP hD hS hl => lv_isub O.1 O.2.1 d (k H locs ls hP hD hS hl)
theorem l_iand (O : OkL D A X cI cZ cO b L xs) {x y : Int32} (d : decode cL_law pc = .ok (.iand, 1)) (hp : pc + 1 = pc') (k : AtK D A X 4 pc' lv (.int (x &&& y) :: st) ws cells slots) : AtK D A X 4 pc lv (.int y :: .int x :: st) ws cells slots := by
  subst hp
  exact fun H locs ls hP hD hS hl => lv_iand O.1 O.2.1 d (k H locs ls hP hD hS hl)
theorem l_sld (O : OkL D A X cI cZ cO b L xs) {x : Int32} (j : Nat) (hx : x = nI j) (hj : j < L) (hL : L < 2 ^ 31) (d : decode cL_law pc = .ok (.iaload, 1)) (hp : pc + 1 = pc') (k : AtK D A X 4 pc' lv (.int (xs j) :: st) ws cells slots) : AtK D A X 4 pc lv (.int x :: .ref b :: st) ws cells slots := by
  subst hp
  exact fun H locs ls hP hD hS hl => (fun kk => by
    subst hx
    have e : (nI j).toNatClampNeg = j := nI_clamp (by omega)
    exact va_sld O.1 O.2.1 O.2.2.2.2.2.2.2.2.1 O.2.2.2.2.2.2.2.2.2.1 O.2.2.2.2.2.2.2.2.2.2 hS (vp_in_nI hj hL) d (by rw [e]; exact kk)) (k H locs ls hP hD hS hl)
theorem l_slen (O : OkL D A X cI cZ cO b L xs)  (d : decode cL_law pc = .ok (.arraylength, 1)) (hp : pc + 1 = pc') (k : AtK D A X 4 pc' lv (.int (Int32.ofNat L) :: st) ws cells slots) : AtK D A X 4 pc lv (.ref b :: st) ws cells slots := by
  subst hp
  exact fun H locs ls hP hD hS hl => va_slen O.1 O.2.1 O.2.2.2.2.2.2.2.2.1 O.2.2.2.2.2.2.2.2.2.1 O.2.2.2.2.2.2.2.2.2.2 hS d (k H locs ls hP hD hS hl)
theorem l_istore (O : OkL D A X cI cZ cO b L xs) {k0 : Fin 4} {i : Nat} {x : Int32} {lv' : List (Nat × Value)} (d : decode cL_law pc = .ok (.istore_n k0, 1)) (hi : (k0 : Nat) = i) (hn : i < 4) (hl : (i, Value.int x) :: lv.filter (fun q => !(q.1 == i) && !(q.1 + 1 == i && q.2.category == 2)) = lv') (hp : pc + 1 = pc') (k : AtK D A X 4 pc' lv' st ws cells slots) : AtK D A X 4 pc lv (.int x :: st) ws cells slots := by
  subst hp
  exact fun H locs ls hP hD hS h => lv_istore_n O.1 O.2.1 d hi h hn hl (fun ls h => k H locs ls hP hD hS h)
theorem l_astore (O : OkL D A X cI cZ cO b L xs) {k0 : Fin 4} {i x : Nat} {lv' : List (Nat × Value)} (d : decode cL_law pc = .ok (.astore_n k0, 1)) (hi : (k0 : Nat) = i) (hn : i < 4) (hl : (i, Value.ref x) :: lv.filter (fun q => !(q.1 == i) && !(q.1 + 1 == i && q.2.category == 2)) = lv') (hp : pc + 1 = pc') (k : AtK D A X 4 pc' lv' st ws cells slots) : AtK D A X 4 pc lv (.ref x :: st) ws cells slots := by
  subst hp
  exact fun H locs ls hP hD hS h => lv_astore_n O.1 O.2.1 d hi h hn hl (fun ls h => k H locs ls hP hD hS h)
theorem l_iinc (O : OkL D A X cI cZ cO b L xs) {i : Nat} {n : Int} {x v : Int32} {lv' : List (Nat × Value)} (d : decode cL_law pc = .ok (.iinc i n, 3)) (q : Nat) (hq : lv[q]? = some (i, .int x)) (hv : x + Int32.ofInt n = v) (hn : i < 4) (hl : (i, Value.int v) :: lv.filter (fun q => !(q.1 == i) && !(q.1 + 1 == i && q.2.category == 2)) = lv') (hp : pc + 3 = pc') (k : AtK D A X 4 pc' lv' st ws cells slots) : AtK D A X 4 pc lv st ws cells slots := by
  subst hp
  exact fun H locs ls hP hD hS h => lv_iinc O.1 O.2.1 d h hq hv hn hl (fun ls h => k H locs ls hP hD hS h)
theorem l_goto (O : OkL D A X cI cZ cO b L xs) {off : Int} {tgt : Nat} (d : decode cL_law pc = .ok (.goto off, 3)) (ht : (pc : Int) + off = (tgt : Int)) (k : AtK D A X 4 tgt lv st ws cells slots) : AtK D A X 4 pc lv st ws cells slots := fun H locs ls hP hD hS hl => lv_goto O.1 O.2.1 d ht (k H locs ls hP hD hS hl)
theorem l_sub {lv' : List (Nat × Value)} (ks : List Nat) (h : lv_pick lv ks = lv') (k : AtK D A X 4 pc lv' st ws cells slots) : AtK D A X 4 pc lv st ws cells slots := fun H locs ls hP hD hS hl => k H locs ls hP hD hS (lv_sub hl ks h)
theorem l_gt (O : OkL D A X cI cZ cO b L xs) {x y : Int32} {off : Int} {tgt : Nat} (d : decode cL_law pc = .ok (.if_icmp .gt off, 3)) (ht : (pc : Int) + off = (tgt : Int)) (hp : pc + 3 = pc') (hA : y < x → AtK D A X 4 tgt lv st ws cells slots) (hB : ¬ y < x → AtK D A X 4 pc' lv st ws cells slots) : AtK D A X 4 pc lv (.int y :: .int x :: st) ws cells slots := by
  subst hp
  exact fun H locs ls hP hD hS hl => lv_icmp_gt O.1 O.2.1 d ht (fun c => hA c H locs ls hP hD hS hl) (fun c => hB c H locs ls hP hD hS hl)
theorem l_eq (O : OkL D A X cI cZ cO b L xs) {x : Int32} {off : Int} {tgt : Nat} (d : decode cL_law pc = .ok (.if_icmp .eq off, 3)) (ht : (pc : Int) + off = (tgt : Int)) (k : AtK D A X 4 tgt lv st ws cells slots) : AtK D A X 4 pc lv (.int x :: .int x :: st) ws cells slots := fun H locs ls hP hD hS hl => lv_icmp_eq O.1 O.2.1 d ht (fun _ => k H locs ls hP hD hS hl) (fun c => absurd rfl c)
theorem l_eql (O : OkL D A X cI cZ cO b L xs) {x : Int64} {off : Int} {tgt pc1 : Nat} (d1 : decode cL_law pc = .ok (.lcmp, 1)) (hp1 : pc + 1 = pc1) (d : decode cL_law pc1 = .ok (.ifCond .eq off, 3)) (ht : (pc1 : Int) + off = (tgt : Int)) (k : AtK D A X 4 tgt lv st ws cells slots) : AtK D A X 4 pc lv (.long x :: .long x :: st) ws cells slots := by
  subst hp1
  exact fun H locs ls hP hD hS hl => W.lcmp O.1 O.2.1 d1 (lv_if_eq O.1 O.2.1 d ht (fun _ => k H locs ls hP hD hS hl) (fun c => absurd (lg_c.1.mpr rfl) c))
theorem l_swIn (O : OkL D A X cI cZ cO b L xs) {dflt lo hi : Int} {offs : Array Int} {len : Nat} {x k0 : Int32} {off : Int} {tgt : Nat} (hx : x = k0) (d : decode cL_law pc = .ok (.tableswitch dflt lo hi offs, len)) (h1 : ¬ k0.toInt < lo) (h2 : ¬ hi < k0.toInt) (ho : offs[(k0.toInt - lo).toNat]? = some off) (ht : (pc : Int) + off = (tgt : Int)) (k : AtK D A X 4 tgt lv st ws cells slots) : AtK D A X 4 pc lv (.int x :: st) ws cells slots := by
  subst hx
  exact fun H locs ls hP hD hS hl => lv_tableIn O.1 O.2.1 d h1 h2 ho ht (k H locs ls hP hD hS hl)
theorem l_swOut (O : OkL D A X cI cZ cO b L xs) {dflt lo hi : Int} {offs : Array Int} {len : Nat} {x : Int32} {tgt : Nat} (d : decode cL_law pc = .ok (.tableswitch dflt lo hi offs, len)) (h : x.toInt < lo ∨ hi < x.toInt) (ht : (pc : Int) + dflt = (tgt : Int)) (k : AtK D A X 4 tgt lv st ws cells slots) : AtK D A X 4 pc lv (.int x :: st) ws cells slots := fun H locs ls hP hD hS hl => lv_tableOut O.1 O.2.1 d h ht (k H locs ls hP hD hS hl)
theorem l_new (O : OkL D A X cI cZ cO b L xs) {C : String} {T : u_T} {N ci index : Nat} (ty : Nat → FieldType) (hty : ∀ k, k < N → parseFieldDescriptor (T k).2.2.1 = some (ty k)) (hin0 : ∀ w ∈ u_ws C T N, w ∈ wsL_law) (w1 : Cond.classLink RL index C ∈ wsL_law) (w2 : Cond.instantiable C N ∈ wsL_law) (w3 : Cond.initialized C ∈ wsL_law) (hc : vwCl[ci]? = some (C, T, N)) {fs : List Value} (hfs : ∀ j, j < N → defaultValue (ty j) = vp_V fs j) (hcells : cells + 1 = cells') (hslots : slots + N = slots') (hc1 : cells' ≤ room_1.cells) (hs1 : slots' ≤ room_1.slots) (d : decode cL_law pc = .ok (.new index, 3)) (hp : pc + 3 = pc') (k : ∀ q, AtK D A X 4 pc' lv (.ref q :: st) (ws ++ [(q, .inr (ci, fs))]) cells' slots') : AtK D A X 4 pc lv st ws cells slots := by
  subst hp
  subst hcells
  subst hslots
  obtain ⟨hx, hb, hml, hown, hts, hK, hR, hA, -⟩ := O
  exact fun H locs ls hP hD hS hl => va_new hx hb hts hin0 ty hty hown (hts _ w1) (hts _ w2) (hts _ w3) hK hP hD hS hA hc hfs (by rw [hR]; exact hc1) (by rw [hR]; exact hs1) d (fun q H1 hP1 hD1 hS1 => k q H1 locs ls hP1 hD1 hS1 hl)
/-- a constructor's call in the law, the object being the last cell -/
theorem l_init (O : OkL D A X cI cZ cO b L xs) {y : MethodName} {cy : ByteArray} {ml index b1 m1 s1 : Nat} {rmc : Room} {ex : State → Prop} {e0 : va_E} {F1 : (Nat → Nat) → va_W} {rest : va_W} (hC : CtK y cy ml rmc D cI cZ cO ex [] b1 e0 F1 m1 s1) (hex0 : ∀ (a : Array Value) (U : State) (g : JFrame) (mk : MethodId), ex U → ex (U.calling g mk a)) (hex : ∀ U : State, X.2.2.2.2.1.WarmedH U.vm → ex U) (hws : ws = rest ++ [(b1, e0)]) (w1 : Cond.methodLink RL index y ∈ wsL_law) (w2 : Cond.instanceMethod y ∈ wsL_law) (w4 : Cond.initialized y.cls ∈ wsL_law) (w5 : Cond.code y cy ml none ∈ wsL_law) (hyn : y.name = "<init>")
    (hd : y.cls ≠ "java/lang/invoke/MethodHandle" ∧ y.cls ≠ "java/lang/invoke/VarHandle" ∧ (parseMethodDescriptor y.desc).map (fun d => d.parameters.length) = some 0) (hR : (rmc.cells = m1 ∧ rmc.slots = s1) ∧ rmc.frames + 1 ≤ room_1.frames ∧ 8 + (ml + 11) + rmc.locals ≤ room_1.locals) (hc1 : cells' ≤ room_1.cells) (hs1 : slots' ≤ room_1.slots) (hcat : (st.map fun v => v.category).sum ≤ 8) (d : decode cL_law pc = .ok (.invokespecial index, 3)) (hcells : cells + m1 = cells') (hslots : slots + s1 = slots') (hp : pc + 3 = pc') (k : ∀ a : Nat → Nat, AtK D A X 4 pc' lv st (rest ++ F1 a) cells' slots') : AtK D A X 4 pc lv (.ref b1 :: st) ws cells slots := by
  subst hp
  subst hcells
  subst hslots
  subst hws
  obtain ⟨hx, hb, hml, hown, hts, hK, hRm, hA, -⟩ := O
  intro H locs ls hP hD hS hl
  have hlast : (rest ++ [(b1, e0)])[rest.length]? = some (b1, e0) := by rw [List.getElem?_append_right (Nat.le_refl _), Nat.sub_self]; rfl
  have hnR : ([rest.length].map (fun i => (rest ++ [(b1, e0)])[i]?)) = [(b1, e0)].map some := by show [(rest ++ [(b1, e0)])[rest.length]?] = _; rw [hlast]; rfl
  have hR0 : (List.range rest.length).map (fun i => (rest ++ [(b1, e0)])[i]?) = rest.map some := by
    apply List.ext_getElem?
    intro i
    rw [List.getElem?_map, List.getElem?_map]
    by_cases hi : i < rest.length
    · rw [List.getElem?_range hi]
      show some ((rest ++ [(b1, e0)])[i]?) = _
      rw [List.getElem?_append_left hi, List.getElem?_eq_getElem hi]
      rfl
    · rw [List.getElem?_eq_none (by rw [List.length_range]; omega), List.getElem?_eq_none (by omega)]
      rfl
  have hnd : ∀ n : Nat, va_nd (List.range n) = true := by
    intro n
    have g : ∀ (l : List Nat), l.Nodup → va_nd l = true := by
      intro l hl
      induction l with
      | nil => rfl
      | cons a l ih =>
        rw [List.nodup_cons] at hl
        show (decide (a ∉ l) && va_nd l) = true
        rw [ih hl.2, Bool.and_true]
        exact decide_eq_true hl.1
    exact g _ List.nodup_range
  have hdis : ∀ i ∈ List.range rest.length, i ∉ [rest.length] := fun i hi h => by
    have h1 := List.mem_range.mp hi
    have h2 := List.mem_singleton.mp h
    omega
  have hPc : va_P D vwCl [(b1, e0)] H := fun k1 q hk => by
    have h1 : k1 < 1 := (List.getElem?_eq_some_iff.mp hk).1
    rw [show k1 = 0 by omega] at hk
    cases hk
    exact hP rest.length _ hlast
  have hFc := va_free (wc := [(b1, e0)]) hD hS hA [rest.length] hnR
  have hpre : PreS X.2.2.2.2.1 H (va_Pc [.ref b1] (fun U => U.heap.size = H.size ∧ va_P D vwCl [(b1, e0)] U.heap ∧ va_K D vwCl (tyK cI cZ cO) U ∧ ex U)) [.ref b1] :=
    ⟨fun a U g mk q => ⟨q.1, q.2.1, q.2.2.1, va_K.moved (u := U) (U := U.calling g mk a) (Vm.Alike.refl U.vm) q.2.2.2.1, hex0 a U g mk q.2.2.2.2⟩, fun U hU hW => ⟨rfl, by rw [hU], by rw [hU]; exact hPc, va_K.moved hW.alike hK, hex U hW⟩⟩
  refine va_callv (va_runI (As := []) ⟨hx, hb, hml, hown, hts⟩ (hC X.2.1 H.size) (cwI 0 hts (good_all w5) rfl hR.1.1 hR.1.2 (hts _ w4) (hts _ w1) (hts _ w2) hyn hd (by rw [hRm]; exact hR.2)) hpre rfl rfl hl.1 rfl (lv_room hcat) d ⟨by rw [hRm]; exact hc1, by rw [hRm]; exact hs1⟩) hS (fun q _ h => hFc q h) hFc (fun a t H1 locs1 ht hvm _ hB hz1 hk1 hS1 => ?_)
  obtain ⟨hP1, hD1⟩ := hB
  rw [ht] at hP1
  obtain ⟨hP2, hD2⟩ := va_join (wr := rest) (w1 := F1 a) hP hD [rest.length] (List.range rest.length) hnR hR0 (hnd _) hdis hk1 hFc hP1 hD1
  exact k a H1 locs1 ls hP2 hD2 hS1 hl
/-- a method's call in the law, its world in the midst of the others -/
theorem l_call (O : OkL D A X cI cZ cO b L xs) {Y : WT} (hYD : Y.2.1 = D) (hYt : Y.2.2.2 = tyK cI cZ cO) {y : MethodName} {cy : ByteArray} {ml n index : Nat} {rty : Option FieldType} {rmc : Room} {b1 q0 ci : Nat} {qc : vw_C} {fs As : List Value} {v : Option Value} {σ σ1 : St} {stk : List Value} {pre post : va_W} (hC : Ct Y y cy ml rty rmc (.ref b1 :: As) σ v σ1) (hAm : ∀ a, Y.2.2.1 a → ∃ (k : Nat) (q : Nat × va_E), (Y.1 σ)[k]? = some q ∧ q.1 = a) (hf : (Y.1 σ1).map Prod.fst = (Y.1 σ).map Prod.fst) (w1 : Cond.methodLink RL index y ∈ wsL_law) (w2 : Cond.instanceMethod y ∈ wsL_law) (w3 : Cond.selects y.cls y y ∈ wsL_law) (w4 : Cond.initialized y.cls ∈ wsL_law) (w5 : Cond.code y cy ml rty ∈ wsL_law)
    (hd : y.cls ≠ "java/lang/invoke/MethodHandle" ∧ y.cls ≠ "java/lang/invoke/VarHandle" ∧ (parseMethodDescriptor y.desc).map (fun d => d.parameters.length) = some n) (hR : (rmc.cells = 0 ∧ rmc.slots = 0) ∧ rmc.frames + 1 ≤ room_1.frames ∧ 8 + (ml + 11) + rmc.locals ≤ room_1.locals) (he : (Y.1 σ)[q0]? = some (b1, .inr (ci, fs))) (hc : vwCl[ci]? = some qc) (hcy : qc.1 = y.cls) (hn : As.length = n) (hstk : stk = As.reverse ++ .ref b1 :: st) (hcat : (st.map fun v => v.category).sum ≤ 8) (d : decode cL_law pc = .ok (.invokevirtual index, 3)) (hc1 : cells ≤ room_1.cells) (hs1 : slots ≤ room_1.slots) (hp : pc + 3 = pc') (k : AtK D A X 4 pc' lv (v.toList ++ st) (pre ++ (Y.1 σ1 ++ post)) cells slots) : AtK D A X 4 pc lv stk (pre ++ (Y.1 σ ++ post)) cells slots := by
  subst hp
  subst hYD
  obtain ⟨hx, hb, hml, hown, hts, hK, hRm, hA, -⟩ := O
  rw [← hYt] at hK
  intro H locs ls hP hD hS hl
  have hPc : va_P Y.2.1 vwCl (Y.1 σ) H := fun k1 q hk => hP _ q (app_in hk)
  have hp0 := ct_pre (av := .ref b1 :: As) hK hPc
  have hrec := va_recv hK hPc hc he
  rw [hcy] at hrec
  have hrun := va_runV (l := X.2.1) (e := X.2.2.1) (below := X.2.2.2.2.2.2.2.1) (meth := X.2.2.2.2.2.2.2.2.1) (locs := locs) (cells := cells) (slots := slots) (g := F0 X.2.2.2.2.2.1 pc ls stk) (rest := st) (As := As) (C := y.cls) (Ts := wsL_law) (args := X.2.2.2.2.2.2.1) (H := H) (R := X.2.2.2.1) (nL := 4) ⟨hx, hb, hml, hown, hts⟩ (hC X.2.1) ⟨callB_of n hts (good_all w5) rfl hR.1.1 hR.1.2 (hts _ w4) (hts _ w1) hd (by rw [hRm]; exact hR.2), hts _ w2, hts _ w3⟩ ⟨hp0.1, hrec, hp0.2⟩ rfl hn hl.1 hstk (lv_room hcat) d ⟨by rw [hRm]; exact hc1, by rw [hRm]; exact hs1⟩
  have hsub : ∀ a, Y.2.2.1 a → A a := fun a ha => by
    obtain ⟨k2, q2, h2, h3⟩ := hAm a ha
    rw [← h3]
    exact hD.2 _ _ (app_in (pre := pre) (post := post) h2)
  intro T hT XS
  obtain ⟨v', st₀, t, T', Lc, h0, X', hL, e1, e2, ⟨hv, hP1, hz, hk⟩, stp⟩ := hrun T hT XS
  cases hv
  rw [h0] at hz hk
  rw [← e1] at hP1 hz hk
  obtain ⟨hP2, hD2⟩ := mid_join hP hD hAm hk hP1 hf
  obtain ⟨t2, a1, b2⟩ := k T'.heap (locs ++ Lc) ls hP2 hD2 ⟨Nat.le_trans hS.1 hz, fun q h1 h2 => by rw [hk q (Nat.lt_of_lt_of_le h1 hS.1) (fun z => h2 (hsub q z))]; exact hS.2.1 q h1 h2, fun q hq => by
      rcases List.mem_append.mp hq with h | h
      · exact hS.2.2 q h
      · exact hsub _ (hL q h)⟩ hl T' rfl X'
  exact ⟨t2, stp t2 a1, b2⟩
end LL
theorem fstC (E : ET) (σ σ1 : St) : ((YC E).1 σ1).map Prod.fst = ((YC E).1 σ).map Prod.fst := rfl
theorem fstM (E : ET) (σ σ1 : St) : ((YM E).1 σ1).map Prod.fst = ((YM E).1 σ).map Prod.fst := rfl
theorem adC_in (E : ET) (σ : St) : ∀ a, (YC E).2.2.1 a → ∃ (k : Nat) (q : Nat × va_E), ((YC E).1 σ)[k]? = some q ∧ q.1 = a := by
  rintro a ⟨k, hk, rfl⟩
  rcases (show k = 0 ∨ k = 1 ∨ k = 2 ∨ k = 3 ∨ k = 4 ∨ k = 5 ∨ k = 6 ∨ k = 7 ∨ k = 8 ∨ k = 9 ∨ k = 10 ∨ k = 11 ∨ k = 12 ∨ k = 13 ∨ k = 14 ∨ k = 15 ∨ k = 16 ∨ k = 17 ∨ k = 18 ∨ k = 19 ∨ k = 20 ∨ k = 21 ∨ k = 22 ∨ k = 23 ∨ k = 24 ∨ k = 25 ∨ k = 26 ∨ k = 27 ∨ k = 28 ∨ k = 29 ∨ k = 30 ∨ k = 31 ∨ k = 32 ∨ k = 33 ∨ k = 34 ∨ k = 35 ∨ k = 36 ∨ k = 37 ∨ k = 38 ∨ k = 39 ∨ k = 40 ∨ k = 41 ∨ k = 42 ∨ k = 43 ∨ k = 44 ∨ k = 45 ∨ k = 46 ∨ k = 47 by omega) with rfl | rfl | rfl | rfl | rfl | rfl | rfl | rfl | rfl | rfl | rfl | rfl | rfl | rfl | rfl | rfl | rfl | rfl | rfl | rfl | rfl | rfl | rfl | rfl | rfl | rfl | rfl | rfl | rfl | rfl | rfl | rfl | rfl | rfl | rfl | rfl | rfl | rfl | rfl | rfl | rfl | rfl | rfl | rfl | rfl | rfl | rfl | rfl
  · exact ⟨0, _, gC_0 E σ, rfl⟩
  · exact ⟨1, _, gC_1 E σ, rfl⟩
  · exact ⟨2, _, gC_2 E σ, rfl⟩
  · exact ⟨3, _, gC_3 E σ, rfl⟩
  · exact ⟨4, _, gC_4 E σ, rfl⟩
  · exact ⟨5, _, gC_5 E σ, rfl⟩
  · exact ⟨6, _, gC_6 E σ, rfl⟩
  · exact ⟨7, _, gC_7 E σ, rfl⟩
  · exact ⟨8, _, gC_8 E σ, rfl⟩
  · exact ⟨9, _, gC_9 E σ, rfl⟩
  · exact ⟨10, _, gC_10 E σ, rfl⟩
  · exact ⟨11, _, gC_11 E σ, rfl⟩
  · exact ⟨12, _, gC_12 E σ, rfl⟩
  · exact ⟨13, _, gC_13 E σ, rfl⟩
  · exact ⟨14, _, gC_14 E σ, rfl⟩
  · exact ⟨15, _, gC_15 E σ, rfl⟩
  · exact ⟨16, _, gC_16 E σ, rfl⟩
  · exact ⟨17, _, gC_17 E σ, rfl⟩
  · exact ⟨18, _, gC_18 E σ, rfl⟩
  · exact ⟨19, _, gC_19 E σ, rfl⟩
  · exact ⟨20, _, gC_20 E σ, rfl⟩
  · exact ⟨21, _, gC_21 E σ, rfl⟩
  · exact ⟨22, _, gC_22 E σ, rfl⟩
  · exact ⟨23, _, gC_23 E σ, rfl⟩
  · exact ⟨24, _, gC_24 E σ, rfl⟩
  · exact ⟨25, _, gC_25 E σ, rfl⟩
  · exact ⟨26, _, gC_26 E σ, rfl⟩
  · exact ⟨27, _, gC_27 E σ, rfl⟩
  · exact ⟨28, _, gC_28 E σ, rfl⟩
  · exact ⟨29, _, gC_29 E σ, rfl⟩
  · exact ⟨30, _, gC_30 E σ, rfl⟩
  · exact ⟨31, _, gC_31 E σ, rfl⟩
  · exact ⟨32, _, gC_32 E σ, rfl⟩
  · exact ⟨33, _, gC_33 E σ, rfl⟩
  · exact ⟨34, _, gC_34 E σ, rfl⟩
  · exact ⟨35, _, gC_35 E σ, rfl⟩
  · exact ⟨36, _, gC_36 E σ, rfl⟩
  · exact ⟨37, _, gC_37 E σ, rfl⟩
  · exact ⟨38, _, gC_38 E σ, rfl⟩
  · exact ⟨39, _, gC_39 E σ, rfl⟩
  · exact ⟨40, _, gC_40 E σ, rfl⟩
  · exact ⟨41, _, gC_41 E σ, rfl⟩
  · exact ⟨42, _, gC_42 E σ, rfl⟩
  · exact ⟨43, _, gC_43 E σ, rfl⟩
  · exact ⟨44, _, gC_44 E σ, rfl⟩
  · exact ⟨45, _, gC_45 E σ, rfl⟩
  · exact ⟨46, _, gC_46 E σ, rfl⟩
  · exact ⟨47, _, gC_47 E σ, rfl⟩
theorem adM_in (E : ET) (σ : St) : ∀ a, (YM E).2.2.1 a → ∃ (k : Nat) (q : Nat × va_E), ((YM E).1 σ)[k]? = some q ∧ q.1 = a := by
  rintro a ⟨k, hk, rfl⟩
  rcases (show k = 0 ∨ k = 1 ∨ k = 2 ∨ k = 3 ∨ k = 4 ∨ k = 5 ∨ k = 6 ∨ k = 7 ∨ k = 8 ∨ k = 9 ∨ k = 10 ∨ k = 11 ∨ k = 12 ∨ k = 13 ∨ k = 14 ∨ k = 15 by omega) with rfl | rfl | rfl | rfl | rfl | rfl | rfl | rfl | rfl | rfl | rfl | rfl | rfl | rfl | rfl | rfl
  · exact ⟨0, _, gM_0 E σ, rfl⟩
  · exact ⟨1, _, gM_1 E σ, rfl⟩
  · exact ⟨2, _, gM_2 E σ, rfl⟩
  · exact ⟨3, _, gM_3 E σ, rfl⟩
  · exact ⟨4, _, gM_4 E σ, rfl⟩
  · exact ⟨5, _, gM_5 E σ, rfl⟩
  · exact ⟨6, _, gM_6 E σ, rfl⟩
  · exact ⟨7, _, gM_7 E σ, rfl⟩
  · exact ⟨8, _, gM_8 E σ, rfl⟩
  · exact ⟨9, _, gM_9 E σ, rfl⟩
  · exact ⟨10, _, gM_10 E σ, rfl⟩
  · exact ⟨11, _, gM_11 E σ, rfl⟩
  · exact ⟨12, _, gM_12 E σ, rfl⟩
  · exact ⟨13, _, gM_13 E σ, rfl⟩
  · exact ⟨14, _, gM_14 E σ, rfl⟩
  · exact ⟨15, _, gM_15 E σ, rfl⟩
theorem C_ad (E : ET) (σ : St) (k : Nat) (q : Nat × va_E) (h : ((YC E).1 σ)[k]? = some q) : adC E q.1 := by
  have hk : k < 48 := (List.getElem?_eq_some_iff.mp h).1
  rcases (show k = 0 ∨ k = 1 ∨ k = 2 ∨ k = 3 ∨ k = 4 ∨ k = 5 ∨ k = 6 ∨ k = 7 ∨ k = 8 ∨ k = 9 ∨ k = 10 ∨ k = 11 ∨ k = 12 ∨ k = 13 ∨ k = 14 ∨ k = 15 ∨ k = 16 ∨ k = 17 ∨ k = 18 ∨ k = 19 ∨ k = 20 ∨ k = 21 ∨ k = 22 ∨ k = 23 ∨ k = 24 ∨ k = 25 ∨ k = 26 ∨ k = 27 ∨ k = 28 ∨ k = 29 ∨ k = 30 ∨ k = 31 ∨ k = 32 ∨ k = 33 ∨ k = 34 ∨ k = 35 ∨ k = 36 ∨ k = 37 ∨ k = 38 ∨ k = 39 ∨ k = 40 ∨ k = 41 ∨ k = 42 ∨ k = 43 ∨ k = 44 ∨ k = 45 ∨ k = 46 ∨ k = 47 by omega) with rfl | rfl | rfl | rfl | rfl | rfl | rfl | rfl | rfl | rfl | rfl | rfl | rfl | rfl | rfl | rfl | rfl | rfl | rfl | rfl | rfl | rfl | rfl | rfl | rfl | rfl | rfl | rfl | rfl | rfl | rfl | rfl | rfl | rfl | rfl | rfl | rfl | rfl | rfl | rfl | rfl | rfl | rfl | rfl | rfl | rfl | rfl | rfl <;> (cases h; exact ⟨_, by decide, rfl⟩)
theorem M_ad (E : ET) (σ : St) (k : Nat) (q : Nat × va_E) (h : ((YM E).1 σ)[k]? = some q) : adM E q.1 := by
  have hk : k < 16 := (List.getElem?_eq_some_iff.mp h).1
  rcases (show k = 0 ∨ k = 1 ∨ k = 2 ∨ k = 3 ∨ k = 4 ∨ k = 5 ∨ k = 6 ∨ k = 7 ∨ k = 8 ∨ k = 9 ∨ k = 10 ∨ k = 11 ∨ k = 12 ∨ k = 13 ∨ k = 14 ∨ k = 15 by omega) with rfl | rfl | rfl | rfl | rfl | rfl | rfl | rfl | rfl | rfl | rfl | rfl | rfl | rfl | rfl | rfl <;> (cases h; exact ⟨_, by decide, rfl⟩)
theorem Dj_C {E : ET} {A : Nat → Prop} {σ0 : St} {pre post : va_W} (h : va_D A (pre ++ ((YC E).1 σ0 ++ post))) : Dj (YC E) := by
  intro σ
  refine ⟨fun i j x y hi hj hxy => ?_, fun k q hk => C_ad E σ k q hk⟩
  have hD := va_D_fst (ws' := pre ++ ((YC E).1 σ ++ post)) (by rw [List.map_append, List.map_append, List.map_append, List.map_append, fstC E σ σ0]) h
  have := hD.1 _ _ _ _ (app_in (pre := pre) (post := post) hi) (app_in (pre := pre) (post := post) hj) hxy
  omega
theorem Dj_M {E : ET} {A : Nat → Prop} {σ0 : St} {pre post : va_W} (h : va_D A (pre ++ ((YM E).1 σ0 ++ post))) : Dj (YM E) := by
  intro σ
  refine ⟨fun i j x y hi hj hxy => ?_, fun k q hk => M_ad E σ k q hk⟩
  have hD := va_D_fst (ws' := pre ++ ((YM E).1 σ ++ post)) (by rw [List.map_append, List.map_append, List.map_append, List.map_append, fstM E σ σ0]) h
  have := hD.1 _ _ _ _ (app_in (pre := pre) (post := post) hi) (app_in (pre := pre) (post := post) hj) hxy
  omega
