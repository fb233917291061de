abbrev XL (p : Program) (l : Launch) (e : Env) (s : State) (m : MethodId) (below : List Frame) (meth : Method) (c : Code) (b : Nat) : XT := (p, l, e, room_1, s, m, #[Value.ref b], below, meth, c, lw_Z below #[Value.ref b] s)
set_option maxRecDepth 100000 in
theorem law_0 {D : va_G} {A : Nat → Prop} {X : XT} {cI cZ cO : ClassId} {b L : Nat} {xs : Nat → Int32} (O : OkL D A X cI cZ cO b L xs) (hL : L ≤ 384) {EC EM : ET} (hEC : EC.1 = D ∧ tyE EC = tyK cI cZ cO) (hEM : EM.1 = D ∧ tyE EM = tyK cI cZ cO) (hC : Dj (YC EC)) (hM : Dj (YM EM)) {i : Nat} (hi : i + 6 ≤ L) {c m : St} (hRel : Rel c m) (kont : ∀ c1 m1 : St, Rel c1 m1 → AtK D A X 4 1203 [(0, .ref b), (1, .ref (EC.2.2.2.2 0)), (2, .ref (EM.2.2.2.2 0)), (3, .int (nI i))] [] ((YC EC).1 c1 ++ (YM EM).1 m1) 64 1126) : AtK D A X 4 184 [(0, .ref b), (1, .ref (EC.2.2.2.2 0)), (2, .ref (EM.2.2.2.2 0)), (3, .int (nI i))] [] ((YC EC).1 c ++ (YM EM).1 m) 64 1126 := by
  obtain ⟨r, c1, m1, h1, h2, hR1⟩ := sim_type (xs (i + 1)) (xs (i + 2)) hRel
  refine l_aload (pc' := 185) O dL_law_184 rfl 1 rfl rfl ?_
  refine l_aload (pc' := 186) O dL_law_185 rfl 0 rfl rfl ?_
  refine l_iload (pc' := 187) O dL_law_186 rfl 3 rfl rfl ?_
  refine l_iconst (pc' := 188) (v := 1) O dL_law_187 (by decide) rfl ?_
  refine l_iadd (pc' := 189) O dL_law_188 rfl ?_
  refine l_sld (pc' := 190) O (i + 1) (nI_add i 1) (by omega) (by omega) dL_law_189 rfl ?_
  refine l_aload (pc' := 191) O dL_law_190 rfl 0 rfl rfl ?_
  refine l_iload (pc' := 192) O dL_law_191 rfl 3 rfl rfl ?_
  refine l_iconst (pc' := 193) (v := 2) O dL_law_192 (by decide) rfl ?_
  refine l_iadd (pc' := 194) O dL_law_193 rfl ?_
  refine l_sld (pc' := 195) O (i + 2) (nI_add i 2) (by omega) (by omega) dL_law_194 rfl ?_
  refine l_call (pc' := 198) (Y := YC EC) (σ := c) (σ1 := c1) (pre := []) (post := ((YM EM).1 m)) (n := 2) (As := [.int (xs (i + 1)), .int (xs (i + 2))]) (st := []) (v := some (.int r)) (q0 := 0) O hEC.1 hEC.2 (ctX10_type hC (xs (i + 1)) (xs (i + 2)) c (r, c1) h1) (adC_in EC _) (fstC EC _ _) wm_145 wm_146 wm_147 wm_2 wm_148 (by decide +kernel) (by decide) (gC_0 EC _) hc_10 rfl rfl rfl (Nat.le_of_ble_eq_true rfl) dL_law_195 (by decide) (by decide) rfl ?_
  refine k_ws (ws' := (YC EC).1 c1 ++ ((YM EM).1 m ++ [])) (by rw [List.nil_append, List.append_nil]) ?_
  refine l_aload (pc' := 199) O dL_law_198 rfl 2 rfl rfl ?_
  refine l_aload (pc' := 200) O dL_law_199 rfl 0 rfl rfl ?_
  refine l_iload (pc' := 201) O dL_law_200 rfl 3 rfl rfl ?_
  refine l_iconst (pc' := 202) (v := 1) O dL_law_201 (by decide) rfl ?_
  refine l_iadd (pc' := 203) O dL_law_202 rfl ?_
  refine l_sld (pc' := 204) O (i + 1) (nI_add i 1) (by omega) (by omega) dL_law_203 rfl ?_
  refine l_aload (pc' := 205) O dL_law_204 rfl 0 rfl rfl ?_
  refine l_iload (pc' := 206) O dL_law_205 rfl 3 rfl rfl ?_
  refine l_iconst (pc' := 207) (v := 2) O dL_law_206 (by decide) rfl ?_
  refine l_iadd (pc' := 208) O dL_law_207 rfl ?_
  refine l_sld (pc' := 209) O (i + 2) (nI_add i 2) (by omega) (by omega) dL_law_208 rfl ?_
  refine l_call (pc' := 212) (Y := YM EM) (σ := m) (σ1 := m1) (pre := ((YC EC).1 c1)) (post := []) (n := 2) (As := [.int (xs (i + 1)), .int (xs (i + 2))]) (st := [.int r]) (v := some (.int r)) (q0 := 0) O hEM.1 hEM.2 (ctX11_type hM (xs (i + 1)) (xs (i + 2)) m (r, m1) h2) (adM_in EM _) (fstM EM _ _) wm_193 wm_194 wm_195 wm_5 wm_196 (by decide +kernel) (by decide) (gM_0 EM _) hc_11 rfl rfl rfl (Nat.le_of_ble_eq_true rfl) dL_law_209 (by decide) (by decide) rfl ?_
  refine k_ws (ws' := (YC EC).1 c1 ++ (YM EM).1 m1) (by rw [List.append_nil]) ?_
  refine l_eq (tgt := 1203) (x := r) O dL_law_212 (by decide) ?_
  exact kont c1 m1 hR1
set_option maxRecDepth 100000 in
theorem law_1 {D : va_G} {A : Nat → Prop} {X : XT} {cI cZ cO : ClassId} {b L : Nat} {xs : Nat → Int32} (O : OkL D A X cI cZ cO b L xs) (hL : L ≤ 384) {EC EM : ET} (hEC : EC.1 = D ∧ tyE EC = tyK cI cZ cO) (hEM : EM.1 = D ∧ tyE EM = tyK cI cZ cO) (hC : Dj (YC EC)) (hM : Dj (YM EM)) {i : Nat} (hi : i + 6 ≤ L) {c m : St} (hRel : Rel c m) (kont : ∀ c1 m1 : St, Rel c1 m1 → AtK D A X 4 1203 [(0, .ref b), (1, .ref (EC.2.2.2.2 0)), (2, .ref (EM.2.2.2.2 0)), (3, .int (nI i))] [] ((YC EC).1 c1 ++ (YM EM).1 m1) 64 1126) : AtK D A X 4 217 [(0, .ref b), (1, .ref (EC.2.2.2.2 0)), (2, .ref (EM.2.2.2.2 0)), (3, .int (nI i))] [] ((YC EC).1 c ++ (YM EM).1 m) 64 1126 := by
  obtain ⟨r, c1, m1, h1, h2, hR1⟩ := sim_wipe (xs (i + 1)) hRel
  refine l_aload (pc' := 218) O dL_law_217 rfl 1 rfl rfl ?_
  refine l_aload (pc' := 219) O dL_law_218 rfl 0 rfl rfl ?_
  refine l_iload (pc' := 220) O dL_law_219 rfl 3 rfl rfl ?_
  refine l_iconst (pc' := 221) (v := 1) O dL_law_220 (by decide) rfl ?_
  refine l_iadd (pc' := 222) O dL_law_221 rfl ?_
  refine l_sld (pc' := 223) O (i + 1) (nI_add i 1) (by omega) (by omega) dL_law_222 rfl ?_
  refine l_call (pc' := 226) (Y := YC EC) (σ := c) (σ1 := c1) (pre := []) (post := ((YM EM).1 m)) (n := 1) (As := [.int (xs (i + 1))]) (st := []) (v := some (.int r)) (q0 := 0) O hEC.1 hEC.2 (ctX10_wipe hC (xs (i + 1)) c (r, c1) h1) (adC_in EC _) (fstC EC _ _) wm_204 wm_205 wm_206 wm_2 wm_207 (by decide +kernel) (by decide) (gC_0 EC _) hc_10 rfl rfl rfl (Nat.le_of_ble_eq_true rfl) dL_law_223 (by decide) (by decide) rfl ?_
  refine k_ws (ws' := (YC EC).1 c1 ++ ((YM EM).1 m ++ [])) (by rw [List.nil_append, List.append_nil]) ?_
  refine l_aload (pc' := 227) O dL_law_226 rfl 2 rfl rfl ?_
  refine l_aload (pc' := 228) O dL_law_227 rfl 0 rfl rfl ?_
  refine l_iload (pc' := 229) O dL_law_228 rfl 3 rfl rfl ?_
  refine l_iconst (pc' := 230) (v := 1) O dL_law_229 (by decide) rfl ?_
  refine l_iadd (pc' := 231) O dL_law_230 rfl ?_
  refine l_sld (pc' := 232) O (i + 1) (nI_add i 1) (by omega) (by omega) dL_law_231 rfl ?_
  refine l_call (pc' := 235) (Y := YM EM) (σ := m) (σ1 := m1) (pre := ((YC EC).1 c1)) (post := []) (n := 1) (As := [.int (xs (i + 1))]) (st := [.int r]) (v := some (.int r)) (q0 := 0) O hEM.1 hEM.2 (ctX11_wipe hM (xs (i + 1)) m (r, m1) h2) (adM_in EM _) (fstM EM _ _) wm_212 wm_213 wm_214 wm_5 wm_215 (by decide +kernel) (by decide) (gM_0 EM _) hc_11 rfl rfl rfl (Nat.le_of_ble_eq_true rfl) dL_law_232 (by decide) (by decide) rfl ?_
  refine k_ws (ws' := (YC EC).1 c1 ++ (YM EM).1 m1) (by rw [List.append_nil]) ?_
  refine l_eq (tgt := 1203) (x := r) O dL_law_235 (by decide) ?_
  exact kont c1 m1 hR1
set_option maxRecDepth 100000 in
theorem law_2 {D : va_G} {A : Nat → Prop} {X : XT} {cI cZ cO : ClassId} {b L : Nat} {xs : Nat → Int32} (O : OkL D A X cI cZ cO b L xs) (hL : L ≤ 384) {EC EM : ET} (hEC : EC.1 = D ∧ tyE EC = tyK cI cZ cO) (hEM : EM.1 = D ∧ tyE EM = tyK cI cZ cO) (hC : Dj (YC EC)) (hM : Dj (YM EM)) {i : Nat} (hi : i + 6 ≤ L) {c m : St} (hRel : Rel c m) (kont : ∀ c1 m1 : St, Rel c1 m1 → AtK D A X 4 1203 [(0, .ref b), (1, .ref (EC.2.2.2.2 0)), (2, .ref (EM.2.2.2.2 0)), (3, .int (nI i))] [] ((YC EC).1 c1 ++ (YM EM).1 m1) 64 1126) : AtK D A X 4 240 [(0, .ref b), (1, .ref (EC.2.2.2.2 0)), (2, .ref (EM.2.2.2.2 0)), (3, .int (nI i))] [] ((YC EC).1 c ++ (YM EM).1 m) 64 1126 := by
  obtain ⟨r, c1, m1, h1, h2, hR1⟩ := sim_undo (xs (i + 1)) hRel
  refine l_aload (pc' := 241) O dL_law_240 rfl 1 rfl rfl ?_
  refine l_aload (pc' := 242) O dL_law_241 rfl 0 rfl rfl ?_
  refine l_iload (pc' := 243) O dL_law_242 rfl 3 rfl rfl ?_
  refine l_iconst (pc' := 244) (v := 1) O dL_law_243 (by decide) rfl ?_
  refine l_iadd (pc' := 245) O dL_law_244 rfl ?_
  refine l_sld (pc' := 246) O (i + 1) (nI_add i 1) (by omega) (by omega) dL_law_245 rfl ?_
  refine l_call (pc' := 249) (Y := YC EC) (σ := c) (σ1 := c1) (pre := []) (post := ((YM EM).1 m)) (n := 1) (As := [.int (xs (i + 1))]) (st := []) (v := some (.int r)) (q0 := 0) O hEC.1 hEC.2 (ctX10_undo hC (xs (i + 1)) c (r, c1) h1) (adC_in EC _) (fstC EC _ _) wm_216 wm_217 wm_218 wm_2 wm_219 (by decide +kernel) (by decide) (gC_0 EC _) hc_10 rfl rfl rfl (Nat.le_of_ble_eq_true rfl) dL_law_246 (by decide) (by decide) rfl ?_
  refine k_ws (ws' := (YC EC).1 c1 ++ ((YM EM).1 m ++ [])) (by rw [List.nil_append, List.append_nil]) ?_
  refine l_aload (pc' := 250) O dL_law_249 rfl 2 rfl rfl ?_
  refine l_aload (pc' := 251) O dL_law_250 rfl 0 rfl rfl ?_
  refine l_iload (pc' := 252) O dL_law_251 rfl 3 rfl rfl ?_
  refine l_iconst (pc' := 253) (v := 1) O dL_law_252 (by decide) rfl ?_
  refine l_iadd (pc' := 254) O dL_law_253 rfl ?_
  refine l_sld (pc' := 255) O (i + 1) (nI_add i 1) (by omega) (by omega) dL_law_254 rfl ?_
  refine l_call (pc' := 258) (Y := YM EM) (σ := m) (σ1 := m1) (pre := ((YC EC).1 c1)) (post := []) (n := 1) (As := [.int (xs (i + 1))]) (st := [.int r]) (v := some (.int r)) (q0 := 0) O hEM.1 hEM.2 (ctX11_undo hM (xs (i + 1)) m (r, m1) h2) (adM_in EM _) (fstM EM _ _) wm_224 wm_225 wm_226 wm_5 wm_227 (by decide +kernel) (by decide) (gM_0 EM _) hc_11 rfl rfl rfl (Nat.le_of_ble_eq_true rfl) dL_law_255 (by decide) (by decide) rfl ?_
  refine k_ws (ws' := (YC EC).1 c1 ++ (YM EM).1 m1) (by rw [List.append_nil]) ?_
  refine l_eq (tgt := 1203) (x := r) O dL_law_258 (by decide) ?_
  exact kont c1 m1 hR1
set_option maxRecDepth 100000 in
theorem law_3 {D : va_G} {A : Nat → Prop} {X : XT} {cI cZ cO : ClassId} {b L : Nat} {xs : Nat → Int32} (O : OkL D A X cI cZ cO b L xs) (hL : L ≤ 384) {EC EM : ET} (hEC : EC.1 = D ∧ tyE EC = tyK cI cZ cO) (hEM : EM.1 = D ∧ tyE EM = tyK cI cZ cO) (hC : Dj (YC EC)) (hM : Dj (YM EM)) {i : Nat} (hi : i + 6 ≤ L) {c m : St} (hRel : Rel c m) (kont : ∀ c1 m1 : St, Rel c1 m1 → AtK D A X 4 1203 [(0, .ref b), (1, .ref (EC.2.2.2.2 0)), (2, .ref (EM.2.2.2.2 0)), (3, .int (nI i))] [] ((YC EC).1 c1 ++ (YM EM).1 m1) 64 1126) : AtK D A X 4 263 [(0, .ref b), (1, .ref (EC.2.2.2.2 0)), (2, .ref (EM.2.2.2.2 0)), (3, .int (nI i))] [] ((YC EC).1 c ++ (YM EM).1 m) 64 1126 := by
  obtain ⟨r, m1, h1, h2, hR1⟩ := sim_fault (xs (i + 1)) hRel
  refine l_aload (pc' := 264) O dL_law_263 rfl 1 rfl rfl ?_
  refine l_aload (pc' := 265) O dL_law_264 rfl 0 rfl rfl ?_
  refine l_iload (pc' := 266) O dL_law_265 rfl 3 rfl rfl ?_
  refine l_iconst (pc' := 267) (v := 1) O dL_law_266 (by decide) rfl ?_
  refine l_iadd (pc' := 268) O dL_law_267 rfl ?_
  refine l_sld (pc' := 269) O (i + 1) (nI_add i 1) (by omega) (by omega) dL_law_268 rfl ?_
  refine l_call (pc' := 272) (Y := YC EC) (σ := c) (σ1 := c) (pre := []) (post := ((YM EM).1 m)) (n := 1) (As := [.int (xs (i + 1))]) (st := []) (v := some (.int r)) (q0 := 0) O hEC.1 hEC.2 (ctX10_fault hC (xs (i + 1)) c r h1) (adC_in EC _) (fstC EC _ _) wm_228 wm_229 wm_230 wm_2 wm_231 (by decide +kernel) (by decide) (gC_0 EC _) hc_10 rfl rfl rfl (Nat.le_of_ble_eq_true rfl) dL_law_269 (by decide) (by decide) rfl ?_
  refine k_ws (ws' := (YC EC).1 c ++ ((YM EM).1 m ++ [])) (by rw [List.nil_append, List.append_nil]) ?_
  refine l_aload (pc' := 273) O dL_law_272 rfl 2 rfl rfl ?_
  refine l_aload (pc' := 274) O dL_law_273 rfl 0 rfl rfl ?_
  refine l_iload (pc' := 275) O dL_law_274 rfl 3 rfl rfl ?_
  refine l_iconst (pc' := 276) (v := 1) O dL_law_275 (by decide) rfl ?_
  refine l_iadd (pc' := 277) O dL_law_276 rfl ?_
  refine l_sld (pc' := 278) O (i + 1) (nI_add i 1) (by omega) (by omega) dL_law_277 rfl ?_
  refine l_call (pc' := 281) (Y := YM EM) (σ := m) (σ1 := m1) (pre := ((YC EC).1 c)) (post := []) (n := 1) (As := [.int (xs (i + 1))]) (st := [.int r]) (v := some (.int r)) (q0 := 0) O hEM.1 hEM.2 (ctX11_fault hM (xs (i + 1)) m (r, m1) h2) (adM_in EM _) (fstM EM _ _) wm_240 wm_241 wm_242 wm_5 wm_243 (by decide +kernel) (by decide) (gM_0 EM _) hc_11 rfl rfl rfl (Nat.le_of_ble_eq_true rfl) dL_law_278 (by decide) (by decide) rfl ?_
  refine k_ws (ws' := (YC EC).1 c ++ (YM EM).1 m1) (by rw [List.append_nil]) ?_
  refine l_eq (tgt := 1203) (x := r) O dL_law_281 (by decide) ?_
  exact kont c m1 hR1
set_option maxRecDepth 100000 in
theorem law_4 {D : va_G} {A : Nat → Prop} {X : XT} {cI cZ cO : ClassId} {b L : Nat} {xs : Nat → Int32} (O : OkL D A X cI cZ cO b L xs) (hL : L ≤ 384) {EC EM : ET} (hEC : EC.1 = D ∧ tyE EC = tyK cI cZ cO) (hEM : EM.1 = D ∧ tyE EM = tyK cI cZ cO) (hC : Dj (YC EC)) (hM : Dj (YM EM)) {i : Nat} (hi : i + 6 ≤ L) {c m : St} (hRel : Rel c m) (kont : ∀ c1 m1 : St, Rel c1 m1 → AtK D A X 4 1203 [(0, .ref b), (1, .ref (EC.2.2.2.2 0)), (2, .ref (EM.2.2.2.2 0)), (3, .int (nI i))] [] ((YC EC).1 c1 ++ (YM EM).1 m1) 64 1126) : AtK D A X 4 286 [(0, .ref b), (1, .ref (EC.2.2.2.2 0)), (2, .ref (EM.2.2.2.2 0)), (3, .int (nI i))] [] ((YC EC).1 c ++ (YM EM).1 m) 64 1126 := by
  obtain ⟨r, m1, h1, h2, hR1⟩ := sim_part (xs (i + 1)) (xs (i + 2)) hRel
  refine l_aload (pc' := 287) O dL_law_286 rfl 1 rfl rfl ?_
  refine l_aload (pc' := 288) O dL_law_287 rfl 0 rfl rfl ?_
  refine l_iload (pc' := 289) O dL_law_288 rfl 3 rfl rfl ?_
  refine l_iconst (pc' := 290) (v := 1) O dL_law_289 (by decide) rfl ?_
  refine l_iadd (pc' := 291) O dL_law_290 rfl ?_
  refine l_sld (pc' := 292) O (i + 1) (nI_add i 1) (by omega) (by omega) dL_law_291 rfl ?_
  refine l_aload (pc' := 293) O dL_law_292 rfl 0 rfl rfl ?_
  refine l_iload (pc' := 294) O dL_law_293 rfl 3 rfl rfl ?_
  refine l_iconst (pc' := 295) (v := 2) O dL_law_294 (by decide) rfl ?_
  refine l_iadd (pc' := 296) O dL_law_295 rfl ?_
  refine l_sld (pc' := 297) O (i + 2) (nI_add i 2) (by omega) (by omega) dL_law_296 rfl ?_
  refine l_call (pc' := 300) (Y := YC EC) (σ := c) (σ1 := c) (pre := []) (post := ((YM EM).1 m)) (n := 2) (As := [.int (xs (i + 1)), .int (xs (i + 2))]) (st := []) (v := some (.int r)) (q0 := 0) O hEC.1 hEC.2 (ctX10_part hC (xs (i + 1)) (xs (i + 2)) c r h1) (adC_in EC _) (fstC EC _ _) wm_269 wm_270 wm_271 wm_2 wm_272 (by decide +kernel) (by decide) (gC_0 EC _) hc_10 rfl rfl rfl (Nat.le_of_ble_eq_true rfl) dL_law_297 (by decide) (by decide) rfl ?_
  refine k_ws (ws' := (YC EC).1 c ++ ((YM EM).1 m ++ [])) (by rw [List.nil_append, List.append_nil]) ?_
  refine l_aload (pc' := 301) O dL_law_300 rfl 2 rfl rfl ?_
  refine l_aload (pc' := 302) O dL_law_301 rfl 0 rfl rfl ?_
  refine l_iload (pc' := 303) O dL_law_302 rfl 3 rfl rfl ?_
  refine l_iconst (pc' := 304) (v := 1) O dL_law_303 (by decide) rfl ?_
  refine l_iadd (pc' := 305) O dL_law_304 rfl ?_
  refine l_sld (pc' := 306) O (i + 1) (nI_add i 1) (by omega) (by omega) dL_law_305 rfl ?_
  refine l_aload (pc' := 307) O dL_law_306 rfl 0 rfl rfl ?_
  refine l_iload (pc' := 308) O dL_law_307 rfl 3 rfl rfl ?_
  refine l_iconst (pc' := 309) (v := 2) O dL_law_308 (by decide) rfl ?_
  refine l_iadd (pc' := 310) O dL_law_309 rfl ?_
  refine l_sld (pc' := 311) O (i + 2) (nI_add i 2) (by omega) (by omega) dL_law_310 rfl ?_
  refine l_call (pc' := 314) (Y := YM EM) (σ := m) (σ1 := m1) (pre := ((YC EC).1 c)) (post := []) (n := 2) (As := [.int (xs (i + 1)), .int (xs (i + 2))]) (st := [.int r]) (v := some (.int r)) (q0 := 0) O hEM.1 hEM.2 (ctX11_part_ hM (xs (i + 1)) (xs (i + 2)) m (r, m1) h2) (adM_in EM _) (fstM EM _ _) wm_281 wm_282 wm_283 wm_5 wm_284 (by decide +kernel) (by decide) (gM_0 EM _) hc_11 rfl rfl rfl (Nat.le_of_ble_eq_true rfl) dL_law_311 (by decide) (by decide) rfl ?_
  refine k_ws (ws' := (YC EC).1 c ++ (YM EM).1 m1) (by rw [List.append_nil]) ?_
  refine l_eq (tgt := 1203) (x := r) O dL_law_314 (by decide) ?_
  exact kont c m1 hR1
set_option maxRecDepth 100000 in
theorem law_5 {D : va_G} {A : Nat → Prop} {X : XT} {cI cZ cO : ClassId} {b L : Nat} {xs : Nat → Int32} (O : OkL D A X cI cZ cO b L xs) (hL : L ≤ 384) {EC EM : ET} (hEC : EC.1 = D ∧ tyE EC = tyK cI cZ cO) (hEM : EM.1 = D ∧ tyE EM = tyK cI cZ cO) (hC : Dj (YC EC)) (hM : Dj (YM EM)) {i : Nat} (hi : i + 6 ≤ L) {c m : St} (hRel : Rel c m) (kont : ∀ c1 m1 : St, Rel c1 m1 → AtK D A X 4 1203 [(0, .ref b), (1, .ref (EC.2.2.2.2 0)), (2, .ref (EM.2.2.2.2 0)), (3, .int (nI i))] [] ((YC EC).1 c1 ++ (YM EM).1 m1) 64 1126) : AtK D A X 4 319 [(0, .ref b), (1, .ref (EC.2.2.2.2 0)), (2, .ref (EM.2.2.2.2 0)), (3, .int (nI i))] [] ((YC EC).1 c ++ (YM EM).1 m) 64 1126 := by
  obtain ⟨r, c1, m1, h1, h2, hR1⟩ := sim_goers (xs (i + 1)) hRel
  refine l_aload (pc' := 320) O dL_law_319 rfl 1 rfl rfl ?_
  refine l_aload (pc' := 321) O dL_law_320 rfl 0 rfl rfl ?_
  refine l_iload (pc' := 322) O dL_law_321 rfl 3 rfl rfl ?_
  refine l_iconst (pc' := 323) (v := 1) O dL_law_322 (by decide) rfl ?_
  refine l_iadd (pc' := 324) O dL_law_323 rfl ?_
  refine l_sld (pc' := 325) O (i + 1) (nI_add i 1) (by omega) (by omega) dL_law_324 rfl ?_
  refine l_call (pc' := 328) (Y := YC EC) (σ := c) (σ1 := c1) (pre := []) (post := ((YM EM).1 m)) (n := 1) (As := [.int (xs (i + 1))]) (st := []) (v := some (.int r)) (q0 := 0) O hEC.1 hEC.2 (ctX10_goers hC (xs (i + 1)) c (r, c1) h1) (adC_in EC _) (fstC EC _ _) wm_294 wm_295 wm_296 wm_2 wm_297 (by decide +kernel) (by decide) (gC_0 EC _) hc_10 rfl rfl rfl (Nat.le_of_ble_eq_true rfl) dL_law_325 (by decide) (by decide) rfl ?_
  refine k_ws (ws' := (YC EC).1 c1 ++ ((YM EM).1 m ++ [])) (by rw [List.nil_append, List.append_nil]) ?_
  refine l_aload (pc' := 329) O dL_law_328 rfl 2 rfl rfl ?_
  refine l_aload (pc' := 330) O dL_law_329 rfl 0 rfl rfl ?_
  refine l_iload (pc' := 331) O dL_law_330 rfl 3 rfl rfl ?_
  refine l_iconst (pc' := 332) (v := 1) O dL_law_331 (by decide) rfl ?_
  refine l_iadd (pc' := 333) O dL_law_332 rfl ?_
  refine l_sld (pc' := 334) O (i + 1) (nI_add i 1) (by omega) (by omega) dL_law_333 rfl ?_
  refine l_call (pc' := 337) (Y := YM EM) (σ := m) (σ1 := m1) (pre := ((YC EC).1 c1)) (post := []) (n := 1) (As := [.int (xs (i + 1))]) (st := [.int r]) (v := some (.int r)) (q0 := 0) O hEM.1 hEM.2 (ctX11_goers hM (xs (i + 1)) m (r, m1) h2) (adM_in EM _) (fstM EM _ _) wm_306 wm_307 wm_308 wm_5 wm_309 (by decide +kernel) (by decide) (gM_0 EM _) hc_11 rfl rfl rfl (Nat.le_of_ble_eq_true rfl) dL_law_334 (by decide) (by decide) rfl ?_
  refine k_ws (ws' := (YC EC).1 c1 ++ (YM EM).1 m1) (by rw [List.append_nil]) ?_
  refine l_eq (tgt := 1203) (x := r) O dL_law_337 (by decide) ?_
  exact kont c1 m1 hR1
set_option maxRecDepth 100000 in
theorem law_6 {D : va_G} {A : Nat → Prop} {X : XT} {cI cZ cO : ClassId} {b L : Nat} {xs : Nat → Int32} (O : OkL D A X cI cZ cO b L xs) (hL : L ≤ 384) {EC EM : ET} (hEC : EC.1 = D ∧ tyE EC = tyK cI cZ cO) (hEM : EM.1 = D ∧ tyE EM = tyK cI cZ cO) (hC : Dj (YC EC)) (hM : Dj (YM EM)) {i : Nat} (hi : i + 6 ≤ L) {c m : St} (hRel : Rel c m) (kont : ∀ c1 m1 : St, Rel c1 m1 → AtK D A X 4 1203 [(0, .ref b), (1, .ref (EC.2.2.2.2 0)), (2, .ref (EM.2.2.2.2 0)), (3, .int (nI i))] [] ((YC EC).1 c1 ++ (YM EM).1 m1) 64 1126) : AtK D A X 4 342 [(0, .ref b), (1, .ref (EC.2.2.2.2 0)), (2, .ref (EM.2.2.2.2 0)), (3, .int (nI i))] [] ((YC EC).1 c ++ (YM EM).1 m) 64 1126 := by
  obtain ⟨r, c1, m1, h1, h2, hR1⟩ := sim_lamp (xs (i + 1)) (xs (i + 2)) hRel
  refine l_aload (pc' := 343) O dL_law_342 rfl 1 rfl rfl ?_
  refine l_aload (pc' := 344) O dL_law_343 rfl 0 rfl rfl ?_
  refine l_iload (pc' := 345) O dL_law_344 rfl 3 rfl rfl ?_
  refine l_iconst (pc' := 346) (v := 1) O dL_law_345 (by decide) rfl ?_
  refine l_iadd (pc' := 347) O dL_law_346 rfl ?_
  refine l_sld (pc' := 348) O (i + 1) (nI_add i 1) (by omega) (by omega) dL_law_347 rfl ?_
  refine l_aload (pc' := 349) O dL_law_348 rfl 0 rfl rfl ?_
  refine l_iload (pc' := 350) O dL_law_349 rfl 3 rfl rfl ?_
  refine l_iconst (pc' := 351) (v := 2) O dL_law_350 (by decide) rfl ?_
  refine l_iadd (pc' := 352) O dL_law_351 rfl ?_
  refine l_sld (pc' := 353) O (i + 2) (nI_add i 2) (by omega) (by omega) dL_law_352 rfl ?_
  refine l_call (pc' := 356) (Y := YC EC) (σ := c) (σ1 := c1) (pre := []) (post := ((YM EM).1 m)) (n := 2) (As := [.int (xs (i + 1)), .int (xs (i + 2))]) (st := []) (v := some (.int r)) (q0 := 0) O hEC.1 hEC.2 (ctX10_lamp hC (xs (i + 1)) (xs (i + 2)) c (r, c1) h1) (adC_in EC _) (fstC EC _ _) wm_311 wm_312 wm_313 wm_2 wm_314 (by decide +kernel) (by decide) (gC_0 EC _) hc_10 rfl rfl rfl (Nat.le_of_ble_eq_true rfl) dL_law_353 (by decide) (by decide) rfl ?_
  refine k_ws (ws' := (YC EC).1 c1 ++ ((YM EM).1 m ++ [])) (by rw [List.nil_append, List.append_nil]) ?_
  refine l_aload (pc' := 357) O dL_law_356 rfl 2 rfl rfl ?_
  refine l_aload (pc' := 358) O dL_law_357 rfl 0 rfl rfl ?_
  refine l_iload (pc' := 359) O dL_law_358 rfl 3 rfl rfl ?_
  refine l_iconst (pc' := 360) (v := 1) O dL_law_359 (by decide) rfl ?_
  refine l_iadd (pc' := 361) O dL_law_360 rfl ?_
  refine l_sld (pc' := 362) O (i + 1) (nI_add i 1) (by omega) (by omega) dL_law_361 rfl ?_
  refine l_aload (pc' := 363) O dL_law_362 rfl 0 rfl rfl ?_
  refine l_iload (pc' := 364) O dL_law_363 rfl 3 rfl rfl ?_
  refine l_iconst (pc' := 365) (v := 2) O dL_law_364 (by decide) rfl ?_
  refine l_iadd (pc' := 366) O dL_law_365 rfl ?_
  refine l_sld (pc' := 367) O (i + 2) (nI_add i 2) (by omega) (by omega) dL_law_366 rfl ?_
  refine l_call (pc' := 370) (Y := YM EM) (σ := m) (σ1 := m1) (pre := ((YC EC).1 c1)) (post := []) (n := 2) (As := [.int (xs (i + 1)), .int (xs (i + 2))]) (st := [.int r]) (v := some (.int r)) (q0 := 0) O hEM.1 hEM.2 (ctX11_lamp hM (xs (i + 1)) (xs (i + 2)) m (r, m1) h2) (adM_in EM _) (fstM EM _ _) wm_323 wm_324 wm_325 wm_5 wm_326 (by decide +kernel) (by decide) (gM_0 EM _) hc_11 rfl rfl rfl (Nat.le_of_ble_eq_true rfl) dL_law_367 (by decide) (by decide) rfl ?_
  refine k_ws (ws' := (YC EC).1 c1 ++ (YM EM).1 m1) (by rw [List.append_nil]) ?_
  refine l_eq (tgt := 1203) (x := r) O dL_law_370 (by decide) ?_
  exact kont c1 m1 hR1
set_option maxRecDepth 100000 in
theorem law_7 {D : va_G} {A : Nat → Prop} {X : XT} {cI cZ cO : ClassId} {b L : Nat} {xs : Nat → Int32} (O : OkL D A X cI cZ cO b L xs) (hL : L ≤ 384) {EC EM : ET} (hEC : EC.1 = D ∧ tyE EC = tyK cI cZ cO) (hEM : EM.1 = D ∧ tyE EM = tyK cI cZ cO) (hC : Dj (YC EC)) (hM : Dj (YM EM)) {i : Nat} (hi : i + 6 ≤ L) {c m : St} (hRel : Rel c m) (kont : ∀ c1 m1 : St, Rel c1 m1 → AtK D A X 4 1203 [(0, .ref b), (1, .ref (EC.2.2.2.2 0)), (2, .ref (EM.2.2.2.2 0)), (3, .int (nI i))] [] ((YC EC).1 c1 ++ (YM EM).1 m1) 64 1126) : AtK D A X 4 375 [(0, .ref b), (1, .ref (EC.2.2.2.2 0)), (2, .ref (EM.2.2.2.2 0)), (3, .int (nI i))] [] ((YC EC).1 c ++ (YM EM).1 m) 64 1126 := by
  obtain ⟨r, c1, m1, h1, h2, hR1⟩ := sim_read (xs (i + 1)) hRel
  refine l_aload (pc' := 376) O dL_law_375 rfl 1 rfl rfl ?_
  refine l_aload (pc' := 377) O dL_law_376 rfl 0 rfl rfl ?_
  refine l_iload (pc' := 378) O dL_law_377 rfl 3 rfl rfl ?_
  refine l_iconst (pc' := 379) (v := 1) O dL_law_378 (by decide) rfl ?_
  refine l_iadd (pc' := 380) O dL_law_379 rfl ?_
  refine l_sld (pc' := 381) O (i + 1) (nI_add i 1) (by omega) (by omega) dL_law_380 rfl ?_
  refine l_call (pc' := 384) (Y := YC EC) (σ := c) (σ1 := c1) (pre := []) (post := ((YM EM).1 m)) (n := 1) (As := [.int (xs (i + 1))]) (st := []) (v := some (.int r)) (q0 := 0) O hEC.1 hEC.2 (ctX10_read hC (xs (i + 1)) c (r, c1) h1) (adC_in EC _) (fstC EC _ _) wm_328 wm_329 wm_330 wm_2 wm_331 (by decide +kernel) (by decide) (gC_0 EC _) hc_10 rfl rfl rfl (Nat.le_of_ble_eq_true rfl) dL_law_381 (by decide) (by decide) rfl ?_
  refine k_ws (ws' := (YC EC).1 c1 ++ ((YM EM).1 m ++ [])) (by rw [List.nil_append, List.append_nil]) ?_
  refine l_aload (pc' := 385) O dL_law_384 rfl 2 rfl rfl ?_
  refine l_aload (pc' := 386) O dL_law_385 rfl 0 rfl rfl ?_
  refine l_iload (pc' := 387) O dL_law_386 rfl 3 rfl rfl ?_
  refine l_iconst (pc' := 388) (v := 1) O dL_law_387 (by decide) rfl ?_
  refine l_iadd (pc' := 389) O dL_law_388 rfl ?_
  refine l_sld (pc' := 390) O (i + 1) (nI_add i 1) (by omega) (by omega) dL_law_389 rfl ?_
  refine l_call (pc' := 393) (Y := YM EM) (σ := m) (σ1 := m1) (pre := ((YC EC).1 c1)) (post := []) (n := 1) (As := [.int (xs (i + 1))]) (st := [.int r]) (v := some (.int r)) (q0 := 0) O hEM.1 hEM.2 (ctX11_read hM (xs (i + 1)) m (r, m1) h2) (adM_in EM _) (fstM EM _ _) wm_361 wm_362 wm_363 wm_5 wm_364 (by decide +kernel) (by decide) (gM_0 EM _) hc_11 rfl rfl rfl (Nat.le_of_ble_eq_true rfl) dL_law_390 (by decide) (by decide) rfl ?_
  refine k_ws (ws' := (YC EC).1 c1 ++ (YM EM).1 m1) (by rw [List.append_nil]) ?_
  refine l_eq (tgt := 1203) (x := r) O dL_law_393 (by decide) ?_
  exact kont c1 m1 hR1
set_option maxRecDepth 100000 in
theorem law_8 {D : va_G} {A : Nat → Prop} {X : XT} {cI cZ cO : ClassId} {b L : Nat} {xs : Nat → Int32} (O : OkL D A X cI cZ cO b L xs) (hL : L ≤ 384) {EC EM : ET} (hEC : EC.1 = D ∧ tyE EC = tyK cI cZ cO) (hEM : EM.1 = D ∧ tyE EM = tyK cI cZ cO) (hC : Dj (YC EC)) (hM : Dj (YM EM)) {i : Nat} (hi : i + 6 ≤ L) {c m : St} (hRel : Rel c m) (kont : ∀ c1 m1 : St, Rel c1 m1 → AtK D A X 4 1203 [(0, .ref b), (1, .ref (EC.2.2.2.2 0)), (2, .ref (EM.2.2.2.2 0)), (3, .int (nI i))] [] ((YC EC).1 c1 ++ (YM EM).1 m1) 64 1126) : AtK D A X 4 398 [(0, .ref b), (1, .ref (EC.2.2.2.2 0)), (2, .ref (EM.2.2.2.2 0)), (3, .int (nI i))] [] ((YC EC).1 c ++ (YM EM).1 m) 64 1126 := by
  obtain ⟨r, c1, m1, h1, h2, hR1⟩ := sim_far (xs (i + 1)) (xs (i + 2)) hRel
  refine l_aload (pc' := 399) O dL_law_398 rfl 1 rfl rfl ?_
  refine l_aload (pc' := 400) O dL_law_399 rfl 0 rfl rfl ?_
  refine l_iload (pc' := 401) O dL_law_400 rfl 3 rfl rfl ?_
  refine l_iconst (pc' := 402) (v := 1) O dL_law_401 (by decide) rfl ?_
  refine l_iadd (pc' := 403) O dL_law_402 rfl ?_
  refine l_sld (pc' := 404) O (i + 1) (nI_add i 1) (by omega) (by omega) dL_law_403 rfl ?_
  refine l_aload (pc' := 405) O dL_law_404 rfl 0 rfl rfl ?_
  refine l_iload (pc' := 406) O dL_law_405 rfl 3 rfl rfl ?_
  refine l_iconst (pc' := 407) (v := 2) O dL_law_406 (by decide) rfl ?_
  refine l_iadd (pc' := 408) O dL_law_407 rfl ?_
  refine l_sld (pc' := 409) O (i + 2) (nI_add i 2) (by omega) (by omega) dL_law_408 rfl ?_
  refine l_call (pc' := 412) (Y := YC EC) (σ := c) (σ1 := c1) (pre := []) (post := ((YM EM).1 m)) (n := 2) (As := [.int (xs (i + 1)), .int (xs (i + 2))]) (st := []) (v := some (.long r)) (q0 := 0) O hEC.1 hEC.2 (ctX10_far hC (xs (i + 1)) (xs (i + 2)) c (r, c1) h1) (adC_in EC _) (fstC EC _ _) wm_374 wm_375 wm_376 wm_2 wm_377 (by decide +kernel) (by decide) (gC_0 EC _) hc_10 rfl rfl rfl (Nat.le_of_ble_eq_true rfl) dL_law_409 (by decide) (by decide) rfl ?_
  refine k_ws (ws' := (YC EC).1 c1 ++ ((YM EM).1 m ++ [])) (by rw [List.nil_append, List.append_nil]) ?_
  refine l_aload (pc' := 413) O dL_law_412 rfl 2 rfl rfl ?_
  refine l_aload (pc' := 414) O dL_law_413 rfl 0 rfl rfl ?_
  refine l_iload (pc' := 415) O dL_law_414 rfl 3 rfl rfl ?_
  refine l_iconst (pc' := 416) (v := 1) O dL_law_415 (by decide) rfl ?_
  refine l_iadd (pc' := 417) O dL_law_416 rfl ?_
  refine l_sld (pc' := 418) O (i + 1) (nI_add i 1) (by omega) (by omega) dL_law_417 rfl ?_
  refine l_aload (pc' := 419) O dL_law_418 rfl 0 rfl rfl ?_
  refine l_iload (pc' := 420) O dL_law_419 rfl 3 rfl rfl ?_
  refine l_iconst (pc' := 421) (v := 2) O dL_law_420 (by decide) rfl ?_
  refine l_iadd (pc' := 422) O dL_law_421 rfl ?_
  refine l_sld (pc' := 423) O (i + 2) (nI_add i 2) (by omega) (by omega) dL_law_422 rfl ?_
  refine l_call (pc' := 426) (Y := YM EM) (σ := m) (σ1 := m1) (pre := ((YC EC).1 c1)) (post := []) (n := 2) (As := [.int (xs (i + 1)), .int (xs (i + 2))]) (st := [.long r]) (v := some (.long r)) (q0 := 0) O hEM.1 hEM.2 (ctX11_far hM (xs (i + 1)) (xs (i + 2)) m (r, m1) h2) (adM_in EM _) (fstM EM _ _) wm_414 wm_415 wm_416 wm_5 wm_417 (by decide +kernel) (by decide) (gM_0 EM _) hc_11 rfl rfl rfl (Nat.le_of_ble_eq_true rfl) dL_law_423 (by decide) (by decide) rfl ?_
  refine k_ws (ws' := (YC EC).1 c1 ++ (YM EM).1 m1) (by rw [List.append_nil]) ?_
  refine l_eql (pc1 := 427) (tgt := 1203) (x := r) O dL_law_426 rfl dL_law_427 (by decide) ?_
  exact kont c1 m1 hR1
set_option maxRecDepth 100000 in
theorem law_9 {D : va_G} {A : Nat → Prop} {X : XT} {cI cZ cO : ClassId} {b L : Nat} {xs : Nat → Int32} (O : OkL D A X cI cZ cO b L xs) (hL : L ≤ 384) {EC EM : ET} (hEC : EC.1 = D ∧ tyE EC = tyK cI cZ cO) (hEM : EM.1 = D ∧ tyE EM = tyK cI cZ cO) (hC : Dj (YC EC)) (hM : Dj (YM EM)) {i : Nat} (hi : i + 6 ≤ L) {c m : St} (hRel : Rel c m) (kont : ∀ c1 m1 : St, Rel c1 m1 → AtK D A X 4 1203 [(0, .ref b), (1, .ref (EC.2.2.2.2 0)), (2, .ref (EM.2.2.2.2 0)), (3, .int (nI i))] [] ((YC EC).1 c1 ++ (YM EM).1 m1) 64 1126) : AtK D A X 4 432 [(0, .ref b), (1, .ref (EC.2.2.2.2 0)), (2, .ref (EM.2.2.2.2 0)), (3, .int (nI i))] [] ((YC EC).1 c ++ (YM EM).1 m) 64 1126 := by
  obtain ⟨r, c1, m1, h1, h2, hR1⟩ := sim_safe (xs (i + 1)) (xs (i + 2)) hRel
  refine l_aload (pc' := 433) O dL_law_432 rfl 1 rfl rfl ?_
  refine l_aload (pc' := 434) O dL_law_433 rfl 0 rfl rfl ?_
  refine l_iload (pc' := 435) O dL_law_434 rfl 3 rfl rfl ?_
  refine l_iconst (pc' := 436) (v := 1) O dL_law_435 (by decide) rfl ?_
  refine l_iadd (pc' := 437) O dL_law_436 rfl ?_
  refine l_sld (pc' := 438) O (i + 1) (nI_add i 1) (by omega) (by omega) dL_law_437 rfl ?_
  refine l_aload (pc' := 439) O dL_law_438 rfl 0 rfl rfl ?_
  refine l_iload (pc' := 440) O dL_law_439 rfl 3 rfl rfl ?_
  refine l_iconst (pc' := 441) (v := 2) O dL_law_440 (by decide) rfl ?_
  refine l_iadd (pc' := 442) O dL_law_441 rfl ?_
  refine l_sld (pc' := 443) O (i + 2) (nI_add i 2) (by omega) (by omega) dL_law_442 rfl ?_
  refine l_call (pc' := 446) (Y := YC EC) (σ := c) (σ1 := c1) (pre := []) (post := ((YM EM).1 m)) (n := 2) (As := [.int (xs (i + 1)), .int (xs (i + 2))]) (st := []) (v := some (.long r)) (q0 := 0) O hEC.1 hEC.2 (ctX10_safe hC (xs (i + 1)) (xs (i + 2)) c (r, c1) h1) (adC_in EC _) (fstC EC _ _) wm_437 wm_438 wm_439 wm_2 wm_440 (by decide +kernel) (by decide) (gC_0 EC _) hc_10 rfl rfl rfl (Nat.le_of_ble_eq_true rfl) dL_law_443 (by decide) (by decide) rfl ?_
  refine k_ws (ws' := (YC EC).1 c1 ++ ((YM EM).1 m ++ [])) (by rw [List.nil_append, List.append_nil]) ?_
  refine l_aload (pc' := 447) O dL_law_446 rfl 2 rfl rfl ?_
  refine l_aload (pc' := 448) O dL_law_447 rfl 0 rfl rfl ?_
  refine l_iload (pc' := 449) O dL_law_448 rfl 3 rfl rfl ?_
  refine l_iconst (pc' := 450) (v := 1) O dL_law_449 (by decide) rfl ?_
  refine l_iadd (pc' := 451) O dL_law_450 rfl ?_
  refine l_sld (pc' := 452) O (i + 1) (nI_add i 1) (by omega) (by omega) dL_law_451 rfl ?_
  refine l_aload (pc' := 453) O dL_law_452 rfl 0 rfl rfl ?_
  refine l_iload (pc' := 454) O dL_law_453 rfl 3 rfl rfl ?_
  refine l_iconst (pc' := 455) (v := 2) O dL_law_454 (by decide) rfl ?_
  refine l_iadd (pc' := 456) O dL_law_455 rfl ?_
  refine l_sld (pc' := 457) O (i + 2) (nI_add i 2) (by omega) (by omega) dL_law_456 rfl ?_
  refine l_call (pc' := 460) (Y := YM EM) (σ := m) (σ1 := m1) (pre := ((YC EC).1 c1)) (post := []) (n := 2) (As := [.int (xs (i + 1)), .int (xs (i + 2))]) (st := [.long r]) (v := some (.long r)) (q0 := 0) O hEM.1 hEM.2 (ctX11_safe hM (xs (i + 1)) (xs (i + 2)) m (r, m1) h2) (adM_in EM _) (fstM EM _ _) wm_451 wm_452 wm_453 wm_5 wm_454 (by decide +kernel) (by decide) (gM_0 EM _) hc_11 rfl rfl rfl (Nat.le_of_ble_eq_true rfl) dL_law_457 (by decide) (by decide) rfl ?_
  refine k_ws (ws' := (YC EC).1 c1 ++ (YM EM).1 m1) (by rw [List.append_nil]) ?_
  refine l_eql (pc1 := 461) (tgt := 1203) (x := r) O dL_law_460 rfl dL_law_461 (by decide) ?_
  exact kont c1 m1 hR1
set_option maxRecDepth 100000 in
theorem law_10 {D : va_G} {A : Nat → Prop} {X : XT} {cI cZ cO : ClassId} {b L : Nat} {xs : Nat → Int32} (O : OkL D A X cI cZ cO b L xs) (hL : L ≤ 384) {EC EM : ET} (hEC : EC.1 = D ∧ tyE EC = tyK cI cZ cO) (hEM : EM.1 = D ∧ tyE EM = tyK cI cZ cO) (hC : Dj (YC EC)) (hM : Dj (YM EM)) {i : Nat} (hi : i + 6 ≤ L) {c m : St} (hRel : Rel c m) (kont : ∀ c1 m1 : St, Rel c1 m1 → AtK D A X 4 1203 [(0, .ref b), (1, .ref (EC.2.2.2.2 0)), (2, .ref (EM.2.2.2.2 0)), (3, .int (nI i))] [] ((YC EC).1 c1 ++ (YM EM).1 m1) 64 1126) : AtK D A X 4 466 [(0, .ref b), (1, .ref (EC.2.2.2.2 0)), (2, .ref (EM.2.2.2.2 0)), (3, .int (nI i))] [] ((YC EC).1 c ++ (YM EM).1 m) 64 1126 := by
  obtain ⟨r, c1, m1, h1, h2, hR1⟩ := sim_rule (xs (i + 1)) (xs (i + 2)) (xs (i + 3)) hRel
  refine l_aload (pc' := 467) O dL_law_466 rfl 1 rfl rfl ?_
  refine l_aload (pc' := 468) O dL_law_467 rfl 0 rfl rfl ?_
  refine l_iload (pc' := 469) O dL_law_468 rfl 3 rfl rfl ?_
  refine l_iconst (pc' := 470) (v := 1) O dL_law_469 (by decide) rfl ?_
  refine l_iadd (pc' := 471) O dL_law_470 rfl ?_
  refine l_sld (pc' := 472) O (i + 1) (nI_add i 1) (by omega) (by omega) dL_law_471 rfl ?_
  refine l_aload (pc' := 473) O dL_law_472 rfl 0 rfl rfl ?_
  refine l_iload (pc' := 474) O dL_law_473 rfl 3 rfl rfl ?_
  refine l_iconst (pc' := 475) (v := 2) O dL_law_474 (by decide) rfl ?_
  refine l_iadd (pc' := 476) O dL_law_475 rfl ?_
  refine l_sld (pc' := 477) O (i + 2) (nI_add i 2) (by omega) (by omega) dL_law_476 rfl ?_
  refine l_aload (pc' := 478) O dL_law_477 rfl 0 rfl rfl ?_
  refine l_iload (pc' := 479) O dL_law_478 rfl 3 rfl rfl ?_
  refine l_iconst (pc' := 480) (v := 3) O dL_law_479 (by decide) rfl ?_
  refine l_iadd (pc' := 481) O dL_law_480 rfl ?_
  refine l_sld (pc' := 482) O (i + 3) (nI_add i 3) (by omega) (by omega) dL_law_481 rfl ?_
  refine l_call (pc' := 485) (Y := YC EC) (σ := c) (σ1 := c1) (pre := []) (post := ((YM EM).1 m)) (n := 3) (As := [.int (xs (i + 1)), .int (xs (i + 2)), .int (xs (i + 3))]) (st := []) (v := some (.long r)) (q0 := 0) O hEC.1 hEC.2 (ctX10_rule hC (xs (i + 1)) (xs (i + 2)) (xs (i + 3)) c (r, c1) h1) (adC_in EC _) (fstC EC _ _) wm_474 wm_475 wm_476 wm_2 wm_477 (by decide +kernel) (by decide) (gC_0 EC _) hc_10 rfl rfl rfl (Nat.le_of_ble_eq_true rfl) dL_law_482 (by decide) (by decide) rfl ?_
  refine k_ws (ws' := (YC EC).1 c1 ++ ((YM EM).1 m ++ [])) (by rw [List.nil_append, List.append_nil]) ?_
  refine l_aload (pc' := 486) O dL_law_485 rfl 2 rfl rfl ?_
  refine l_aload (pc' := 487) O dL_law_486 rfl 0 rfl rfl ?_
  refine l_iload (pc' := 488) O dL_law_487 rfl 3 rfl rfl ?_
  refine l_iconst (pc' := 489) (v := 1) O dL_law_488 (by decide) rfl ?_
  refine l_iadd (pc' := 490) O dL_law_489 rfl ?_
  refine l_sld (pc' := 491) O (i + 1) (nI_add i 1) (by omega) (by omega) dL_law_490 rfl ?_
  refine l_aload (pc' := 492) O dL_law_491 rfl 0 rfl rfl ?_
  refine l_iload (pc' := 493) O dL_law_492 rfl 3 rfl rfl ?_
  refine l_iconst (pc' := 494) (v := 2) O dL_law_493 (by decide) rfl ?_
  refine l_iadd (pc' := 495) O dL_law_494 rfl ?_
  refine l_sld (pc' := 496) O (i + 2) (nI_add i 2) (by omega) (by omega) dL_law_495 rfl ?_
  refine l_aload (pc' := 497) O dL_law_496 rfl 0 rfl rfl ?_
  refine l_iload (pc' := 498) O dL_law_497 rfl 3 rfl rfl ?_
  refine l_iconst (pc' := 499) (v := 3) O dL_law_498 (by decide) rfl ?_
  refine l_iadd (pc' := 500) O dL_law_499 rfl ?_
  refine l_sld (pc' := 501) O (i + 3) (nI_add i 3) (by omega) (by omega) dL_law_500 rfl ?_
  refine l_call (pc' := 504) (Y := YM EM) (σ := m) (σ1 := m1) (pre := ((YC EC).1 c1)) (post := []) (n := 3) (As := [.int (xs (i + 1)), .int (xs (i + 2)), .int (xs (i + 3))]) (st := [.long r]) (v := some (.long r)) (q0 := 0) O hEM.1 hEM.2 (ctX11_rule hM (xs (i + 1)) (xs (i + 2)) (xs (i + 3)) m (r, m1) h2) (adM_in EM _) (fstM EM _ _) wm_483 wm_484 wm_485 wm_5 wm_486 (by decide +kernel) (by decide) (gM_0 EM _) hc_11 rfl rfl rfl (Nat.le_of_ble_eq_true rfl) dL_law_501 (by decide) (by decide) rfl ?_
  refine k_ws (ws' := (YC EC).1 c1 ++ (YM EM).1 m1) (by rw [List.append_nil]) ?_
  refine l_eql (pc1 := 505) (tgt := 1203) (x := r) O dL_law_504 rfl dL_law_505 (by decide) ?_
  exact kont c1 m1 hR1
set_option maxRecDepth 100000 in
theorem law_11 {D : va_G} {A : Nat → Prop} {X : XT} {cI cZ cO : ClassId} {b L : Nat} {xs : Nat → Int32} (O : OkL D A X cI cZ cO b L xs) (hL : L ≤ 384) {EC EM : ET} (hEC : EC.1 = D ∧ tyE EC = tyK cI cZ cO) (hEM : EM.1 = D ∧ tyE EM = tyK cI cZ cO) (hC : Dj (YC EC)) (hM : Dj (YM EM)) {i : Nat} (hi : i + 6 ≤ L) {c m : St} (hRel : Rel c m) (kont : ∀ c1 m1 : St, Rel c1 m1 → AtK D A X 4 1203 [(0, .ref b), (1, .ref (EC.2.2.2.2 0)), (2, .ref (EM.2.2.2.2 0)), (3, .int (nI i))] [] ((YC EC).1 c1 ++ (YM EM).1 m1) 64 1126) : AtK D A X 4 510 [(0, .ref b), (1, .ref (EC.2.2.2.2 0)), (2, .ref (EM.2.2.2.2 0)), (3, .int (nI i))] [] ((YC EC).1 c ++ (YM EM).1 m) 64 1126 := by
  obtain ⟨r, c1, m1, h1, h2, hR1⟩ := sim_point (xs (i + 1)) hRel
  refine l_aload (pc' := 511) O dL_law_510 rfl 1 rfl rfl ?_
  refine l_aload (pc' := 512) O dL_law_511 rfl 0 rfl rfl ?_
  refine l_iload (pc' := 513) O dL_law_512 rfl 3 rfl rfl ?_
  refine l_iconst (pc' := 514) (v := 1) O dL_law_513 (by decide) rfl ?_
  refine l_iadd (pc' := 515) O dL_law_514 rfl ?_
  refine l_sld (pc' := 516) O (i + 1) (nI_add i 1) (by omega) (by omega) dL_law_515 rfl ?_
  refine l_call (pc' := 519) (Y := YC EC) (σ := c) (σ1 := c1) (pre := []) (post := ((YM EM).1 m)) (n := 1) (As := [.int (xs (i + 1))]) (st := []) (v := some (.long r)) (q0 := 0) O hEC.1 hEC.2 (ctX10_point hC (xs (i + 1)) c (r, c1) h1) (adC_in EC _) (fstC EC _ _) wm_492 wm_493 wm_494 wm_2 wm_495 (by decide +kernel) (by decide) (gC_0 EC _) hc_10 rfl rfl rfl (Nat.le_of_ble_eq_true rfl) dL_law_516 (by decide) (by decide) rfl ?_
  refine k_ws (ws' := (YC EC).1 c1 ++ ((YM EM).1 m ++ [])) (by rw [List.nil_append, List.append_nil]) ?_
  refine l_aload (pc' := 520) O dL_law_519 rfl 2 rfl rfl ?_
  refine l_aload (pc' := 521) O dL_law_520 rfl 0 rfl rfl ?_
  refine l_iload (pc' := 522) O dL_law_521 rfl 3 rfl rfl ?_
  refine l_iconst (pc' := 523) (v := 1) O dL_law_522 (by decide) rfl ?_
  refine l_iadd (pc' := 524) O dL_law_523 rfl ?_
  refine l_sld (pc' := 525) O (i + 1) (nI_add i 1) (by omega) (by omega) dL_law_524 rfl ?_
  refine l_call (pc' := 528) (Y := YM EM) (σ := m) (σ1 := m1) (pre := ((YC EC).1 c1)) (post := []) (n := 1) (As := [.int (xs (i + 1))]) (st := [.long r]) (v := some (.long r)) (q0 := 0) O hEM.1 hEM.2 (ctX11_point hM (xs (i + 1)) m (r, m1) h2) (adM_in EM _) (fstM EM _ _) wm_504 wm_505 wm_506 wm_5 wm_507 (by decide +kernel) (by decide) (gM_0 EM _) hc_11 rfl rfl rfl (Nat.le_of_ble_eq_true rfl) dL_law_525 (by decide) (by decide) rfl ?_
  refine k_ws (ws' := (YC EC).1 c1 ++ (YM EM).1 m1) (by rw [List.append_nil]) ?_
  refine l_eql (pc1 := 529) (tgt := 1203) (x := r) O dL_law_528 rfl dL_law_529 (by decide) ?_
  exact kont c1 m1 hR1
set_option maxRecDepth 100000 in
theorem law_12 {D : va_G} {A : Nat → Prop} {X : XT} {cI cZ cO : ClassId} {b L : Nat} {xs : Nat → Int32} (O : OkL D A X cI cZ cO b L xs) (hL : L ≤ 384) {EC EM : ET} (hEC : EC.1 = D ∧ tyE EC = tyK cI cZ cO) (hEM : EM.1 = D ∧ tyE EM = tyK cI cZ cO) (hC : Dj (YC EC)) (hM : Dj (YM EM)) {i : Nat} (hi : i + 6 ≤ L) {c m : St} (hRel : Rel c m) (kont : ∀ c1 m1 : St, Rel c1 m1 → AtK D A X 4 1203 [(0, .ref b), (1, .ref (EC.2.2.2.2 0)), (2, .ref (EM.2.2.2.2 0)), (3, .int (nI i))] [] ((YC EC).1 c1 ++ (YM EM).1 m1) 64 1126) : AtK D A X 4 534 [(0, .ref b), (1, .ref (EC.2.2.2.2 0)), (2, .ref (EM.2.2.2.2 0)), (3, .int (nI i))] [] ((YC EC).1 c ++ (YM EM).1 m) 64 1126 := by
  obtain ⟨r, c1, m1, h1, h2, hR1⟩ := sim_judged hRel
  refine l_aload (pc' := 535) O dL_law_534 rfl 1 rfl rfl ?_
  refine l_call (pc' := 538) (Y := YC EC) (σ := c) (σ1 := c1) (pre := []) (post := ((YM EM).1 m)) (n := 0) (As := []) (st := []) (v := some (.int r)) (q0 := 0) O hEC.1 hEC.2 (ctX10_judged hC c (r, c1) h1) (adC_in EC _) (fstC EC _ _) wm_516 wm_517 wm_518 wm_2 wm_519 (by decide +kernel) (by decide) (gC_0 EC _) hc_10 rfl rfl rfl (Nat.le_of_ble_eq_true rfl) dL_law_535 (by decide) (by decide) rfl ?_
  refine k_ws (ws' := (YC EC).1 c1 ++ ((YM EM).1 m ++ [])) (by rw [List.nil_append, List.append_nil]) ?_
  refine l_aload (pc' := 539) O dL_law_538 rfl 2 rfl rfl ?_
  refine l_call (pc' := 542) (Y := YM EM) (σ := m) (σ1 := m1) (pre := ((YC EC).1 c1)) (post := []) (n := 0) (As := []) (st := [.int r]) (v := some (.int r)) (q0 := 0) O hEM.1 hEM.2 (ctX11_judged hM m (r, m1) h2) (adM_in EM _) (fstM EM _ _) wm_571 wm_572 wm_573 wm_5 wm_574 (by decide +kernel) (by decide) (gM_0 EM _) hc_11 rfl rfl rfl (Nat.le_of_ble_eq_true rfl) dL_law_539 (by decide) (by decide) rfl ?_
  refine k_ws (ws' := (YC EC).1 c1 ++ (YM EM).1 m1) (by rw [List.append_nil]) ?_
  refine l_eq (tgt := 1203) (x := r) O dL_law_542 (by decide) ?_
  exact kont c1 m1 hR1
set_option maxRecDepth 100000 in
theorem law_13 {D : va_G} {A : Nat → Prop} {X : XT} {cI cZ cO : ClassId} {b L : Nat} {xs : Nat → Int32} (O : OkL D A X cI cZ cO b L xs) (hL : L ≤ 384) {EC EM : ET} (hEC : EC.1 = D ∧ tyE EC = tyK cI cZ cO) (hEM : EM.1 = D ∧ tyE EM = tyK cI cZ cO) (hC : Dj (YC EC)) (hM : Dj (YM EM)) {i : Nat} (hi : i + 6 ≤ L) {c m : St} (hRel : Rel c m) (kont : ∀ c1 m1 : St, Rel c1 m1 → AtK D A X 4 1203 [(0, .ref b), (1, .ref (EC.2.2.2.2 0)), (2, .ref (EM.2.2.2.2 0)), (3, .int (nI i))] [] ((YC EC).1 c1 ++ (YM EM).1 m1) 64 1126) : AtK D A X 4 547 [(0, .ref b), (1, .ref (EC.2.2.2.2 0)), (2, .ref (EM.2.2.2.2 0)), (3, .int (nI i))] [] ((YC EC).1 c ++ (YM EM).1 m) 64 1126 := by
  obtain ⟨r, c1, m1, h1, h2, hR1⟩ := sim_state (xs (i + 1)) (xs (i + 2)) hRel
  refine l_aload (pc' := 548) O dL_law_547 rfl 1 rfl rfl ?_
  refine l_aload (pc' := 549) O dL_law_548 rfl 0 rfl rfl ?_
  refine l_iload (pc' := 550) O dL_law_549 rfl 3 rfl rfl ?_
  refine l_iconst (pc' := 551) (v := 1) O dL_law_550 (by decide) rfl ?_
  refine l_iadd (pc' := 552) O dL_law_551 rfl ?_
  refine l_sld (pc' := 553) O (i + 1) (nI_add i 1) (by omega) (by omega) dL_law_552 rfl ?_
  refine l_aload (pc' := 554) O dL_law_553 rfl 0 rfl rfl ?_
  refine l_iload (pc' := 555) O dL_law_554 rfl 3 rfl rfl ?_
  refine l_iconst (pc' := 556) (v := 2) O dL_law_555 (by decide) rfl ?_
  refine l_iadd (pc' := 557) O dL_law_556 rfl ?_
  refine l_sld (pc' := 558) O (i + 2) (nI_add i 2) (by omega) (by omega) dL_law_557 rfl ?_
  refine l_call (pc' := 561) (Y := YC EC) (σ := c) (σ1 := c1) (pre := []) (post := ((YM EM).1 m)) (n := 2) (As := [.int (xs (i + 1)), .int (xs (i + 2))]) (st := []) (v := some (.int r)) (q0 := 0) O hEC.1 hEC.2 (ctX10_state hC (xs (i + 1)) (xs (i + 2)) c (r, c1) h1) (adC_in EC _) (fstC EC _ _) wm_602 wm_603 wm_604 wm_2 wm_605 (by decide +kernel) (by decide) (gC_0 EC _) hc_10 rfl rfl rfl (Nat.le_of_ble_eq_true rfl) dL_law_558 (by decide) (by decide) rfl ?_
  refine k_ws (ws' := (YC EC).1 c1 ++ ((YM EM).1 m ++ [])) (by rw [List.nil_append, List.append_nil]) ?_
  refine l_aload (pc' := 562) O dL_law_561 rfl 2 rfl rfl ?_
  refine l_aload (pc' := 563) O dL_law_562 rfl 0 rfl rfl ?_
  refine l_iload (pc' := 564) O dL_law_563 rfl 3 rfl rfl ?_
  refine l_iconst (pc' := 565) (v := 1) O dL_law_564 (by decide) rfl ?_
  refine l_iadd (pc' := 566) O dL_law_565 rfl ?_
  refine l_sld (pc' := 567) O (i + 1) (nI_add i 1) (by omega) (by omega) dL_law_566 rfl ?_
  refine l_aload (pc' := 568) O dL_law_567 rfl 0 rfl rfl ?_
  refine l_iload (pc' := 569) O dL_law_568 rfl 3 rfl rfl ?_
  refine l_iconst (pc' := 570) (v := 2) O dL_law_569 (by decide) rfl ?_
  refine l_iadd (pc' := 571) O dL_law_570 rfl ?_
  refine l_sld (pc' := 572) O (i + 2) (nI_add i 2) (by omega) (by omega) dL_law_571 rfl ?_
  refine l_call (pc' := 575) (Y := YM EM) (σ := m) (σ1 := m1) (pre := ((YC EC).1 c1)) (post := []) (n := 2) (As := [.int (xs (i + 1)), .int (xs (i + 2))]) (st := [.int r]) (v := some (.int r)) (q0 := 0) O hEM.1 hEM.2 (ctX11_state hM (xs (i + 1)) (xs (i + 2)) m (r, m1) h2) (adM_in EM _) (fstM EM _ _) wm_614 wm_615 wm_616 wm_5 wm_617 (by decide +kernel) (by decide) (gM_0 EM _) hc_11 rfl rfl rfl (Nat.le_of_ble_eq_true rfl) dL_law_572 (by decide) (by decide) rfl ?_
  refine k_ws (ws' := (YC EC).1 c1 ++ (YM EM).1 m1) (by rw [List.append_nil]) ?_
  refine l_eq (tgt := 1203) (x := r) O dL_law_575 (by decide) ?_
  exact kont c1 m1 hR1
set_option maxRecDepth 100000 in
theorem law_14 {D : va_G} {A : Nat → Prop} {X : XT} {cI cZ cO : ClassId} {b L : Nat} {xs : Nat → Int32} (O : OkL D A X cI cZ cO b L xs) (hL : L ≤ 384) {EC EM : ET} (hEC : EC.1 = D ∧ tyE EC = tyK cI cZ cO) (hEM : EM.1 = D ∧ tyE EM = tyK cI cZ cO) (hC : Dj (YC EC)) (hM : Dj (YM EM)) {i : Nat} (hi : i + 6 ≤ L) {c m : St} (hRel : Rel c m) (kont : ∀ c1 m1 : St, Rel c1 m1 → AtK D A X 4 1203 [(0, .ref b), (1, .ref (EC.2.2.2.2 0)), (2, .ref (EM.2.2.2.2 0)), (3, .int (nI i))] [] ((YC EC).1 c1 ++ (YM EM).1 m1) 64 1126) : AtK D A X 4 580 [(0, .ref b), (1, .ref (EC.2.2.2.2 0)), (2, .ref (EM.2.2.2.2 0)), (3, .int (nI i))] [] ((YC EC).1 c ++ (YM EM).1 m) 64 1126 := by
  obtain ⟨r, c1, m1, h1, h2, hR1⟩ := sim_left (xs (i + 1)) (xs (i + 2)) hRel
  refine l_aload (pc' := 581) O dL_law_580 rfl 1 rfl rfl ?_
  refine l_aload (pc' := 582) O dL_law_581 rfl 0 rfl rfl ?_
  refine l_iload (pc' := 583) O dL_law_582 rfl 3 rfl rfl ?_
  refine l_iconst (pc' := 584) (v := 1) O dL_law_583 (by decide) rfl ?_
  refine l_iadd (pc' := 585) O dL_law_584 rfl ?_
  refine l_sld (pc' := 586) O (i + 1) (nI_add i 1) (by omega) (by omega) dL_law_585 rfl ?_
  refine l_aload (pc' := 587) O dL_law_586 rfl 0 rfl rfl ?_
  refine l_iload (pc' := 588) O dL_law_587 rfl 3 rfl rfl ?_
  refine l_iconst (pc' := 589) (v := 2) O dL_law_588 (by decide) rfl ?_
  refine l_iadd (pc' := 590) O dL_law_589 rfl ?_
  refine l_sld (pc' := 591) O (i + 2) (nI_add i 2) (by omega) (by omega) dL_law_590 rfl ?_
  refine l_call (pc' := 594) (Y := YC EC) (σ := c) (σ1 := c1) (pre := []) (post := ((YM EM).1 m)) (n := 2) (As := [.int (xs (i + 1)), .int (xs (i + 2))]) (st := []) (v := some (.int r)) (q0 := 0) O hEC.1 hEC.2 (ctX10_left hC (xs (i + 1)) (xs (i + 2)) c (r, c1) h1) (adC_in EC _) (fstC EC _ _) wm_622 wm_623 wm_624 wm_2 wm_625 (by decide +kernel) (by decide) (gC_0 EC _) hc_10 rfl rfl rfl (Nat.le_of_ble_eq_true rfl) dL_law_591 (by decide) (by decide) rfl ?_
  refine k_ws (ws' := (YC EC).1 c1 ++ ((YM EM).1 m ++ [])) (by rw [List.nil_append, List.append_nil]) ?_
  refine l_aload (pc' := 595) O dL_law_594 rfl 2 rfl rfl ?_
  refine l_aload (pc' := 596) O dL_law_595 rfl 0 rfl rfl ?_
  refine l_iload (pc' := 597) O dL_law_596 rfl 3 rfl rfl ?_
  refine l_iconst (pc' := 598) (v := 1) O dL_law_597 (by decide) rfl ?_
  refine l_iadd (pc' := 599) O dL_law_598 rfl ?_
  refine l_sld (pc' := 600) O (i + 1) (nI_add i 1) (by omega) (by omega) dL_law_599 rfl ?_
  refine l_aload (pc' := 601) O dL_law_600 rfl 0 rfl rfl ?_
  refine l_iload (pc' := 602) O dL_law_601 rfl 3 rfl rfl ?_
  refine l_iconst (pc' := 603) (v := 2) O dL_law_602 (by decide) rfl ?_
  refine l_iadd (pc' := 604) O dL_law_603 rfl ?_
  refine l_sld (pc' := 605) O (i + 2) (nI_add i 2) (by omega) (by omega) dL_law_604 rfl ?_
  refine l_call (pc' := 608) (Y := YM EM) (σ := m) (σ1 := m1) (pre := ((YC EC).1 c1)) (post := []) (n := 2) (As := [.int (xs (i + 1)), .int (xs (i + 2))]) (st := [.int r]) (v := some (.int r)) (q0 := 0) O hEM.1 hEM.2 (ctX11_left hM (xs (i + 1)) (xs (i + 2)) m (r, m1) h2) (adM_in EM _) (fstM EM _ _) wm_630 wm_631 wm_632 wm_5 wm_633 (by decide +kernel) (by decide) (gM_0 EM _) hc_11 rfl rfl rfl (Nat.le_of_ble_eq_true rfl) dL_law_605 (by decide) (by decide) rfl ?_
  refine k_ws (ws' := (YC EC).1 c1 ++ (YM EM).1 m1) (by rw [List.append_nil]) ?_
  refine l_eq (tgt := 1203) (x := r) O dL_law_608 (by decide) ?_
  exact kont c1 m1 hR1
set_option maxRecDepth 100000 in
theorem law_15 {D : va_G} {A : Nat → Prop} {X : XT} {cI cZ cO : ClassId} {b L : Nat} {xs : Nat → Int32} (O : OkL D A X cI cZ cO b L xs) (hL : L ≤ 384) {EC EM : ET} (hEC : EC.1 = D ∧ tyE EC = tyK cI cZ cO) (hEM : EM.1 = D ∧ tyE EM = tyK cI cZ cO) (hC : Dj (YC EC)) (hM : Dj (YM EM)) {i : Nat} (hi : i + 6 ≤ L) {c m : St} (hRel : Rel c m) (kont : ∀ c1 m1 : St, Rel c1 m1 → AtK D A X 4 1203 [(0, .ref b), (1, .ref (EC.2.2.2.2 0)), (2, .ref (EM.2.2.2.2 0)), (3, .int (nI i))] [] ((YC EC).1 c1 ++ (YM EM).1 m1) 64 1126) : AtK D A X 4 613 [(0, .ref b), (1, .ref (EC.2.2.2.2 0)), (2, .ref (EM.2.2.2.2 0)), (3, .int (nI i))] [] ((YC EC).1 c ++ (YM EM).1 m) 64 1126 := by
  obtain ⟨r, c1, m1, h1, h2, hR1⟩ := sim_home hRel
  refine l_aload (pc' := 614) O dL_law_613 rfl 1 rfl rfl ?_
  refine l_call (pc' := 617) (Y := YC EC) (σ := c) (σ1 := c1) (pre := []) (post := ((YM EM).1 m)) (n := 0) (As := []) (st := []) (v := some (.int r)) (q0 := 0) O hEC.1 hEC.2 (ctX10_home hC c (r, c1) h1) (adC_in EC _) (fstC EC _ _) wm_638 wm_639 wm_640 wm_2 wm_641 (by decide +kernel) (by decide) (gC_0 EC _) hc_10 rfl rfl rfl (Nat.le_of_ble_eq_true rfl) dL_law_614 (by decide) (by decide) rfl ?_
  refine k_ws (ws' := (YC EC).1 c1 ++ ((YM EM).1 m ++ [])) (by rw [List.nil_append, List.append_nil]) ?_
  refine l_aload (pc' := 618) O dL_law_617 rfl 2 rfl rfl ?_
  refine l_call (pc' := 621) (Y := YM EM) (σ := m) (σ1 := m1) (pre := ((YC EC).1 c1)) (post := []) (n := 0) (As := []) (st := [.int r]) (v := some (.int r)) (q0 := 0) O hEM.1 hEM.2 (ctX11_home hM m (r, m1) h2) (adM_in EM _) (fstM EM _ _) wm_642 wm_643 wm_644 wm_5 wm_645 (by decide +kernel) (by decide) (gM_0 EM _) hc_11 rfl rfl rfl (Nat.le_of_ble_eq_true rfl) dL_law_618 (by decide) (by decide) rfl ?_
  refine k_ws (ws' := (YC EC).1 c1 ++ (YM EM).1 m1) (by rw [List.append_nil]) ?_
  refine l_eq (tgt := 1203) (x := r) O dL_law_621 (by decide) ?_
  exact kont c1 m1 hR1
set_option maxRecDepth 100000 in
theorem law_16 {D : va_G} {A : Nat → Prop} {X : XT} {cI cZ cO : ClassId} {b L : Nat} {xs : Nat → Int32} (O : OkL D A X cI cZ cO b L xs) (hL : L ≤ 384) {EC EM : ET} (hEC : EC.1 = D ∧ tyE EC = tyK cI cZ cO) (hEM : EM.1 = D ∧ tyE EM = tyK cI cZ cO) (hC : Dj (YC EC)) (hM : Dj (YM EM)) {i : Nat} (hi : i + 6 ≤ L) {c m : St} (hRel : Rel c m) (kont : ∀ c1 m1 : St, Rel c1 m1 → AtK D A X 4 1203 [(0, .ref b), (1, .ref (EC.2.2.2.2 0)), (2, .ref (EM.2.2.2.2 0)), (3, .int (nI i))] [] ((YC EC).1 c1 ++ (YM EM).1 m1) 64 1126) : AtK D A X 4 626 [(0, .ref b), (1, .ref (EC.2.2.2.2 0)), (2, .ref (EM.2.2.2.2 0)), (3, .int (nI i))] [] ((YC EC).1 c ++ (YM EM).1 m) 64 1126 := by
  obtain ⟨r, c1, m1, h1, h2, hR1⟩ := sim_unlit (xs (i + 1)) (xs (i + 2)) (xs (i + 3)) hRel
  refine l_aload (pc' := 627) O dL_law_626 rfl 1 rfl rfl ?_
  refine l_aload (pc' := 628) O dL_law_627 rfl 0 rfl rfl ?_
  refine l_iload (pc' := 629) O dL_law_628 rfl 3 rfl rfl ?_
  refine l_iconst (pc' := 630) (v := 1) O dL_law_629 (by decide) rfl ?_
  refine l_iadd (pc' := 631) O dL_law_630 rfl ?_
  refine l_sld (pc' := 632) O (i + 1) (nI_add i 1) (by omega) (by omega) dL_law_631 rfl ?_
  refine l_aload (pc' := 633) O dL_law_632 rfl 0 rfl rfl ?_
  refine l_iload (pc' := 634) O dL_law_633 rfl 3 rfl rfl ?_
  refine l_iconst (pc' := 635) (v := 2) O dL_law_634 (by decide) rfl ?_
  refine l_iadd (pc' := 636) O dL_law_635 rfl ?_
  refine l_sld (pc' := 637) O (i + 2) (nI_add i 2) (by omega) (by omega) dL_law_636 rfl ?_
  refine l_aload (pc' := 638) O dL_law_637 rfl 0 rfl rfl ?_
  refine l_iload (pc' := 639) O dL_law_638 rfl 3 rfl rfl ?_
  refine l_iconst (pc' := 640) (v := 3) O dL_law_639 (by decide) rfl ?_
  refine l_iadd (pc' := 641) O dL_law_640 rfl ?_
  refine l_sld (pc' := 642) O (i + 3) (nI_add i 3) (by omega) (by omega) dL_law_641 rfl ?_
  refine l_call (pc' := 645) (Y := YC EC) (σ := c) (σ1 := c1) (pre := []) (post := ((YM EM).1 m)) (n := 3) (As := [.int (xs (i + 1)), .int (xs (i + 2)), .int (xs (i + 3))]) (st := []) (v := some (.int r)) (q0 := 0) O hEC.1 hEC.2 (ctX10_unlit hC (xs (i + 1)) (xs (i + 2)) (xs (i + 3)) c (r, c1) h1) (adC_in EC _) (fstC EC _ _) wm_650 wm_651 wm_652 wm_2 wm_653 (by decide +kernel) (by decide) (gC_0 EC _) hc_10 rfl rfl rfl (Nat.le_of_ble_eq_true rfl) dL_law_642 (by decide) (by decide) rfl ?_
  refine k_ws (ws' := (YC EC).1 c1 ++ ((YM EM).1 m ++ [])) (by rw [List.nil_append, List.append_nil]) ?_
  refine l_aload (pc' := 646) O dL_law_645 rfl 2 rfl rfl ?_
  refine l_aload (pc' := 647) O dL_law_646 rfl 0 rfl rfl ?_
  refine l_iload (pc' := 648) O dL_law_647 rfl 3 rfl rfl ?_
  refine l_iconst (pc' := 649) (v := 1) O dL_law_648 (by decide) rfl ?_
  refine l_iadd (pc' := 650) O dL_law_649 rfl ?_
  refine l_sld (pc' := 651) O (i + 1) (nI_add i 1) (by omega) (by omega) dL_law_650 rfl ?_
  refine l_aload (pc' := 652) O dL_law_651 rfl 0 rfl rfl ?_
  refine l_iload (pc' := 653) O dL_law_652 rfl 3 rfl rfl ?_
  refine l_iconst (pc' := 654) (v := 2) O dL_law_653 (by decide) rfl ?_
  refine l_iadd (pc' := 655) O dL_law_654 rfl ?_
  refine l_sld (pc' := 656) O (i + 2) (nI_add i 2) (by omega) (by omega) dL_law_655 rfl ?_
  refine l_aload (pc' := 657) O dL_law_656 rfl 0 rfl rfl ?_
  refine l_iload (pc' := 658) O dL_law_657 rfl 3 rfl rfl ?_
  refine l_iconst (pc' := 659) (v := 3) O dL_law_658 (by decide) rfl ?_
  refine l_iadd (pc' := 660) O dL_law_659 rfl ?_
  refine l_sld (pc' := 661) O (i + 3) (nI_add i 3) (by omega) (by omega) dL_law_660 rfl ?_
  refine l_call (pc' := 664) (Y := YM EM) (σ := m) (σ1 := m1) (pre := ((YC EC).1 c1)) (post := []) (n := 3) (As := [.int (xs (i + 1)), .int (xs (i + 2)), .int (xs (i + 3))]) (st := [.int r]) (v := some (.int r)) (q0 := 0) O hEM.1 hEM.2 (ctX11_unlit hM (xs (i + 1)) (xs (i + 2)) (xs (i + 3)) m (r, m1) h2) (adM_in EM _) (fstM EM _ _) wm_674 wm_675 wm_676 wm_5 wm_677 (by decide +kernel) (by decide) (gM_0 EM _) hc_11 rfl rfl rfl (Nat.le_of_ble_eq_true rfl) dL_law_661 (by decide) (by decide) rfl ?_
  refine k_ws (ws' := (YC EC).1 c1 ++ (YM EM).1 m1) (by rw [List.append_nil]) ?_
  refine l_eq (tgt := 1203) (x := r) O dL_law_664 (by decide) ?_
  exact kont c1 m1 hR1
set_option maxRecDepth 100000 in
theorem law_17 {D : va_G} {A : Nat → Prop} {X : XT} {cI cZ cO : ClassId} {b L : Nat} {xs : Nat → Int32} (O : OkL D A X cI cZ cO b L xs) (hL : L ≤ 384) {EC EM : ET} (hEC : EC.1 = D ∧ tyE EC = tyK cI cZ cO) (hEM : EM.1 = D ∧ tyE EM = tyK cI cZ cO) (hC : Dj (YC EC)) (hM : Dj (YM EM)) {i : Nat} (hi : i + 6 ≤ L) {c m : St} (hRel : Rel c m) (kont : ∀ c1 m1 : St, Rel c1 m1 → AtK D A X 4 1203 [(0, .ref b), (1, .ref (EC.2.2.2.2 0)), (2, .ref (EM.2.2.2.2 0)), (3, .int (nI i))] [] ((YC EC).1 c1 ++ (YM EM).1 m1) 64 1126) : AtK D A X 4 669 [(0, .ref b), (1, .ref (EC.2.2.2.2 0)), (2, .ref (EM.2.2.2.2 0)), (3, .int (nI i))] [] ((YC EC).1 c ++ (YM EM).1 m) 64 1126 := by
  obtain ⟨r, c1, h1, h2, hR1⟩ := sim_help (xs (i + 1)) (xs (i + 2)) (xs (i + 3)) hRel
  refine l_aload (pc' := 670) O dL_law_669 rfl 1 rfl rfl ?_
  refine l_aload (pc' := 671) O dL_law_670 rfl 0 rfl rfl ?_
  refine l_iload (pc' := 672) O dL_law_671 rfl 3 rfl rfl ?_
  refine l_iconst (pc' := 673) (v := 1) O dL_law_672 (by decide) rfl ?_
  refine l_iadd (pc' := 674) O dL_law_673 rfl ?_
  refine l_sld (pc' := 675) O (i + 1) (nI_add i 1) (by omega) (by omega) dL_law_674 rfl ?_
  refine l_aload (pc' := 676) O dL_law_675 rfl 0 rfl rfl ?_
  refine l_iload (pc' := 677) O dL_law_676 rfl 3 rfl rfl ?_
  refine l_iconst (pc' := 678) (v := 2) O dL_law_677 (by decide) rfl ?_
  refine l_iadd (pc' := 679) O dL_law_678 rfl ?_
  refine l_sld (pc' := 680) O (i + 2) (nI_add i 2) (by omega) (by omega) dL_law_679 rfl ?_
  refine l_aload (pc' := 681) O dL_law_680 rfl 0 rfl rfl ?_
  refine l_iload (pc' := 682) O dL_law_681 rfl 3 rfl rfl ?_
  refine l_iconst (pc' := 683) (v := 3) O dL_law_682 (by decide) rfl ?_
  refine l_iadd (pc' := 684) O dL_law_683 rfl ?_
  refine l_sld (pc' := 685) O (i + 3) (nI_add i 3) (by omega) (by omega) dL_law_684 rfl ?_
  refine l_call (pc' := 688) (Y := YC EC) (σ := c) (σ1 := c1) (pre := []) (post := ((YM EM).1 m)) (n := 3) (As := [.int (xs (i + 1)), .int (xs (i + 2)), .int (xs (i + 3))]) (st := []) (v := some (.long r)) (q0 := 0) O hEC.1 hEC.2 (ctX10_help hC (xs (i + 1)) (xs (i + 2)) (xs (i + 3)) c (r, c1) h1) (adC_in EC _) (fstC EC _ _) wm_685 wm_686 wm_687 wm_2 wm_688 (by decide +kernel) (by decide) (gC_0 EC _) hc_10 rfl rfl rfl (Nat.le_of_ble_eq_true rfl) dL_law_685 (by decide) (by decide) rfl ?_
  refine k_ws (ws' := (YC EC).1 c1 ++ ((YM EM).1 m ++ [])) (by rw [List.nil_append, List.append_nil]) ?_
  refine l_aload (pc' := 689) O dL_law_688 rfl 2 rfl rfl ?_
  refine l_aload (pc' := 690) O dL_law_689 rfl 0 rfl rfl ?_
  refine l_iload (pc' := 691) O dL_law_690 rfl 3 rfl rfl ?_
  refine l_iconst (pc' := 692) (v := 1) O dL_law_691 (by decide) rfl ?_
  refine l_iadd (pc' := 693) O dL_law_692 rfl ?_
  refine l_sld (pc' := 694) O (i + 1) (nI_add i 1) (by omega) (by omega) dL_law_693 rfl ?_
  refine l_aload (pc' := 695) O dL_law_694 rfl 0 rfl rfl ?_
  refine l_iload (pc' := 696) O dL_law_695 rfl 3 rfl rfl ?_
  refine l_iconst (pc' := 697) (v := 2) O dL_law_696 (by decide) rfl ?_
  refine l_iadd (pc' := 698) O dL_law_697 rfl ?_
  refine l_sld (pc' := 699) O (i + 2) (nI_add i 2) (by omega) (by omega) dL_law_698 rfl ?_
  refine l_aload (pc' := 700) O dL_law_699 rfl 0 rfl rfl ?_
  refine l_iload (pc' := 701) O dL_law_700 rfl 3 rfl rfl ?_
  refine l_iconst (pc' := 702) (v := 3) O dL_law_701 (by decide) rfl ?_
  refine l_iadd (pc' := 703) O dL_law_702 rfl ?_
  refine l_sld (pc' := 704) O (i + 3) (nI_add i 3) (by omega) (by omega) dL_law_703 rfl ?_
  refine l_call (pc' := 707) (Y := YM EM) (σ := m) (σ1 := m) (pre := ((YC EC).1 c1)) (post := []) (n := 3) (As := [.int (xs (i + 1)), .int (xs (i + 2)), .int (xs (i + 3))]) (st := [.long r]) (v := some (.long r)) (q0 := 0) O hEM.1 hEM.2 (ctX11_help hM (xs (i + 1)) (xs (i + 2)) (xs (i + 3)) m r h2) (adM_in EM _) (fstM EM _ _) wm_694 wm_695 wm_696 wm_5 wm_697 (by decide +kernel) (by decide) (gM_0 EM _) hc_11 rfl rfl rfl (Nat.le_of_ble_eq_true rfl) dL_law_704 (by decide) (by decide) rfl ?_
  refine k_ws (ws' := (YC EC).1 c1 ++ (YM EM).1 m) (by rw [List.append_nil]) ?_
  refine l_eql (pc1 := 708) (tgt := 1203) (x := r) O dL_law_707 rfl dL_law_708 (by decide) ?_
  exact kont c1 m hR1
set_option maxRecDepth 100000 in
theorem law_18 {D : va_G} {A : Nat → Prop} {X : XT} {cI cZ cO : ClassId} {b L : Nat} {xs : Nat → Int32} (O : OkL D A X cI cZ cO b L xs) (hL : L ≤ 384) {EC EM : ET} (hEC : EC.1 = D ∧ tyE EC = tyK cI cZ cO) (hEM : EM.1 = D ∧ tyE EM = tyK cI cZ cO) (hC : Dj (YC EC)) (hM : Dj (YM EM)) {i : Nat} (hi : i + 6 ≤ L) {c m : St} (hRel : Rel c m) (kont : ∀ c1 m1 : St, Rel c1 m1 → AtK D A X 4 1203 [(0, .ref b), (1, .ref (EC.2.2.2.2 0)), (2, .ref (EM.2.2.2.2 0)), (3, .int (nI i))] [] ((YC EC).1 c1 ++ (YM EM).1 m1) 64 1126) : AtK D A X 4 713 [(0, .ref b), (1, .ref (EC.2.2.2.2 0)), (2, .ref (EM.2.2.2.2 0)), (3, .int (nI i))] [] ((YC EC).1 c ++ (YM EM).1 m) 64 1126 := by
  obtain ⟨r, c1, h1, h2, hR1⟩ := sim_least (xs (i + 1)) (xs (i + 2)) hRel
  refine l_aload (pc' := 714) O dL_law_713 rfl 1 rfl rfl ?_
  refine l_aload (pc' := 715) O dL_law_714 rfl 0 rfl rfl ?_
  refine l_iload (pc' := 716) O dL_law_715 rfl 3 rfl rfl ?_
  refine l_iconst (pc' := 717) (v := 1) O dL_law_716 (by decide) rfl ?_
  refine l_iadd (pc' := 718) O dL_law_717 rfl ?_
  refine l_sld (pc' := 719) O (i + 1) (nI_add i 1) (by omega) (by omega) dL_law_718 rfl ?_
  refine l_aload (pc' := 720) O dL_law_719 rfl 0 rfl rfl ?_
  refine l_iload (pc' := 721) O dL_law_720 rfl 3 rfl rfl ?_
  refine l_iconst (pc' := 722) (v := 2) O dL_law_721 (by decide) rfl ?_
  refine l_iadd (pc' := 723) O dL_law_722 rfl ?_
  refine l_sld (pc' := 724) O (i + 2) (nI_add i 2) (by omega) (by omega) dL_law_723 rfl ?_
  refine l_call (pc' := 727) (Y := YC EC) (σ := c) (σ1 := c1) (pre := []) (post := ((YM EM).1 m)) (n := 2) (As := [.int (xs (i + 1)), .int (xs (i + 2))]) (st := []) (v := some (.int r)) (q0 := 0) O hEC.1 hEC.2 (ctX10_least hC (xs (i + 1)) (xs (i + 2)) c (r, c1) h1) (adC_in EC _) (fstC EC _ _) wm_699 wm_700 wm_701 wm_2 wm_702 (by decide +kernel) (by decide) (gC_0 EC _) hc_10 rfl rfl rfl (Nat.le_of_ble_eq_true rfl) dL_law_724 (by decide) (by decide) rfl ?_
  refine k_ws (ws' := (YC EC).1 c1 ++ ((YM EM).1 m ++ [])) (by rw [List.nil_append, List.append_nil]) ?_
  refine l_aload (pc' := 728) O dL_law_727 rfl 2 rfl rfl ?_
  refine l_aload (pc' := 729) O dL_law_728 rfl 0 rfl rfl ?_
  refine l_iload (pc' := 730) O dL_law_729 rfl 3 rfl rfl ?_
  refine l_iconst (pc' := 731) (v := 1) O dL_law_730 (by decide) rfl ?_
  refine l_iadd (pc' := 732) O dL_law_731 rfl ?_
  refine l_sld (pc' := 733) O (i + 1) (nI_add i 1) (by omega) (by omega) dL_law_732 rfl ?_
  refine l_aload (pc' := 734) O dL_law_733 rfl 0 rfl rfl ?_
  refine l_iload (pc' := 735) O dL_law_734 rfl 3 rfl rfl ?_
  refine l_iconst (pc' := 736) (v := 2) O dL_law_735 (by decide) rfl ?_
  refine l_iadd (pc' := 737) O dL_law_736 rfl ?_
  refine l_sld (pc' := 738) O (i + 2) (nI_add i 2) (by omega) (by omega) dL_law_737 rfl ?_
  refine l_call (pc' := 741) (Y := YM EM) (σ := m) (σ1 := m) (pre := ((YC EC).1 c1)) (post := []) (n := 2) (As := [.int (xs (i + 1)), .int (xs (i + 2))]) (st := [.int r]) (v := some (.int r)) (q0 := 0) O hEM.1 hEM.2 (ctX11_least hM (xs (i + 1)) (xs (i + 2)) m r h2) (adM_in EM _) (fstM EM _ _) wm_703 wm_704 wm_705 wm_5 wm_706 (by decide +kernel) (by decide) (gM_0 EM _) hc_11 rfl rfl rfl (Nat.le_of_ble_eq_true rfl) dL_law_738 (by decide) (by decide) rfl ?_
  refine k_ws (ws' := (YC EC).1 c1 ++ (YM EM).1 m) (by rw [List.append_nil]) ?_
  refine l_eq (tgt := 1203) (x := r) O dL_law_741 (by decide) ?_
  exact kont c1 m hR1
set_option maxRecDepth 100000 in
theorem law_19 {D : va_G} {A : Nat → Prop} {X : XT} {cI cZ cO : ClassId} {b L : Nat} {xs : Nat → Int32} (O : OkL D A X cI cZ cO b L xs) (hL : L ≤ 384) {EC EM : ET} (hEC : EC.1 = D ∧ tyE EC = tyK cI cZ cO) (hEM : EM.1 = D ∧ tyE EM = tyK cI cZ cO) (hC : Dj (YC EC)) (hM : Dj (YM EM)) {i : Nat} (hi : i + 6 ≤ L) {c m : St} (hRel : Rel c m) (kont : ∀ c1 m1 : St, Rel c1 m1 → AtK D A X 4 1203 [(0, .ref b), (1, .ref (EC.2.2.2.2 0)), (2, .ref (EM.2.2.2.2 0)), (3, .int (nI i))] [] ((YC EC).1 c1 ++ (YM EM).1 m1) 64 1126) : AtK D A X 4 746 [(0, .ref b), (1, .ref (EC.2.2.2.2 0)), (2, .ref (EM.2.2.2.2 0)), (3, .int (nI i))] [] ((YC EC).1 c ++ (YM EM).1 m) 64 1126 := by
  obtain ⟨r, c1, m1, h1, h2, hR1⟩ := sim_side (xs (i + 1)) (xs (i + 2)) hRel
  refine l_aload (pc' := 747) O dL_law_746 rfl 1 rfl rfl ?_
  refine l_aload (pc' := 748) O dL_law_747 rfl 0 rfl rfl ?_
  refine l_iload (pc' := 749) O dL_law_748 rfl 3 rfl rfl ?_
  refine l_iconst (pc' := 750) (v := 1) O dL_law_749 (by decide) rfl ?_
  refine l_iadd (pc' := 751) O dL_law_750 rfl ?_
  refine l_sld (pc' := 752) O (i + 1) (nI_add i 1) (by omega) (by omega) dL_law_751 rfl ?_
  refine l_aload (pc' := 753) O dL_law_752 rfl 0 rfl rfl ?_
  refine l_iload (pc' := 754) O dL_law_753 rfl 3 rfl rfl ?_
  refine l_iconst (pc' := 755) (v := 2) O dL_law_754 (by decide) rfl ?_
  refine l_iadd (pc' := 756) O dL_law_755 rfl ?_
  refine l_sld (pc' := 757) O (i + 2) (nI_add i 2) (by omega) (by omega) dL_law_756 rfl ?_
  refine l_call (pc' := 760) (Y := YC EC) (σ := c) (σ1 := c1) (pre := []) (post := ((YM EM).1 m)) (n := 2) (As := [.int (xs (i + 1)), .int (xs (i + 2))]) (st := []) (v := some (.int r)) (q0 := 0) O hEC.1 hEC.2 (ctX10_side hC (xs (i + 1)) (xs (i + 2)) c (r, c1) h1) (adC_in EC _) (fstC EC _ _) wm_710 wm_711 wm_712 wm_2 wm_713 (by decide +kernel) (by decide) (gC_0 EC _) hc_10 rfl rfl rfl (Nat.le_of_ble_eq_true rfl) dL_law_757 (by decide) (by decide) rfl ?_
  refine k_ws (ws' := (YC EC).1 c1 ++ ((YM EM).1 m ++ [])) (by rw [List.nil_append, List.append_nil]) ?_
  refine l_aload (pc' := 761) O dL_law_760 rfl 2 rfl rfl ?_
  refine l_aload (pc' := 762) O dL_law_761 rfl 0 rfl rfl ?_
  refine l_iload (pc' := 763) O dL_law_762 rfl 3 rfl rfl ?_
  refine l_iconst (pc' := 764) (v := 1) O dL_law_763 (by decide) rfl ?_
  refine l_iadd (pc' := 765) O dL_law_764 rfl ?_
  refine l_sld (pc' := 766) O (i + 1) (nI_add i 1) (by omega) (by omega) dL_law_765 rfl ?_
  refine l_aload (pc' := 767) O dL_law_766 rfl 0 rfl rfl ?_
  refine l_iload (pc' := 768) O dL_law_767 rfl 3 rfl rfl ?_
  refine l_iconst (pc' := 769) (v := 2) O dL_law_768 (by decide) rfl ?_
  refine l_iadd (pc' := 770) O dL_law_769 rfl ?_
  refine l_sld (pc' := 771) O (i + 2) (nI_add i 2) (by omega) (by omega) dL_law_770 rfl ?_
  refine l_call (pc' := 774) (Y := YM EM) (σ := m) (σ1 := m1) (pre := ((YC EC).1 c1)) (post := []) (n := 2) (As := [.int (xs (i + 1)), .int (xs (i + 2))]) (st := [.int r]) (v := some (.int r)) (q0 := 0) O hEM.1 hEM.2 (ctX11_side hM (xs (i + 1)) (xs (i + 2)) m (r, m1) h2) (adM_in EM _) (fstM EM _ _) wm_734 wm_735 wm_736 wm_5 wm_737 (by decide +kernel) (by decide) (gM_0 EM _) hc_11 rfl rfl rfl (Nat.le_of_ble_eq_true rfl) dL_law_771 (by decide) (by decide) rfl ?_
  refine k_ws (ws' := (YC EC).1 c1 ++ (YM EM).1 m1) (by rw [List.append_nil]) ?_
  refine l_eq (tgt := 1203) (x := r) O dL_law_774 (by decide) ?_
  exact kont c1 m1 hR1
set_option maxRecDepth 100000 in
theorem law_20 {D : va_G} {A : Nat → Prop} {X : XT} {cI cZ cO : ClassId} {b L : Nat} {xs : Nat → Int32} (O : OkL D A X cI cZ cO b L xs) (hL : L ≤ 384) {EC EM : ET} (hEC : EC.1 = D ∧ tyE EC = tyK cI cZ cO) (hEM : EM.1 = D ∧ tyE EM = tyK cI cZ cO) (hC : Dj (YC EC)) (hM : Dj (YM EM)) {i : Nat} (hi : i + 6 ≤ L) {c m : St} (hRel : Rel c m) (kont : ∀ c1 m1 : St, Rel c1 m1 → AtK D A X 4 1203 [(0, .ref b), (1, .ref (EC.2.2.2.2 0)), (2, .ref (EM.2.2.2.2 0)), (3, .int (nI i))] [] ((YC EC).1 c1 ++ (YM EM).1 m1) 64 1126) : AtK D A X 4 779 [(0, .ref b), (1, .ref (EC.2.2.2.2 0)), (2, .ref (EM.2.2.2.2 0)), (3, .int (nI i))] [] ((YC EC).1 c ++ (YM EM).1 m) 64 1126 := by
  obtain ⟨r, c1, m1, h1, h2, hR1⟩ := sim_gone hRel
  refine l_aload (pc' := 780) O dL_law_779 rfl 1 rfl rfl ?_
  refine l_call (pc' := 783) (Y := YC EC) (σ := c) (σ1 := c1) (pre := []) (post := ((YM EM).1 m)) (n := 0) (As := []) (st := []) (v := some (.int r)) (q0 := 0) O hEC.1 hEC.2 (ctX10_gone hC c (r, c1) h1) (adC_in EC _) (fstC EC _ _) wm_745 wm_746 wm_747 wm_2 wm_748 (by decide +kernel) (by decide) (gC_0 EC _) hc_10 rfl rfl rfl (Nat.le_of_ble_eq_true rfl) dL_law_780 (by decide) (by decide) rfl ?_
  refine k_ws (ws' := (YC EC).1 c1 ++ ((YM EM).1 m ++ [])) (by rw [List.nil_append, List.append_nil]) ?_
  refine l_aload (pc' := 784) O dL_law_783 rfl 2 rfl rfl ?_
  refine l_call (pc' := 787) (Y := YM EM) (σ := m) (σ1 := m1) (pre := ((YC EC).1 c1)) (post := []) (n := 0) (As := []) (st := [.int r]) (v := some (.int r)) (q0 := 0) O hEM.1 hEM.2 (ctX11_gone hM m (r, m1) h2) (adM_in EM _) (fstM EM _ _) wm_753 wm_754 wm_755 wm_5 wm_756 (by decide +kernel) (by decide) (gM_0 EM _) hc_11 rfl rfl rfl (Nat.le_of_ble_eq_true rfl) dL_law_784 (by decide) (by decide) rfl ?_
  refine k_ws (ws' := (YC EC).1 c1 ++ (YM EM).1 m1) (by rw [List.append_nil]) ?_
  refine l_eq (tgt := 1203) (x := r) O dL_law_787 (by decide) ?_
  exact kont c1 m1 hR1
set_option maxRecDepth 100000 in
theorem law_21 {D : va_G} {A : Nat → Prop} {X : XT} {cI cZ cO : ClassId} {b L : Nat} {xs : Nat → Int32} (O : OkL D A X cI cZ cO b L xs) (hL : L ≤ 384) {EC EM : ET} (hEC : EC.1 = D ∧ tyE EC = tyK cI cZ cO) (hEM : EM.1 = D ∧ tyE EM = tyK cI cZ cO) (hC : Dj (YC EC)) (hM : Dj (YM EM)) {i : Nat} (hi : i + 6 ≤ L) {c m : St} (hRel : Rel c m) (kont : ∀ c1 m1 : St, Rel c1 m1 → AtK D A X 4 1203 [(0, .ref b), (1, .ref (EC.2.2.2.2 0)), (2, .ref (EM.2.2.2.2 0)), (3, .int (nI i))] [] ((YC EC).1 c1 ++ (YM EM).1 m1) 64 1126) : AtK D A X 4 792 [(0, .ref b), (1, .ref (EC.2.2.2.2 0)), (2, .ref (EM.2.2.2.2 0)), (3, .int (nI i))] [] ((YC EC).1 c ++ (YM EM).1 m) 64 1126 := by
  obtain ⟨r, m1, h1, h2, hR1⟩ := sim_first (xs (i + 1)) hRel
  refine l_aload (pc' := 793) O dL_law_792 rfl 1 rfl rfl ?_
  refine l_aload (pc' := 794) O dL_law_793 rfl 0 rfl rfl ?_
  refine l_iload (pc' := 795) O dL_law_794 rfl 3 rfl rfl ?_
  refine l_iconst (pc' := 796) (v := 1) O dL_law_795 (by decide) rfl ?_
  refine l_iadd (pc' := 797) O dL_law_796 rfl ?_
  refine l_sld (pc' := 798) O (i + 1) (nI_add i 1) (by omega) (by omega) dL_law_797 rfl ?_
  refine l_call (pc' := 801) (Y := YC EC) (σ := c) (σ1 := c) (pre := []) (post := ((YM EM).1 m)) (n := 1) (As := [.int (xs (i + 1))]) (st := []) (v := some (.int r)) (q0 := 0) O hEC.1 hEC.2 (ctX10_first hC (xs (i + 1)) c r h1) (adC_in EC _) (fstC EC _ _) wm_757 wm_758 wm_759 wm_2 wm_760 (by decide +kernel) (by decide) (gC_0 EC _) hc_10 rfl rfl rfl (Nat.le_of_ble_eq_true rfl) dL_law_798 (by decide) (by decide) rfl ?_
  refine k_ws (ws' := (YC EC).1 c ++ ((YM EM).1 m ++ [])) (by rw [List.nil_append, List.append_nil]) ?_
  refine l_aload (pc' := 802) O dL_law_801 rfl 2 rfl rfl ?_
  refine l_aload (pc' := 803) O dL_law_802 rfl 0 rfl rfl ?_
  refine l_iload (pc' := 804) O dL_law_803 rfl 3 rfl rfl ?_
  refine l_iconst (pc' := 805) (v := 1) O dL_law_804 (by decide) rfl ?_
  refine l_iadd (pc' := 806) O dL_law_805 rfl ?_
  refine l_sld (pc' := 807) O (i + 1) (nI_add i 1) (by omega) (by omega) dL_law_806 rfl ?_
  refine l_call (pc' := 810) (Y := YM EM) (σ := m) (σ1 := m1) (pre := ((YC EC).1 c)) (post := []) (n := 1) (As := [.int (xs (i + 1))]) (st := [.int r]) (v := some (.int r)) (q0 := 0) O hEM.1 hEM.2 (ctX11_first hM (xs (i + 1)) m (r, m1) h2) (adM_in EM _) (fstM EM _ _) wm_765 wm_766 wm_767 wm_5 wm_768 (by decide +kernel) (by decide) (gM_0 EM _) hc_11 rfl rfl rfl (Nat.le_of_ble_eq_true rfl) dL_law_807 (by decide) (by decide) rfl ?_
  refine k_ws (ws' := (YC EC).1 c ++ (YM EM).1 m1) (by rw [List.append_nil]) ?_
  refine l_eq (tgt := 1203) (x := r) O dL_law_810 (by decide) ?_
  exact kont c m1 hR1
set_option maxRecDepth 100000 in
theorem law_22 {D : va_G} {A : Nat → Prop} {X : XT} {cI cZ cO : ClassId} {b L : Nat} {xs : Nat → Int32} (O : OkL D A X cI cZ cO b L xs) (hL : L ≤ 384) {EC EM : ET} (hEC : EC.1 = D ∧ tyE EC = tyK cI cZ cO) (hEM : EM.1 = D ∧ tyE EM = tyK cI cZ cO) (hC : Dj (YC EC)) (hM : Dj (YM EM)) {i : Nat} (hi : i + 6 ≤ L) {c m : St} (hRel : Rel c m) (kont : ∀ c1 m1 : St, Rel c1 m1 → AtK D A X 4 1203 [(0, .ref b), (1, .ref (EC.2.2.2.2 0)), (2, .ref (EM.2.2.2.2 0)), (3, .int (nI i))] [] ((YC EC).1 c1 ++ (YM EM).1 m1) 64 1126) : AtK D A X 4 815 [(0, .ref b), (1, .ref (EC.2.2.2.2 0)), (2, .ref (EM.2.2.2.2 0)), (3, .int (nI i))] [] ((YC EC).1 c ++ (YM EM).1 m) 64 1126 := by
  obtain ⟨r, c1, m1, h1, h2, hR1⟩ := sim_mean (xs (i + 1)) hRel
  refine l_aload (pc' := 816) O dL_law_815 rfl 1 rfl rfl ?_
  refine l_aload (pc' := 817) O dL_law_816 rfl 0 rfl rfl ?_
  refine l_iload (pc' := 818) O dL_law_817 rfl 3 rfl rfl ?_
  refine l_iconst (pc' := 819) (v := 1) O dL_law_818 (by decide) rfl ?_
  refine l_iadd (pc' := 820) O dL_law_819 rfl ?_
  refine l_sld (pc' := 821) O (i + 1) (nI_add i 1) (by omega) (by omega) dL_law_820 rfl ?_
  refine l_call (pc' := 824) (Y := YC EC) (σ := c) (σ1 := c1) (pre := []) (post := ((YM EM).1 m)) (n := 1) (As := [.int (xs (i + 1))]) (st := []) (v := some (.long r)) (q0 := 0) O hEC.1 hEC.2 (ctX10_mean hC (xs (i + 1)) c (r, c1) h1) (adC_in EC _) (fstC EC _ _) wm_778 wm_779 wm_780 wm_2 wm_781 (by decide +kernel) (by decide) (gC_0 EC _) hc_10 rfl rfl rfl (Nat.le_of_ble_eq_true rfl) dL_law_821 (by decide) (by decide) rfl ?_
  refine k_ws (ws' := (YC EC).1 c1 ++ ((YM EM).1 m ++ [])) (by rw [List.nil_append, List.append_nil]) ?_
  refine l_aload (pc' := 825) O dL_law_824 rfl 2 rfl rfl ?_
  refine l_aload (pc' := 826) O dL_law_825 rfl 0 rfl rfl ?_
  refine l_iload (pc' := 827) O dL_law_826 rfl 3 rfl rfl ?_
  refine l_iconst (pc' := 828) (v := 1) O dL_law_827 (by decide) rfl ?_
  refine l_iadd (pc' := 829) O dL_law_828 rfl ?_
  refine l_sld (pc' := 830) O (i + 1) (nI_add i 1) (by omega) (by omega) dL_law_829 rfl ?_
  refine l_call (pc' := 833) (Y := YM EM) (σ := m) (σ1 := m1) (pre := ((YC EC).1 c1)) (post := []) (n := 1) (As := [.int (xs (i + 1))]) (st := [.long r]) (v := some (.long r)) (q0 := 0) O hEM.1 hEM.2 (ctX11_mean hM (xs (i + 1)) m (r, m1) h2) (adM_in EM _) (fstM EM _ _) wm_787 wm_788 wm_789 wm_5 wm_790 (by decide +kernel) (by decide) (gM_0 EM _) hc_11 rfl rfl rfl (Nat.le_of_ble_eq_true rfl) dL_law_830 (by decide) (by decide) rfl ?_
  refine k_ws (ws' := (YC EC).1 c1 ++ (YM EM).1 m1) (by rw [List.append_nil]) ?_
  refine l_eql (pc1 := 834) (tgt := 1203) (x := r) O dL_law_833 rfl dL_law_834 (by decide) ?_
  exact kont c1 m1 hR1
set_option maxRecDepth 100000 in
theorem law_23 {D : va_G} {A : Nat → Prop} {X : XT} {cI cZ cO : ClassId} {b L : Nat} {xs : Nat → Int32} (O : OkL D A X cI cZ cO b L xs) (hL : L ≤ 384) {EC EM : ET} (hEC : EC.1 = D ∧ tyE EC = tyK cI cZ cO) (hEM : EM.1 = D ∧ tyE EM = tyK cI cZ cO) (hC : Dj (YC EC)) (hM : Dj (YM EM)) {i : Nat} (hi : i + 6 ≤ L) {c m : St} (hRel : Rel c m) (kont : ∀ c1 m1 : St, Rel c1 m1 → AtK D A X 4 1203 [(0, .ref b), (1, .ref (EC.2.2.2.2 0)), (2, .ref (EM.2.2.2.2 0)), (3, .int (nI i))] [] ((YC EC).1 c1 ++ (YM EM).1 m1) 64 1126) : AtK D A X 4 839 [(0, .ref b), (1, .ref (EC.2.2.2.2 0)), (2, .ref (EM.2.2.2.2 0)), (3, .int (nI i))] [] ((YC EC).1 c ++ (YM EM).1 m) 64 1126 := by
  obtain ⟨r, c1, m1, h1, h2, hR1⟩ := sim_can (xs (i + 1)) (xs (i + 2)) (xs (i + 3)) (xs (i + 4)) hRel
  refine l_aload (pc' := 840) O dL_law_839 rfl 1 rfl rfl ?_
  refine l_aload (pc' := 841) O dL_law_840 rfl 0 rfl rfl ?_
  refine l_iload (pc' := 842) O dL_law_841 rfl 3 rfl rfl ?_
  refine l_iconst (pc' := 843) (v := 1) O dL_law_842 (by decide) rfl ?_
  refine l_iadd (pc' := 844) O dL_law_843 rfl ?_
  refine l_sld (pc' := 845) O (i + 1) (nI_add i 1) (by omega) (by omega) dL_law_844 rfl ?_
  refine l_aload (pc' := 846) O dL_law_845 rfl 0 rfl rfl ?_
  refine l_iload (pc' := 847) O dL_law_846 rfl 3 rfl rfl ?_
  refine l_iconst (pc' := 848) (v := 2) O dL_law_847 (by decide) rfl ?_
  refine l_iadd (pc' := 849) O dL_law_848 rfl ?_
  refine l_sld (pc' := 850) O (i + 2) (nI_add i 2) (by omega) (by omega) dL_law_849 rfl ?_
  refine l_aload (pc' := 851) O dL_law_850 rfl 0 rfl rfl ?_
  refine l_iload (pc' := 852) O dL_law_851 rfl 3 rfl rfl ?_
  refine l_iconst (pc' := 853) (v := 3) O dL_law_852 (by decide) rfl ?_
  refine l_iadd (pc' := 854) O dL_law_853 rfl ?_
  refine l_sld (pc' := 855) O (i + 3) (nI_add i 3) (by omega) (by omega) dL_law_854 rfl ?_
  refine l_aload (pc' := 856) O dL_law_855 rfl 0 rfl rfl ?_
  refine l_iload (pc' := 857) O dL_law_856 rfl 3 rfl rfl ?_
  refine l_iconst (pc' := 858) (v := 4) O dL_law_857 (by decide) rfl ?_
  refine l_iadd (pc' := 859) O dL_law_858 rfl ?_
  refine l_sld (pc' := 860) O (i + 4) (nI_add i 4) (by omega) (by omega) dL_law_859 rfl ?_
  refine l_call (pc' := 863) (Y := YC EC) (σ := c) (σ1 := c1) (pre := []) (post := ((YM EM).1 m)) (n := 4) (As := [.int (xs (i + 1)), .int (xs (i + 2)), .int (xs (i + 3)), .int (xs (i + 4))]) (st := []) (v := some (.int r)) (q0 := 0) O hEC.1 hEC.2 (ctX10_can hC (xs (i + 1)) (xs (i + 2)) (xs (i + 3)) (xs (i + 4)) c (r, c1) h1) (adC_in EC _) (fstC EC _ _) wm_795 wm_796 wm_797 wm_2 wm_798 (by decide +kernel) (by decide) (gC_0 EC _) hc_10 rfl rfl rfl (Nat.le_of_ble_eq_true rfl) dL_law_860 (by decide) (by decide) rfl ?_
  refine k_ws (ws' := (YC EC).1 c1 ++ ((YM EM).1 m ++ [])) (by rw [List.nil_append, List.append_nil]) ?_
  refine l_aload (pc' := 864) O dL_law_863 rfl 2 rfl rfl ?_
  refine l_aload (pc' := 865) O dL_law_864 rfl 0 rfl rfl ?_
  refine l_iload (pc' := 866) O dL_law_865 rfl 3 rfl rfl ?_
  refine l_iconst (pc' := 867) (v := 1) O dL_law_866 (by decide) rfl ?_
  refine l_iadd (pc' := 868) O dL_law_867 rfl ?_
  refine l_sld (pc' := 869) O (i + 1) (nI_add i 1) (by omega) (by omega) dL_law_868 rfl ?_
  refine l_aload (pc' := 870) O dL_law_869 rfl 0 rfl rfl ?_
  refine l_iload (pc' := 871) O dL_law_870 rfl 3 rfl rfl ?_
  refine l_iconst (pc' := 872) (v := 2) O dL_law_871 (by decide) rfl ?_
  refine l_iadd (pc' := 873) O dL_law_872 rfl ?_
  refine l_sld (pc' := 874) O (i + 2) (nI_add i 2) (by omega) (by omega) dL_law_873 rfl ?_
  refine l_aload (pc' := 875) O dL_law_874 rfl 0 rfl rfl ?_
  refine l_iload (pc' := 876) O dL_law_875 rfl 3 rfl rfl ?_
  refine l_iconst (pc' := 877) (v := 3) O dL_law_876 (by decide) rfl ?_
  refine l_iadd (pc' := 878) O dL_law_877 rfl ?_
  refine l_sld (pc' := 879) O (i + 3) (nI_add i 3) (by omega) (by omega) dL_law_878 rfl ?_
  refine l_aload (pc' := 880) O dL_law_879 rfl 0 rfl rfl ?_
  refine l_iload (pc' := 881) O dL_law_880 rfl 3 rfl rfl ?_
  refine l_iconst (pc' := 882) (v := 4) O dL_law_881 (by decide) rfl ?_
  refine l_iadd (pc' := 883) O dL_law_882 rfl ?_
  refine l_sld (pc' := 884) O (i + 4) (nI_add i 4) (by omega) (by omega) dL_law_883 rfl ?_
  refine l_call (pc' := 887) (Y := YM EM) (σ := m) (σ1 := m1) (pre := ((YC EC).1 c1)) (post := []) (n := 4) (As := [.int (xs (i + 1)), .int (xs (i + 2)), .int (xs (i + 3)), .int (xs (i + 4))]) (st := [.int r]) (v := some (.int r)) (q0 := 0) O hEM.1 hEM.2 (ctX11_can hM (xs (i + 1)) (xs (i + 2)) (xs (i + 3)) (xs (i + 4)) m (r, m1) h2) (adM_in EM _) (fstM EM _ _) wm_807 wm_808 wm_809 wm_5 wm_810 (by decide +kernel) (by decide) (gM_0 EM _) hc_11 rfl rfl rfl (Nat.le_of_ble_eq_true rfl) dL_law_884 (by decide) (by decide) rfl ?_
  refine k_ws (ws' := (YC EC).1 c1 ++ (YM EM).1 m1) (by rw [List.append_nil]) ?_
  refine l_eq (tgt := 1203) (x := r) O dL_law_887 (by decide) ?_
  exact kont c1 m1 hR1
set_option maxRecDepth 100000 in
theorem law_24 {D : va_G} {A : Nat → Prop} {X : XT} {cI cZ cO : ClassId} {b L : Nat} {xs : Nat → Int32} (O : OkL D A X cI cZ cO b L xs) (hL : L ≤ 384) {EC EM : ET} (hEC : EC.1 = D ∧ tyE EC = tyK cI cZ cO) (hEM : EM.1 = D ∧ tyE EM = tyK cI cZ cO) (hC : Dj (YC EC)) (hM : Dj (YM EM)) {i : Nat} (hi : i + 6 ≤ L) {c m : St} (hRel : Rel c m) (kont : ∀ c1 m1 : St, Rel c1 m1 → AtK D A X 4 1203 [(0, .ref b), (1, .ref (EC.2.2.2.2 0)), (2, .ref (EM.2.2.2.2 0)), (3, .int (nI i))] [] ((YC EC).1 c1 ++ (YM EM).1 m1) 64 1126) : AtK D A X 4 892 [(0, .ref b), (1, .ref (EC.2.2.2.2 0)), (2, .ref (EM.2.2.2.2 0)), (3, .int (nI i))] [] ((YC EC).1 c ++ (YM EM).1 m) 64 1126 := by
  obtain ⟨r, c1, m1, h1, h2, hR1⟩ := sim_forget hRel
  refine l_aload (pc' := 893) O dL_law_892 rfl 1 rfl rfl ?_
  refine l_call (pc' := 896) (Y := YC EC) (σ := c) (σ1 := c1) (pre := []) (post := ((YM EM).1 m)) (n := 0) (As := []) (st := []) (v := some (.int r)) (q0 := 0) O hEC.1 hEC.2 (ctX10_forget hC c (r, c1) h1) (adC_in EC _) (fstC EC _ _) wm_812 wm_813 wm_814 wm_2 wm_815 (by decide +kernel) (by decide) (gC_0 EC _) hc_10 rfl rfl rfl (Nat.le_of_ble_eq_true rfl) dL_law_893 (by decide) (by decide) rfl ?_
  refine k_ws (ws' := (YC EC).1 c1 ++ ((YM EM).1 m ++ [])) (by rw [List.nil_append, List.append_nil]) ?_
  refine l_aload (pc' := 897) O dL_law_896 rfl 2 rfl rfl ?_
  refine l_call (pc' := 900) (Y := YM EM) (σ := m) (σ1 := m1) (pre := ((YC EC).1 c1)) (post := []) (n := 0) (As := []) (st := [.int r]) (v := some (.int r)) (q0 := 0) O hEM.1 hEM.2 (ctX11_forget hM m (r, m1) h2) (adM_in EM _) (fstM EM _ _) wm_820 wm_821 wm_822 wm_5 wm_823 (by decide +kernel) (by decide) (gM_0 EM _) hc_11 rfl rfl rfl (Nat.le_of_ble_eq_true rfl) dL_law_897 (by decide) (by decide) rfl ?_
  refine k_ws (ws' := (YC EC).1 c1 ++ (YM EM).1 m1) (by rw [List.append_nil]) ?_
  refine l_eq (tgt := 1203) (x := r) O dL_law_900 (by decide) ?_
  exact kont c1 m1 hR1
set_option maxRecDepth 100000 in
theorem law_25 {D : va_G} {A : Nat → Prop} {X : XT} {cI cZ cO : ClassId} {b L : Nat} {xs : Nat → Int32} (O : OkL D A X cI cZ cO b L xs) (hL : L ≤ 384) {EC EM : ET} (hEC : EC.1 = D ∧ tyE EC = tyK cI cZ cO) (hEM : EM.1 = D ∧ tyE EM = tyK cI cZ cO) (hC : Dj (YC EC)) (hM : Dj (YM EM)) {i : Nat} (hi : i + 6 ≤ L) {c m : St} (hRel : Rel c m) (kont : ∀ c1 m1 : St, Rel c1 m1 → AtK D A X 4 1203 [(0, .ref b), (1, .ref (EC.2.2.2.2 0)), (2, .ref (EM.2.2.2.2 0)), (3, .int (nI i))] [] ((YC EC).1 c1 ++ (YM EM).1 m1) 64 1126) : AtK D A X 4 905 [(0, .ref b), (1, .ref (EC.2.2.2.2 0)), (2, .ref (EM.2.2.2.2 0)), (3, .int (nI i))] [] ((YC EC).1 c ++ (YM EM).1 m) 64 1126 := by
  obtain ⟨r, m1, h1, h2, hR1⟩ := sim_turned hRel
  refine l_aload (pc' := 906) O dL_law_905 rfl 1 rfl rfl ?_
  refine l_call (pc' := 909) (Y := YC EC) (σ := c) (σ1 := c) (pre := []) (post := ((YM EM).1 m)) (n := 0) (As := []) (st := []) (v := some (.int r)) (q0 := 0) O hEC.1 hEC.2 (ctX10_turned hC c r h1) (adC_in EC _) (fstC EC _ _) wm_824 wm_825 wm_826 wm_2 wm_827 (by decide +kernel) (by decide) (gC_0 EC _) hc_10 rfl rfl rfl (Nat.le_of_ble_eq_true rfl) dL_law_906 (by decide) (by decide) rfl ?_
  refine k_ws (ws' := (YC EC).1 c ++ ((YM EM).1 m ++ [])) (by rw [List.nil_append, List.append_nil]) ?_
  refine l_aload (pc' := 910) O dL_law_909 rfl 2 rfl rfl ?_
  refine l_call (pc' := 913) (Y := YM EM) (σ := m) (σ1 := m1) (pre := ((YC EC).1 c)) (post := []) (n := 0) (As := []) (st := [.int r]) (v := some (.int r)) (q0 := 0) O hEM.1 hEM.2 (ctX11_turned hM m (r, m1) h2) (adM_in EM _) (fstM EM _ _) wm_838 wm_839 wm_840 wm_5 wm_841 (by decide +kernel) (by decide) (gM_0 EM _) hc_11 rfl rfl rfl (Nat.le_of_ble_eq_true rfl) dL_law_910 (by decide) (by decide) rfl ?_
  refine k_ws (ws' := (YC EC).1 c ++ (YM EM).1 m1) (by rw [List.append_nil]) ?_
  refine l_eq (tgt := 1203) (x := r) O dL_law_913 (by decide) ?_
  exact kont c m1 hR1
set_option maxRecDepth 100000 in
theorem law_26 {D : va_G} {A : Nat → Prop} {X : XT} {cI cZ cO : ClassId} {b L : Nat} {xs : Nat → Int32} (O : OkL D A X cI cZ cO b L xs) (hL : L ≤ 384) {EC EM : ET} (hEC : EC.1 = D ∧ tyE EC = tyK cI cZ cO) (hEM : EM.1 = D ∧ tyE EM = tyK cI cZ cO) (hC : Dj (YC EC)) (hM : Dj (YM EM)) {i : Nat} (hi : i + 6 ≤ L) {c m : St} (hRel : Rel c m) (kont : ∀ c1 m1 : St, Rel c1 m1 → AtK D A X 4 1203 [(0, .ref b), (1, .ref (EC.2.2.2.2 0)), (2, .ref (EM.2.2.2.2 0)), (3, .int (nI i))] [] ((YC EC).1 c1 ++ (YM EM).1 m1) 64 1126) : AtK D A X 4 918 [(0, .ref b), (1, .ref (EC.2.2.2.2 0)), (2, .ref (EM.2.2.2.2 0)), (3, .int (nI i))] [] ((YC EC).1 c ++ (YM EM).1 m) 64 1126 := by
  obtain ⟨r, c1, m1, h1, h2, hR1⟩ := sim_sheet (xs (i + 1)) (xs (i + 2)) (xs (i + 3)) hRel
  refine l_aload (pc' := 919) O dL_law_918 rfl 1 rfl rfl ?_
  refine l_aload (pc' := 920) O dL_law_919 rfl 0 rfl rfl ?_
  refine l_iload (pc' := 921) O dL_law_920 rfl 3 rfl rfl ?_
  refine l_iconst (pc' := 922) (v := 1) O dL_law_921 (by decide) rfl ?_
  refine l_iadd (pc' := 923) O dL_law_922 rfl ?_
  refine l_sld (pc' := 924) O (i + 1) (nI_add i 1) (by omega) (by omega) dL_law_923 rfl ?_
  refine l_aload (pc' := 925) O dL_law_924 rfl 0 rfl rfl ?_
  refine l_iload (pc' := 926) O dL_law_925 rfl 3 rfl rfl ?_
  refine l_iconst (pc' := 927) (v := 2) O dL_law_926 (by decide) rfl ?_
  refine l_iadd (pc' := 928) O dL_law_927 rfl ?_
  refine l_sld (pc' := 929) O (i + 2) (nI_add i 2) (by omega) (by omega) dL_law_928 rfl ?_
  refine l_aload (pc' := 930) O dL_law_929 rfl 0 rfl rfl ?_
  refine l_iload (pc' := 931) O dL_law_930 rfl 3 rfl rfl ?_
  refine l_iconst (pc' := 932) (v := 3) O dL_law_931 (by decide) rfl ?_
  refine l_iadd (pc' := 933) O dL_law_932 rfl ?_
  refine l_sld (pc' := 934) O (i + 3) (nI_add i 3) (by omega) (by omega) dL_law_933 rfl ?_
  refine l_call (pc' := 937) (Y := YC EC) (σ := c) (σ1 := c1) (pre := []) (post := ((YM EM).1 m)) (n := 3) (As := [.int (xs (i + 1)), .int (xs (i + 2)), .int (xs (i + 3))]) (st := []) (v := some (.int r)) (q0 := 0) O hEC.1 hEC.2 (ctX10_sheet hC (xs (i + 1)) (xs (i + 2)) (xs (i + 3)) c (r, c1) h1) (adC_in EC _) (fstC EC _ _) wm_854 wm_855 wm_856 wm_2 wm_857 (by decide +kernel) (by decide) (gC_0 EC _) hc_10 rfl rfl rfl (Nat.le_of_ble_eq_true rfl) dL_law_934 (by decide) (by decide) rfl ?_
  refine k_ws (ws' := (YC EC).1 c1 ++ ((YM EM).1 m ++ [])) (by rw [List.nil_append, List.append_nil]) ?_
  refine l_aload (pc' := 938) O dL_law_937 rfl 2 rfl rfl ?_
  refine l_aload (pc' := 939) O dL_law_938 rfl 0 rfl rfl ?_
  refine l_iload (pc' := 940) O dL_law_939 rfl 3 rfl rfl ?_
  refine l_iconst (pc' := 941) (v := 1) O dL_law_940 (by decide) rfl ?_
  refine l_iadd (pc' := 942) O dL_law_941 rfl ?_
  refine l_sld (pc' := 943) O (i + 1) (nI_add i 1) (by omega) (by omega) dL_law_942 rfl ?_
  refine l_aload (pc' := 944) O dL_law_943 rfl 0 rfl rfl ?_
  refine l_iload (pc' := 945) O dL_law_944 rfl 3 rfl rfl ?_
  refine l_iconst (pc' := 946) (v := 2) O dL_law_945 (by decide) rfl ?_
  refine l_iadd (pc' := 947) O dL_law_946 rfl ?_
  refine l_sld (pc' := 948) O (i + 2) (nI_add i 2) (by omega) (by omega) dL_law_947 rfl ?_
  refine l_aload (pc' := 949) O dL_law_948 rfl 0 rfl rfl ?_
  refine l_iload (pc' := 950) O dL_law_949 rfl 3 rfl rfl ?_
  refine l_iconst (pc' := 951) (v := 3) O dL_law_950 (by decide) rfl ?_
  refine l_iadd (pc' := 952) O dL_law_951 rfl ?_
  refine l_sld (pc' := 953) O (i + 3) (nI_add i 3) (by omega) (by omega) dL_law_952 rfl ?_
  refine l_call (pc' := 956) (Y := YM EM) (σ := m) (σ1 := m1) (pre := ((YC EC).1 c1)) (post := []) (n := 3) (As := [.int (xs (i + 1)), .int (xs (i + 2)), .int (xs (i + 3))]) (st := [.int r]) (v := some (.int r)) (q0 := 0) O hEM.1 hEM.2 (ctX11_sheet hM (xs (i + 1)) (xs (i + 2)) (xs (i + 3)) m (r, m1) h2) (adM_in EM _) (fstM EM _ _) wm_865 wm_866 wm_867 wm_5 wm_868 (by decide +kernel) (by decide) (gM_0 EM _) hc_11 rfl rfl rfl (Nat.le_of_ble_eq_true rfl) dL_law_953 (by decide) (by decide) rfl ?_
  refine k_ws (ws' := (YC EC).1 c1 ++ (YM EM).1 m1) (by rw [List.append_nil]) ?_
  refine l_eq (tgt := 1203) (x := r) O dL_law_956 (by decide) ?_
  exact kont c1 m1 hR1
set_option maxRecDepth 100000 in
theorem law_27 {D : va_G} {A : Nat → Prop} {X : XT} {cI cZ cO : ClassId} {b L : Nat} {xs : Nat → Int32} (O : OkL D A X cI cZ cO b L xs) (hL : L ≤ 384) {EC EM : ET} (hEC : EC.1 = D ∧ tyE EC = tyK cI cZ cO) (hEM : EM.1 = D ∧ tyE EM = tyK cI cZ cO) (hC : Dj (YC EC)) (hM : Dj (YM EM)) {i : Nat} (hi : i + 6 ≤ L) {c m : St} (hRel : Rel c m) (kont : ∀ c1 m1 : St, Rel c1 m1 → AtK D A X 4 1203 [(0, .ref b), (1, .ref (EC.2.2.2.2 0)), (2, .ref (EM.2.2.2.2 0)), (3, .int (nI i))] [] ((YC EC).1 c1 ++ (YM EM).1 m1) 64 1126) : AtK D A X 4 961 [(0, .ref b), (1, .ref (EC.2.2.2.2 0)), (2, .ref (EM.2.2.2.2 0)), (3, .int (nI i))] [] ((YC EC).1 c ++ (YM EM).1 m) 64 1126 := by
  obtain ⟨r, c1, m1, h1, h2, hR1⟩ := sim_lose (xs (i + 1)) hRel
  refine l_aload (pc' := 962) O dL_law_961 rfl 1 rfl rfl ?_
  refine l_aload (pc' := 963) O dL_law_962 rfl 0 rfl rfl ?_
  refine l_iload (pc' := 964) O dL_law_963 rfl 3 rfl rfl ?_
  refine l_iconst (pc' := 965) (v := 1) O dL_law_964 (by decide) rfl ?_
  refine l_iadd (pc' := 966) O dL_law_965 rfl ?_
  refine l_sld (pc' := 967) O (i + 1) (nI_add i 1) (by omega) (by omega) dL_law_966 rfl ?_
  refine l_call (pc' := 970) (Y := YC EC) (σ := c) (σ1 := c1) (pre := []) (post := ((YM EM).1 m)) (n := 1) (As := [.int (xs (i + 1))]) (st := []) (v := some (.int r)) (q0 := 0) O hEC.1 hEC.2 (ctX10_lose hC (xs (i + 1)) c (r, c1) h1) (adC_in EC _) (fstC EC _ _) wm_869 wm_870 wm_871 wm_2 wm_872 (by decide +kernel) (by decide) (gC_0 EC _) hc_10 rfl rfl rfl (Nat.le_of_ble_eq_true rfl) dL_law_967 (by decide) (by decide) rfl ?_
  refine k_ws (ws' := (YC EC).1 c1 ++ ((YM EM).1 m ++ [])) (by rw [List.nil_append, List.append_nil]) ?_
  refine l_aload (pc' := 971) O dL_law_970 rfl 2 rfl rfl ?_
  refine l_aload (pc' := 972) O dL_law_971 rfl 0 rfl rfl ?_
  refine l_iload (pc' := 973) O dL_law_972 rfl 3 rfl rfl ?_
  refine l_iconst (pc' := 974) (v := 1) O dL_law_973 (by decide) rfl ?_
  refine l_iadd (pc' := 975) O dL_law_974 rfl ?_
  refine l_sld (pc' := 976) O (i + 1) (nI_add i 1) (by omega) (by omega) dL_law_975 rfl ?_
  refine l_call (pc' := 979) (Y := YM EM) (σ := m) (σ1 := m1) (pre := ((YC EC).1 c1)) (post := []) (n := 1) (As := [.int (xs (i + 1))]) (st := [.int r]) (v := some (.int r)) (q0 := 0) O hEM.1 hEM.2 (ctX11_lose hM (xs (i + 1)) m (r, m1) h2) (adM_in EM _) (fstM EM _ _) wm_877 wm_878 wm_879 wm_5 wm_880 (by decide +kernel) (by decide) (gM_0 EM _) hc_11 rfl rfl rfl (Nat.le_of_ble_eq_true rfl) dL_law_976 (by decide) (by decide) rfl ?_
  refine k_ws (ws' := (YC EC).1 c1 ++ (YM EM).1 m1) (by rw [List.append_nil]) ?_
  refine l_eq (tgt := 1203) (x := r) O dL_law_979 (by decide) ?_
  exact kont c1 m1 hR1
set_option maxRecDepth 100000 in
theorem law_28 {D : va_G} {A : Nat → Prop} {X : XT} {cI cZ cO : ClassId} {b L : Nat} {xs : Nat → Int32} (O : OkL D A X cI cZ cO b L xs) (hL : L ≤ 384) {EC EM : ET} (hEC : EC.1 = D ∧ tyE EC = tyK cI cZ cO) (hEM : EM.1 = D ∧ tyE EM = tyK cI cZ cO) (hC : Dj (YC EC)) (hM : Dj (YM EM)) {i : Nat} (hi : i + 6 ≤ L) {c m : St} (hRel : Rel c m) (kont : ∀ c1 m1 : St, Rel c1 m1 → AtK D A X 4 1203 [(0, .ref b), (1, .ref (EC.2.2.2.2 0)), (2, .ref (EM.2.2.2.2 0)), (3, .int (nI i))] [] ((YC EC).1 c1 ++ (YM EM).1 m1) 64 1126) : AtK D A X 4 984 [(0, .ref b), (1, .ref (EC.2.2.2.2 0)), (2, .ref (EM.2.2.2.2 0)), (3, .int (nI i))] [] ((YC EC).1 c ++ (YM EM).1 m) 64 1126 := by
  obtain ⟨r, c1, m1, h1, h2, hR1⟩ := sim_lay (xs (i + 1)) (xs (i + 2)) (xs (i + 3)) (xs (i + 4)) hRel
  refine l_aload (pc' := 985) O dL_law_984 rfl 1 rfl rfl ?_
  refine l_aload (pc' := 986) O dL_law_985 rfl 0 rfl rfl ?_
  refine l_iload (pc' := 987) O dL_law_986 rfl 3 rfl rfl ?_
  refine l_iconst (pc' := 988) (v := 1) O dL_law_987 (by decide) rfl ?_
  refine l_iadd (pc' := 989) O dL_law_988 rfl ?_
  refine l_sld (pc' := 990) O (i + 1) (nI_add i 1) (by omega) (by omega) dL_law_989 rfl ?_
  refine l_aload (pc' := 991) O dL_law_990 rfl 0 rfl rfl ?_
  refine l_iload (pc' := 992) O dL_law_991 rfl 3 rfl rfl ?_
  refine l_iconst (pc' := 993) (v := 2) O dL_law_992 (by decide) rfl ?_
  refine l_iadd (pc' := 994) O dL_law_993 rfl ?_
  refine l_sld (pc' := 995) O (i + 2) (nI_add i 2) (by omega) (by omega) dL_law_994 rfl ?_
  refine l_aload (pc' := 996) O dL_law_995 rfl 0 rfl rfl ?_
  refine l_iload (pc' := 997) O dL_law_996 rfl 3 rfl rfl ?_
  refine l_iconst (pc' := 998) (v := 3) O dL_law_997 (by decide) rfl ?_
  refine l_iadd (pc' := 999) O dL_law_998 rfl ?_
  refine l_sld (pc' := 1000) O (i + 3) (nI_add i 3) (by omega) (by omega) dL_law_999 rfl ?_
  refine l_aload (pc' := 1001) O dL_law_1000 rfl 0 rfl rfl ?_
  refine l_iload (pc' := 1002) O dL_law_1001 rfl 3 rfl rfl ?_
  refine l_iconst (pc' := 1003) (v := 4) O dL_law_1002 (by decide) rfl ?_
  refine l_iadd (pc' := 1004) O dL_law_1003 rfl ?_
  refine l_sld (pc' := 1005) O (i + 4) (nI_add i 4) (by omega) (by omega) dL_law_1004 rfl ?_
  refine l_call (pc' := 1008) (Y := YC EC) (σ := c) (σ1 := c1) (pre := []) (post := ((YM EM).1 m)) (n := 4) (As := [.int (xs (i + 1)), .int (xs (i + 2)), .int (xs (i + 3)), .int (xs (i + 4))]) (st := []) (v := some (.int r)) (q0 := 0) O hEC.1 hEC.2 (ctX10_lay hC (xs (i + 1)) (xs (i + 2)) (xs (i + 3)) (xs (i + 4)) c (r, c1) h1) (adC_in EC _) (fstC EC _ _) wm_881 wm_882 wm_883 wm_2 wm_884 (by decide +kernel) (by decide) (gC_0 EC _) hc_10 rfl rfl rfl (Nat.le_of_ble_eq_true rfl) dL_law_1005 (by decide) (by decide) rfl ?_
  refine k_ws (ws' := (YC EC).1 c1 ++ ((YM EM).1 m ++ [])) (by rw [List.nil_append, List.append_nil]) ?_
  refine l_aload (pc' := 1009) O dL_law_1008 rfl 2 rfl rfl ?_
  refine l_aload (pc' := 1010) O dL_law_1009 rfl 0 rfl rfl ?_
  refine l_iload (pc' := 1011) O dL_law_1010 rfl 3 rfl rfl ?_
  refine l_iconst (pc' := 1012) (v := 1) O dL_law_1011 (by decide) rfl ?_
  refine l_iadd (pc' := 1013) O dL_law_1012 rfl ?_
  refine l_sld (pc' := 1014) O (i + 1) (nI_add i 1) (by omega) (by omega) dL_law_1013 rfl ?_
  refine l_aload (pc' := 1015) O dL_law_1014 rfl 0 rfl rfl ?_
  refine l_iload (pc' := 1016) O dL_law_1015 rfl 3 rfl rfl ?_
  refine l_iconst (pc' := 1017) (v := 2) O dL_law_1016 (by decide) rfl ?_
  refine l_iadd (pc' := 1018) O dL_law_1017 rfl ?_
  refine l_sld (pc' := 1019) O (i + 2) (nI_add i 2) (by omega) (by omega) dL_law_1018 rfl ?_
  refine l_aload (pc' := 1020) O dL_law_1019 rfl 0 rfl rfl ?_
  refine l_iload (pc' := 1021) O dL_law_1020 rfl 3 rfl rfl ?_
  refine l_iconst (pc' := 1022) (v := 3) O dL_law_1021 (by decide) rfl ?_
  refine l_iadd (pc' := 1023) O dL_law_1022 rfl ?_
  refine l_sld (pc' := 1024) O (i + 3) (nI_add i 3) (by omega) (by omega) dL_law_1023 rfl ?_
  refine l_aload (pc' := 1025) O dL_law_1024 rfl 0 rfl rfl ?_
  refine l_iload (pc' := 1026) O dL_law_1025 rfl 3 rfl rfl ?_
  refine l_iconst (pc' := 1027) (v := 4) O dL_law_1026 (by decide) rfl ?_
  refine l_iadd (pc' := 1028) O dL_law_1027 rfl ?_
  refine l_sld (pc' := 1029) O (i + 4) (nI_add i 4) (by omega) (by omega) dL_law_1028 rfl ?_
  refine l_call (pc' := 1032) (Y := YM EM) (σ := m) (σ1 := m1) (pre := ((YC EC).1 c1)) (post := []) (n := 4) (As := [.int (xs (i + 1)), .int (xs (i + 2)), .int (xs (i + 3)), .int (xs (i + 4))]) (st := [.int r]) (v := some (.int r)) (q0 := 0) O hEM.1 hEM.2 (ctX11_lay hM (xs (i + 1)) (xs (i + 2)) (xs (i + 3)) (xs (i + 4)) m (r, m1) h2) (adM_in EM _) (fstM EM _ _) wm_898 wm_899 wm_900 wm_5 wm_901 (by decide +kernel) (by decide) (gM_0 EM _) hc_11 rfl rfl rfl (Nat.le_of_ble_eq_true rfl) dL_law_1029 (by decide) (by decide) rfl ?_
  refine k_ws (ws' := (YC EC).1 c1 ++ (YM EM).1 m1) (by rw [List.append_nil]) ?_
  refine l_eq (tgt := 1203) (x := r) O dL_law_1032 (by decide) ?_
  exact kont c1 m1 hR1
set_option maxRecDepth 100000 in
theorem law_29 {D : va_G} {A : Nat → Prop} {X : XT} {cI cZ cO : ClassId} {b L : Nat} {xs : Nat → Int32} (O : OkL D A X cI cZ cO b L xs) (hL : L ≤ 384) {EC EM : ET} (hEC : EC.1 = D ∧ tyE EC = tyK cI cZ cO) (hEM : EM.1 = D ∧ tyE EM = tyK cI cZ cO) (hC : Dj (YC EC)) (hM : Dj (YM EM)) {i : Nat} (hi : i + 6 ≤ L) {c m : St} (hRel : Rel c m) (kont : ∀ c1 m1 : St, Rel c1 m1 → AtK D A X 4 1203 [(0, .ref b), (1, .ref (EC.2.2.2.2 0)), (2, .ref (EM.2.2.2.2 0)), (3, .int (nI i))] [] ((YC EC).1 c1 ++ (YM EM).1 m1) 64 1126) : AtK D A X 4 1037 [(0, .ref b), (1, .ref (EC.2.2.2.2 0)), (2, .ref (EM.2.2.2.2 0)), (3, .int (nI i))] [] ((YC EC).1 c ++ (YM EM).1 m) 64 1126 := by
  obtain ⟨r, c1, m1, h1, h2, hR1⟩ := sim_get (xs (i + 1)) (xs (i + 2)) (xs (i + 3)) hRel
  refine l_aload (pc' := 1038) O dL_law_1037 rfl 1 rfl rfl ?_
  refine l_aload (pc' := 1039) O dL_law_1038 rfl 0 rfl rfl ?_
  refine l_iload (pc' := 1040) O dL_law_1039 rfl 3 rfl rfl ?_
  refine l_iconst (pc' := 1041) (v := 1) O dL_law_1040 (by decide) rfl ?_
  refine l_iadd (pc' := 1042) O dL_law_1041 rfl ?_
  refine l_sld (pc' := 1043) O (i + 1) (nI_add i 1) (by omega) (by omega) dL_law_1042 rfl ?_
  refine l_aload (pc' := 1044) O dL_law_1043 rfl 0 rfl rfl ?_
  refine l_iload (pc' := 1045) O dL_law_1044 rfl 3 rfl rfl ?_
  refine l_iconst (pc' := 1046) (v := 2) O dL_law_1045 (by decide) rfl ?_
  refine l_iadd (pc' := 1047) O dL_law_1046 rfl ?_
  refine l_sld (pc' := 1048) O (i + 2) (nI_add i 2) (by omega) (by omega) dL_law_1047 rfl ?_
  refine l_aload (pc' := 1049) O dL_law_1048 rfl 0 rfl rfl ?_
  refine l_iload (pc' := 1050) O dL_law_1049 rfl 3 rfl rfl ?_
  refine l_iconst (pc' := 1051) (v := 3) O dL_law_1050 (by decide) rfl ?_
  refine l_iadd (pc' := 1052) O dL_law_1051 rfl ?_
  refine l_sld (pc' := 1053) O (i + 3) (nI_add i 3) (by omega) (by omega) dL_law_1052 rfl ?_
  refine l_call (pc' := 1056) (Y := YC EC) (σ := c) (σ1 := c1) (pre := []) (post := ((YM EM).1 m)) (n := 3) (As := [.int (xs (i + 1)), .int (xs (i + 2)), .int (xs (i + 3))]) (st := []) (v := some (.int r)) (q0 := 0) O hEC.1 hEC.2 (ctX10_get hC (xs (i + 1)) (xs (i + 2)) (xs (i + 3)) c (r, c1) h1) (adC_in EC _) (fstC EC _ _) wm_909 wm_910 wm_911 wm_2 wm_912 (by decide +kernel) (by decide) (gC_0 EC _) hc_10 rfl rfl rfl (Nat.le_of_ble_eq_true rfl) dL_law_1053 (by decide) (by decide) rfl ?_
  refine k_ws (ws' := (YC EC).1 c1 ++ ((YM EM).1 m ++ [])) (by rw [List.nil_append, List.append_nil]) ?_
  refine l_aload (pc' := 1057) O dL_law_1056 rfl 2 rfl rfl ?_
  refine l_aload (pc' := 1058) O dL_law_1057 rfl 0 rfl rfl ?_
  refine l_iload (pc' := 1059) O dL_law_1058 rfl 3 rfl rfl ?_
  refine l_iconst (pc' := 1060) (v := 1) O dL_law_1059 (by decide) rfl ?_
  refine l_iadd (pc' := 1061) O dL_law_1060 rfl ?_
  refine l_sld (pc' := 1062) O (i + 1) (nI_add i 1) (by omega) (by omega) dL_law_1061 rfl ?_
  refine l_aload (pc' := 1063) O dL_law_1062 rfl 0 rfl rfl ?_
  refine l_iload (pc' := 1064) O dL_law_1063 rfl 3 rfl rfl ?_
  refine l_iconst (pc' := 1065) (v := 2) O dL_law_1064 (by decide) rfl ?_
  refine l_iadd (pc' := 1066) O dL_law_1065 rfl ?_
  refine l_sld (pc' := 1067) O (i + 2) (nI_add i 2) (by omega) (by omega) dL_law_1066 rfl ?_
  refine l_aload (pc' := 1068) O dL_law_1067 rfl 0 rfl rfl ?_
  refine l_iload (pc' := 1069) O dL_law_1068 rfl 3 rfl rfl ?_
  refine l_iconst (pc' := 1070) (v := 3) O dL_law_1069 (by decide) rfl ?_
  refine l_iadd (pc' := 1071) O dL_law_1070 rfl ?_
  refine l_sld (pc' := 1072) O (i + 3) (nI_add i 3) (by omega) (by omega) dL_law_1071 rfl ?_
  refine l_call (pc' := 1075) (Y := YM EM) (σ := m) (σ1 := m1) (pre := ((YC EC).1 c1)) (post := []) (n := 3) (As := [.int (xs (i + 1)), .int (xs (i + 2)), .int (xs (i + 3))]) (st := [.int r]) (v := some (.int r)) (q0 := 0) O hEM.1 hEM.2 (ctX11_get hM (xs (i + 1)) (xs (i + 2)) (xs (i + 3)) m (r, m1) h2) (adM_in EM _) (fstM EM _ _) wm_914 wm_915 wm_916 wm_5 wm_917 (by decide +kernel) (by decide) (gM_0 EM _) hc_11 rfl rfl rfl (Nat.le_of_ble_eq_true rfl) dL_law_1072 (by decide) (by decide) rfl ?_
  refine k_ws (ws' := (YC EC).1 c1 ++ (YM EM).1 m1) (by rw [List.append_nil]) ?_
  refine l_eq (tgt := 1203) (x := r) O dL_law_1075 (by decide) ?_
  exact kont c1 m1 hR1
set_option maxRecDepth 100000 in
theorem law_30 {D : va_G} {A : Nat → Prop} {X : XT} {cI cZ cO : ClassId} {b L : Nat} {xs : Nat → Int32} (O : OkL D A X cI cZ cO b L xs) (hL : L ≤ 384) {EC EM : ET} (hEC : EC.1 = D ∧ tyE EC = tyK cI cZ cO) (hEM : EM.1 = D ∧ tyE EM = tyK cI cZ cO) (hC : Dj (YC EC)) (hM : Dj (YM EM)) {i : Nat} (hi : i + 6 ≤ L) {c m : St} (hRel : Rel c m) (kont : ∀ c1 m1 : St, Rel c1 m1 → AtK D A X 4 1203 [(0, .ref b), (1, .ref (EC.2.2.2.2 0)), (2, .ref (EM.2.2.2.2 0)), (3, .int (nI i))] [] ((YC EC).1 c1 ++ (YM EM).1 m1) 64 1126) : AtK D A X 4 1080 [(0, .ref b), (1, .ref (EC.2.2.2.2 0)), (2, .ref (EM.2.2.2.2 0)), (3, .int (nI i))] [] ((YC EC).1 c ++ (YM EM).1 m) 64 1126 := by
  obtain ⟨r, c1, m1, h1, h2, hR1⟩ := sim_copy (xs (i + 1)) (xs (i + 2)) (xs (i + 3)) (xs (i + 4)) (xs (i + 5)) hRel
  refine l_aload (pc' := 1081) O dL_law_1080 rfl 1 rfl rfl ?_
  refine l_aload (pc' := 1082) O dL_law_1081 rfl 0 rfl rfl ?_
  refine l_iload (pc' := 1083) O dL_law_1082 rfl 3 rfl rfl ?_
  refine l_iconst (pc' := 1084) (v := 1) O dL_law_1083 (by decide) rfl ?_
  refine l_iadd (pc' := 1085) O dL_law_1084 rfl ?_
  refine l_sld (pc' := 1086) O (i + 1) (nI_add i 1) (by omega) (by omega) dL_law_1085 rfl ?_
  refine l_aload (pc' := 1087) O dL_law_1086 rfl 0 rfl rfl ?_
  refine l_iload (pc' := 1088) O dL_law_1087 rfl 3 rfl rfl ?_
  refine l_iconst (pc' := 1089) (v := 2) O dL_law_1088 (by decide) rfl ?_
  refine l_iadd (pc' := 1090) O dL_law_1089 rfl ?_
  refine l_sld (pc' := 1091) O (i + 2) (nI_add i 2) (by omega) (by omega) dL_law_1090 rfl ?_
  refine l_aload (pc' := 1092) O dL_law_1091 rfl 0 rfl rfl ?_
  refine l_iload (pc' := 1093) O dL_law_1092 rfl 3 rfl rfl ?_
  refine l_iconst (pc' := 1094) (v := 3) O dL_law_1093 (by decide) rfl ?_
  refine l_iadd (pc' := 1095) O dL_law_1094 rfl ?_
  refine l_sld (pc' := 1096) O (i + 3) (nI_add i 3) (by omega) (by omega) dL_law_1095 rfl ?_
  refine l_aload (pc' := 1097) O dL_law_1096 rfl 0 rfl rfl ?_
  refine l_iload (pc' := 1098) O dL_law_1097 rfl 3 rfl rfl ?_
  refine l_iconst (pc' := 1099) (v := 4) O dL_law_1098 (by decide) rfl ?_
  refine l_iadd (pc' := 1100) O dL_law_1099 rfl ?_
  refine l_sld (pc' := 1101) O (i + 4) (nI_add i 4) (by omega) (by omega) dL_law_1100 rfl ?_
  refine l_aload (pc' := 1102) O dL_law_1101 rfl 0 rfl rfl ?_
  refine l_iload (pc' := 1103) O dL_law_1102 rfl 3 rfl rfl ?_
  refine l_iconst (pc' := 1104) (v := 5) O dL_law_1103 (by decide) rfl ?_
  refine l_iadd (pc' := 1105) O dL_law_1104 rfl ?_
  refine l_sld (pc' := 1106) O (i + 5) (nI_add i 5) (by omega) (by omega) dL_law_1105 rfl ?_
  refine l_call (pc' := 1109) (Y := YC EC) (σ := c) (σ1 := c1) (pre := []) (post := ((YM EM).1 m)) (n := 5) (As := [.int (xs (i + 1)), .int (xs (i + 2)), .int (xs (i + 3)), .int (xs (i + 4)), .int (xs (i + 5))]) (st := []) (v := some (.int r)) (q0 := 0) O hEC.1 hEC.2 (ctX10_copy hC (xs (i + 1)) (xs (i + 2)) (xs (i + 3)) (xs (i + 4)) (xs (i + 5)) c (r, c1) h1) (adC_in EC _) (fstC EC _ _) wm_919 wm_920 wm_921 wm_2 wm_922 (by decide +kernel) (by decide) (gC_0 EC _) hc_10 rfl rfl rfl (Nat.le_of_ble_eq_true rfl) dL_law_1106 (by decide) (by decide) rfl ?_
  refine k_ws (ws' := (YC EC).1 c1 ++ ((YM EM).1 m ++ [])) (by rw [List.nil_append, List.append_nil]) ?_
  refine l_aload (pc' := 1110) O dL_law_1109 rfl 2 rfl rfl ?_
  refine l_aload (pc' := 1111) O dL_law_1110 rfl 0 rfl rfl ?_
  refine l_iload (pc' := 1112) O dL_law_1111 rfl 3 rfl rfl ?_
  refine l_iconst (pc' := 1113) (v := 1) O dL_law_1112 (by decide) rfl ?_
  refine l_iadd (pc' := 1114) O dL_law_1113 rfl ?_
  refine l_sld (pc' := 1115) O (i + 1) (nI_add i 1) (by omega) (by omega) dL_law_1114 rfl ?_
  refine l_aload (pc' := 1116) O dL_law_1115 rfl 0 rfl rfl ?_
  refine l_iload (pc' := 1117) O dL_law_1116 rfl 3 rfl rfl ?_
  refine l_iconst (pc' := 1118) (v := 2) O dL_law_1117 (by decide) rfl ?_
  refine l_iadd (pc' := 1119) O dL_law_1118 rfl ?_
  refine l_sld (pc' := 1120) O (i + 2) (nI_add i 2) (by omega) (by omega) dL_law_1119 rfl ?_
  refine l_aload (pc' := 1121) O dL_law_1120 rfl 0 rfl rfl ?_
  refine l_iload (pc' := 1122) O dL_law_1121 rfl 3 rfl rfl ?_
  refine l_iconst (pc' := 1123) (v := 3) O dL_law_1122 (by decide) rfl ?_
  refine l_iadd (pc' := 1124) O dL_law_1123 rfl ?_
  refine l_sld (pc' := 1125) O (i + 3) (nI_add i 3) (by omega) (by omega) dL_law_1124 rfl ?_
  refine l_aload (pc' := 1126) O dL_law_1125 rfl 0 rfl rfl ?_
  refine l_iload (pc' := 1127) O dL_law_1126 rfl 3 rfl rfl ?_
  refine l_iconst (pc' := 1128) (v := 4) O dL_law_1127 (by decide) rfl ?_
  refine l_iadd (pc' := 1129) O dL_law_1128 rfl ?_
  refine l_sld (pc' := 1130) O (i + 4) (nI_add i 4) (by omega) (by omega) dL_law_1129 rfl ?_
  refine l_aload (pc' := 1131) O dL_law_1130 rfl 0 rfl rfl ?_
  refine l_iload (pc' := 1132) O dL_law_1131 rfl 3 rfl rfl ?_
  refine l_iconst (pc' := 1133) (v := 5) O dL_law_1132 (by decide) rfl ?_
  refine l_iadd (pc' := 1134) O dL_law_1133 rfl ?_
  refine l_sld (pc' := 1135) O (i + 5) (nI_add i 5) (by omega) (by omega) dL_law_1134 rfl ?_
  refine l_call (pc' := 1138) (Y := YM EM) (σ := m) (σ1 := m1) (pre := ((YC EC).1 c1)) (post := []) (n := 5) (As := [.int (xs (i + 1)), .int (xs (i + 2)), .int (xs (i + 3)), .int (xs (i + 4)), .int (xs (i + 5))]) (st := [.int r]) (v := some (.int r)) (q0 := 0) O hEM.1 hEM.2 (ctX11_copy hM (xs (i + 1)) (xs (i + 2)) (xs (i + 3)) (xs (i + 4)) (xs (i + 5)) m (r, m1) h2) (adM_in EM _) (fstM EM _ _) wm_936 wm_937 wm_938 wm_5 wm_939 (by decide +kernel) (by decide) (gM_0 EM _) hc_11 rfl rfl rfl (Nat.le_of_ble_eq_true rfl) dL_law_1135 (by decide) (by decide) rfl ?_
  refine k_ws (ws' := (YC EC).1 c1 ++ (YM EM).1 m1) (by rw [List.append_nil]) ?_
  refine l_eq (tgt := 1203) (x := r) O dL_law_1138 (by decide) ?_
  exact kont c1 m1 hR1
set_option maxRecDepth 100000 in
theorem law_31 {D : va_G} {A : Nat → Prop} {X : XT} {cI cZ cO : ClassId} {b L : Nat} {xs : Nat → Int32} (O : OkL D A X cI cZ cO b L xs) (hL : L ≤ 384) {EC EM : ET} (hEC : EC.1 = D ∧ tyE EC = tyK cI cZ cO) (hEM : EM.1 = D ∧ tyE EM = tyK cI cZ cO) (hC : Dj (YC EC)) (hM : Dj (YM EM)) {i : Nat} (hi : i + 6 ≤ L) {c m : St} (hRel : Rel c m) (kont : ∀ c1 m1 : St, Rel c1 m1 → AtK D A X 4 1203 [(0, .ref b), (1, .ref (EC.2.2.2.2 0)), (2, .ref (EM.2.2.2.2 0)), (3, .int (nI i))] [] ((YC EC).1 c1 ++ (YM EM).1 m1) 64 1126) : AtK D A X 4 1143 [(0, .ref b), (1, .ref (EC.2.2.2.2 0)), (2, .ref (EM.2.2.2.2 0)), (3, .int (nI i))] [] ((YC EC).1 c ++ (YM EM).1 m) 64 1126 := by
  obtain ⟨r, c1, m1, h1, h2, hR1⟩ := sim_write (xs (i + 1)) hRel
  refine l_aload (pc' := 1144) O dL_law_1143 rfl 1 rfl rfl ?_
  refine l_aload (pc' := 1145) O dL_law_1144 rfl 0 rfl rfl ?_
  refine l_iload (pc' := 1146) O dL_law_1145 rfl 3 rfl rfl ?_
  refine l_iconst (pc' := 1147) (v := 1) O dL_law_1146 (by decide) rfl ?_
  refine l_iadd (pc' := 1148) O dL_law_1147 rfl ?_
  refine l_sld (pc' := 1149) O (i + 1) (nI_add i 1) (by omega) (by omega) dL_law_1148 rfl ?_
  refine l_call (pc' := 1152) (Y := YC EC) (σ := c) (σ1 := c1) (pre := []) (post := ((YM EM).1 m)) (n := 1) (As := [.int (xs (i + 1))]) (st := []) (v := some (.int r)) (q0 := 0) O hEC.1 hEC.2 (ctX10_write hC (xs (i + 1)) c (r, c1) h1) (adC_in EC _) (fstC EC _ _) wm_940 wm_941 wm_942 wm_2 wm_943 (by decide +kernel) (by decide) (gC_0 EC _) hc_10 rfl rfl rfl (Nat.le_of_ble_eq_true rfl) dL_law_1149 (by decide) (by decide) rfl ?_
  refine k_ws (ws' := (YC EC).1 c1 ++ ((YM EM).1 m ++ [])) (by rw [List.nil_append, List.append_nil]) ?_
  refine l_aload (pc' := 1153) O dL_law_1152 rfl 2 rfl rfl ?_
  refine l_aload (pc' := 1154) O dL_law_1153 rfl 0 rfl rfl ?_
  refine l_iload (pc' := 1155) O dL_law_1154 rfl 3 rfl rfl ?_
  refine l_iconst (pc' := 1156) (v := 1) O dL_law_1155 (by decide) rfl ?_
  refine l_iadd (pc' := 1157) O dL_law_1156 rfl ?_
  refine l_sld (pc' := 1158) O (i + 1) (nI_add i 1) (by omega) (by omega) dL_law_1157 rfl ?_
  refine l_call (pc' := 1161) (Y := YM EM) (σ := m) (σ1 := m1) (pre := ((YC EC).1 c1)) (post := []) (n := 1) (As := [.int (xs (i + 1))]) (st := [.int r]) (v := some (.int r)) (q0 := 0) O hEM.1 hEM.2 (ctX11_write hM (xs (i + 1)) m (r, m1) h2) (adM_in EM _) (fstM EM _ _) wm_944 wm_945 wm_946 wm_5 wm_947 (by decide +kernel) (by decide) (gM_0 EM _) hc_11 rfl rfl rfl (Nat.le_of_ble_eq_true rfl) dL_law_1158 (by decide) (by decide) rfl ?_
  refine k_ws (ws' := (YC EC).1 c1 ++ (YM EM).1 m1) (by rw [List.append_nil]) ?_
  refine l_eq (tgt := 1203) (x := r) O dL_law_1161 (by decide) ?_
  exact kont c1 m1 hR1
set_option maxRecDepth 100000 in
theorem law_32 {D : va_G} {A : Nat → Prop} {X : XT} {cI cZ cO : ClassId} {b L : Nat} {xs : Nat → Int32} (O : OkL D A X cI cZ cO b L xs) (hL : L ≤ 384) {EC EM : ET} (hEC : EC.1 = D ∧ tyE EC = tyK cI cZ cO) (hEM : EM.1 = D ∧ tyE EM = tyK cI cZ cO) (hC : Dj (YC EC)) (hM : Dj (YM EM)) {i : Nat} (hi : i + 6 ≤ L) {c m : St} (hRel : Rel c m) (kont : ∀ c1 m1 : St, Rel c1 m1 → AtK D A X 4 1203 [(0, .ref b), (1, .ref (EC.2.2.2.2 0)), (2, .ref (EM.2.2.2.2 0)), (3, .int (nI i))] [] ((YC EC).1 c1 ++ (YM EM).1 m1) 64 1126) : AtK D A X 4 1166 [(0, .ref b), (1, .ref (EC.2.2.2.2 0)), (2, .ref (EM.2.2.2.2 0)), (3, .int (nI i))] [] ((YC EC).1 c ++ (YM EM).1 m) 64 1126 := by
  obtain ⟨r, m1, h1, h2, hR1⟩ := sim_count (xs (i + 1)) hRel
  refine l_aload (pc' := 1167) O dL_law_1166 rfl 1 rfl rfl ?_
  refine l_aload (pc' := 1168) O dL_law_1167 rfl 0 rfl rfl ?_
  refine l_iload (pc' := 1169) O dL_law_1168 rfl 3 rfl rfl ?_
  refine l_iconst (pc' := 1170) (v := 1) O dL_law_1169 (by decide) rfl ?_
  refine l_iadd (pc' := 1171) O dL_law_1170 rfl ?_
  refine l_sld (pc' := 1172) O (i + 1) (nI_add i 1) (by omega) (by omega) dL_law_1171 rfl ?_
  refine l_call (pc' := 1175) (Y := YC EC) (σ := c) (σ1 := c) (pre := []) (post := ((YM EM).1 m)) (n := 1) (As := [.int (xs (i + 1))]) (st := []) (v := some (.int r)) (q0 := 0) O hEC.1 hEC.2 (ctX10_count hC (xs (i + 1)) c r h1) (adC_in EC _) (fstC EC _ _) wm_948 wm_949 wm_950 wm_2 wm_951 (by decide +kernel) (by decide) (gC_0 EC _) hc_10 rfl rfl rfl (Nat.le_of_ble_eq_true rfl) dL_law_1172 (by decide) (by decide) rfl ?_
  refine k_ws (ws' := (YC EC).1 c ++ ((YM EM).1 m ++ [])) (by rw [List.nil_append, List.append_nil]) ?_
  refine l_aload (pc' := 1176) O dL_law_1175 rfl 2 rfl rfl ?_
  refine l_aload (pc' := 1177) O dL_law_1176 rfl 0 rfl rfl ?_
  refine l_iload (pc' := 1178) O dL_law_1177 rfl 3 rfl rfl ?_
  refine l_iconst (pc' := 1179) (v := 1) O dL_law_1178 (by decide) rfl ?_
  refine l_iadd (pc' := 1180) O dL_law_1179 rfl ?_
  refine l_sld (pc' := 1181) O (i + 1) (nI_add i 1) (by omega) (by omega) dL_law_1180 rfl ?_
  refine l_call (pc' := 1184) (Y := YM EM) (σ := m) (σ1 := m1) (pre := ((YC EC).1 c)) (post := []) (n := 1) (As := [.int (xs (i + 1))]) (st := [.int r]) (v := some (.int r)) (q0 := 0) O hEM.1 hEM.2 (ctX11_count hM (xs (i + 1)) m (r, m1) h2) (adM_in EM _) (fstM EM _ _) wm_956 wm_957 wm_958 wm_5 wm_959 (by decide +kernel) (by decide) (gM_0 EM _) hc_11 rfl rfl rfl (Nat.le_of_ble_eq_true rfl) dL_law_1181 (by decide) (by decide) rfl ?_
  refine k_ws (ws' := (YC EC).1 c ++ (YM EM).1 m1) (by rw [List.append_nil]) ?_
  refine l_eq (tgt := 1203) (x := r) O dL_law_1184 (by decide) ?_
  exact kont c m1 hR1
set_option maxRecDepth 100000 in
theorem law_33 {D : va_G} {A : Nat → Prop} {X : XT} {cI cZ cO : ClassId} {b L : Nat} {xs : Nat → Int32} (O : OkL D A X cI cZ cO b L xs) (hL : L ≤ 384) {EC EM : ET} (hEC : EC.1 = D ∧ tyE EC = tyK cI cZ cO) (hEM : EM.1 = D ∧ tyE EM = tyK cI cZ cO) (hC : Dj (YC EC)) (hM : Dj (YM EM)) {i : Nat} (hi : i + 6 ≤ L) {c m : St} (hRel : Rel c m) (kont : ∀ c1 m1 : St, Rel c1 m1 → AtK D A X 4 1203 [(0, .ref b), (1, .ref (EC.2.2.2.2 0)), (2, .ref (EM.2.2.2.2 0)), (3, .int (nI i))] [] ((YC EC).1 c1 ++ (YM EM).1 m1) 64 1126) : AtK D A X 4 1189 [(0, .ref b), (1, .ref (EC.2.2.2.2 0)), (2, .ref (EM.2.2.2.2 0)), (3, .int (nI i))] [] ((YC EC).1 c ++ (YM EM).1 m) 64 1126 := by
  obtain ⟨r, c1, m1, h1, h2, hR1⟩ := sim_digest hRel
  refine l_aload (pc' := 1190) O dL_law_1189 rfl 1 rfl rfl ?_
  refine l_call (pc' := 1193) (Y := YC EC) (σ := c) (σ1 := c1) (pre := []) (post := ((YM EM).1 m)) (n := 0) (As := []) (st := []) (v := some (.long r)) (q0 := 0) O hEC.1 hEC.2 (ctX10_digest hC c (r, c1) h1) (adC_in EC _) (fstC EC _ _) wm_960 wm_961 wm_962 wm_2 wm_963 (by decide +kernel) (by decide) (gC_0 EC _) hc_10 rfl rfl rfl (Nat.le_of_ble_eq_true rfl) dL_law_1190 (by decide) (by decide) rfl ?_
  refine k_ws (ws' := (YC EC).1 c1 ++ ((YM EM).1 m ++ [])) (by rw [List.nil_append, List.append_nil]) ?_
  refine l_aload (pc' := 1194) O dL_law_1193 rfl 2 rfl rfl ?_
  refine l_call (pc' := 1197) (Y := YM EM) (σ := m) (σ1 := m1) (pre := ((YC EC).1 c1)) (post := []) (n := 0) (As := []) (st := [.long r]) (v := some (.long r)) (q0 := 0) O hEM.1 hEM.2 (ctX11_digest hM m (r, m1) h2) (adM_in EM _) (fstM EM _ _) wm_993 wm_994 wm_995 wm_5 wm_996 (by decide +kernel) (by decide) (gM_0 EM _) hc_11 rfl rfl rfl (Nat.le_of_ble_eq_true rfl) dL_law_1194 (by decide) (by decide) rfl ?_
  refine k_ws (ws' := (YC EC).1 c1 ++ (YM EM).1 m1) (by rw [List.append_nil]) ?_
  refine l_eql (pc1 := 1198) (tgt := 1203) (x := r) O dL_law_1197 rfl dL_law_1198 (by decide) ?_
  exact kont c1 m1 hR1
theorem sw_no {x : Int32} {k : Nat} (hk : k < 2 ^ 31) (h : ¬ x = nI k) (hx : 0 ≤ x.toInt) : ¬ x.toInt = k := fun q => h (Int32.toInt_inj.mp (by rw [nI_toInt hk]; exact q))
set_option maxRecDepth 100000 in
set_option maxHeartbeats 4000000 in
theorem law_body {D : va_G} {A : Nat → Prop} {X : XT} {cI cZ cO : ClassId} {b L : Nat} {xs : Nat → Int32} (O : OkL D A X cI cZ cO b L xs) (hL : L ≤ 384) {qC qM : Nat → Nat} (hC : Dj (YC (D, cI, cZ, cO, qC))) (hM : Dj (YM (D, cI, cZ, cO, qM))) {i : Nat} (hi : i + 6 ≤ L) {c m : St} (hRel : Rel c m) (kont : ∀ c1 m1 : St, Rel c1 m1 → AtK D A X 4 1203 [(0, .ref b), (1, .ref (qC 0)), (2, .ref (qM 0)), (3, .int (nI i))] [] ((YC (D, cI, cZ, cO, qC)).1 c1 ++ (YM (D, cI, cZ, cO, qM)).1 m1) 64 1126) : AtK D A X 4 33 [(0, .ref b), (1, .ref (qC 0)), (2, .ref (qM 0)), (3, .int (nI i))] [.int (xs i &&& 63)] ((YC (D, cI, cZ, cO, qC)).1 c ++ (YM (D, cI, cZ, cO, qM)).1 m) 64 1126 := by
  by_cases e0 : xs i &&& 63 = 0
  · refine l_swIn (tgt := 184) (k0 := 0) (off := 151) O e0 dL_law_33 (by decide) (by decide) (by decide) (by decide) ?_
    exact law_0 O hL (EC := (D, cI, cZ, cO, qC)) (EM := (D, cI, cZ, cO, qM)) ⟨rfl, rfl⟩ ⟨rfl, rfl⟩ hC hM hi hRel kont
  by_cases e1 : xs i &&& 63 = 1
  · refine l_swIn (tgt := 217) (k0 := 1) (off := 184) O e1 dL_law_33 (by decide) (by decide) (by decide) (by decide) ?_
    exact law_1 O hL (EC := (D, cI, cZ, cO, qC)) (EM := (D, cI, cZ, cO, qM)) ⟨rfl, rfl⟩ ⟨rfl, rfl⟩ hC hM hi hRel kont
  by_cases e2 : xs i &&& 63 = 2
  · refine l_swIn (tgt := 240) (k0 := 2) (off := 207) O e2 dL_law_33 (by decide) (by decide) (by decide) (by decide) ?_
    exact law_2 O hL (EC := (D, cI, cZ, cO, qC)) (EM := (D, cI, cZ, cO, qM)) ⟨rfl, rfl⟩ ⟨rfl, rfl⟩ hC hM hi hRel kont
  by_cases e3 : xs i &&& 63 = 3
  · refine l_swIn (tgt := 263) (k0 := 3) (off := 230) O e3 dL_law_33 (by decide) (by decide) (by decide) (by decide) ?_
    exact law_3 O hL (EC := (D, cI, cZ, cO, qC)) (EM := (D, cI, cZ, cO, qM)) ⟨rfl, rfl⟩ ⟨rfl, rfl⟩ hC hM hi hRel kont
  by_cases e4 : xs i &&& 63 = 4
  · refine l_swIn (tgt := 286) (k0 := 4) (off := 253) O e4 dL_law_33 (by decide) (by decide) (by decide) (by decide) ?_
    exact law_4 O hL (EC := (D, cI, cZ, cO, qC)) (EM := (D, cI, cZ, cO, qM)) ⟨rfl, rfl⟩ ⟨rfl, rfl⟩ hC hM hi hRel kont
  by_cases e5 : xs i &&& 63 = 5
  · refine l_swIn (tgt := 319) (k0 := 5) (off := 286) O e5 dL_law_33 (by decide) (by decide) (by decide) (by decide) ?_
    exact law_5 O hL (EC := (D, cI, cZ, cO, qC)) (EM := (D, cI, cZ, cO, qM)) ⟨rfl, rfl⟩ ⟨rfl, rfl⟩ hC hM hi hRel kont
  by_cases e6 : xs i &&& 63 = 6
  · refine l_swIn (tgt := 342) (k0 := 6) (off := 309) O e6 dL_law_33 (by decide) (by decide) (by decide) (by decide) ?_
    exact law_6 O hL (EC := (D, cI, cZ, cO, qC)) (EM := (D, cI, cZ, cO, qM)) ⟨rfl, rfl⟩ ⟨rfl, rfl⟩ hC hM hi hRel kont
  by_cases e7 : xs i &&& 63 = 7
  · refine l_swIn (tgt := 375) (k0 := 7) (off := 342) O e7 dL_law_33 (by decide) (by decide) (by decide) (by decide) ?_
    exact law_7 O hL (EC := (D, cI, cZ, cO, qC)) (EM := (D, cI, cZ, cO, qM)) ⟨rfl, rfl⟩ ⟨rfl, rfl⟩ hC hM hi hRel kont
  by_cases e8 : xs i &&& 63 = 8
  · refine l_swIn (tgt := 398) (k0 := 8) (off := 365) O e8 dL_law_33 (by decide) (by decide) (by decide) (by decide) ?_
    exact law_8 O hL (EC := (D, cI, cZ, cO, qC)) (EM := (D, cI, cZ, cO, qM)) ⟨rfl, rfl⟩ ⟨rfl, rfl⟩ hC hM hi hRel kont
  by_cases e9 : xs i &&& 63 = 9
  · refine l_swIn (tgt := 432) (k0 := 9) (off := 399) O e9 dL_law_33 (by decide) (by decide) (by decide) (by decide) ?_
    exact law_9 O hL (EC := (D, cI, cZ, cO, qC)) (EM := (D, cI, cZ, cO, qM)) ⟨rfl, rfl⟩ ⟨rfl, rfl⟩ hC hM hi hRel kont
  by_cases e10 : xs i &&& 63 = 10
  · refine l_swIn (tgt := 466) (k0 := 10) (off := 433) O e10 dL_law_33 (by decide) (by decide) (by decide) (by decide) ?_
    exact law_10 O hL (EC := (D, cI, cZ, cO, qC)) (EM := (D, cI, cZ, cO, qM)) ⟨rfl, rfl⟩ ⟨rfl, rfl⟩ hC hM hi hRel kont
  by_cases e11 : xs i &&& 63 = 11
  · refine l_swIn (tgt := 510) (k0 := 11) (off := 477) O e11 dL_law_33 (by decide) (by decide) (by decide) (by decide) ?_
    exact law_11 O hL (EC := (D, cI, cZ, cO, qC)) (EM := (D, cI, cZ, cO, qM)) ⟨rfl, rfl⟩ ⟨rfl, rfl⟩ hC hM hi hRel kont
  by_cases e12 : xs i &&& 63 = 12
  · refine l_swIn (tgt := 534) (k0 := 12) (off := 501) O e12 dL_law_33 (by decide) (by decide) (by decide) (by decide) ?_
    exact law_12 O hL (EC := (D, cI, cZ, cO, qC)) (EM := (D, cI, cZ, cO, qM)) ⟨rfl, rfl⟩ ⟨rfl, rfl⟩ hC hM hi hRel kont
  by_cases e13 : xs i &&& 63 = 13
  · refine l_swIn (tgt := 547) (k0 := 13) (off := 514) O e13 dL_law_33 (by decide) (by decide) (by decide) (by decide) ?_
    exact law_13 O hL (EC := (D, cI, cZ, cO, qC)) (EM := (D, cI, cZ, cO, qM)) ⟨rfl, rfl⟩ ⟨rfl, rfl⟩ hC hM hi hRel kont
  by_cases e14 : xs i &&& 63 = 14
  · refine l_swIn (tgt := 580) (k0 := 14) (off := 547) O e14 dL_law_33 (by decide) (by decide) (by decide) (by decide) ?_
    exact law_14 O hL (EC := (D, cI, cZ, cO, qC)) (EM := (D, cI, cZ, cO, qM)) ⟨rfl, rfl⟩ ⟨rfl, rfl⟩ hC hM hi hRel kont
  by_cases e15 : xs i &&& 63 = 15
  · refine l_swIn (tgt := 613) (k0 := 15) (off := 580) O e15 dL_law_33 (by decide) (by decide) (by decide) (by decide) ?_
    exact law_15 O hL (EC := (D, cI, cZ, cO, qC)) (EM := (D, cI, cZ, cO, qM)) ⟨rfl, rfl⟩ ⟨rfl, rfl⟩ hC hM hi hRel kont
  by_cases e16 : xs i &&& 63 = 16
  · refine l_swIn (tgt := 626) (k0 := 16) (off := 593) O e16 dL_law_33 (by decide) (by decide) (by decide) (by decide) ?_
    exact law_16 O hL (EC := (D, cI, cZ, cO, qC)) (EM := (D, cI, cZ, cO, qM)) ⟨rfl, rfl⟩ ⟨rfl, rfl⟩ hC hM hi hRel kont
  by_cases e17 : xs i &&& 63 = 17
  · refine l_swIn (tgt := 669) (k0 := 17) (off := 636) O e17 dL_law_33 (by decide) (by decide) (by decide) (by decide) ?_
    exact law_17 O hL (EC := (D, cI, cZ, cO, qC)) (EM := (D, cI, cZ, cO, qM)) ⟨rfl, rfl⟩ ⟨rfl, rfl⟩ hC hM hi hRel kont
  by_cases e18 : xs i &&& 63 = 18
  · refine l_swIn (tgt := 713) (k0 := 18) (off := 680) O e18 dL_law_33 (by decide) (by decide) (by decide) (by decide) ?_
    exact law_18 O hL (EC := (D, cI, cZ, cO, qC)) (EM := (D, cI, cZ, cO, qM)) ⟨rfl, rfl⟩ ⟨rfl, rfl⟩ hC hM hi hRel kont
  by_cases e19 : xs i &&& 63 = 19
  · refine l_swIn (tgt := 746) (k0 := 19) (off := 713) O e19 dL_law_33 (by decide) (by decide) (by decide) (by decide) ?_
    exact law_19 O hL (EC := (D, cI, cZ, cO, qC)) (EM := (D, cI, cZ, cO, qM)) ⟨rfl, rfl⟩ ⟨rfl, rfl⟩ hC hM hi hRel kont
  by_cases e20 : xs i &&& 63 = 20
  · refine l_swIn (tgt := 779) (k0 := 20) (off := 746) O e20 dL_law_33 (by decide) (by decide) (by decide) (by decide) ?_
    exact law_20 O hL (EC := (D, cI, cZ, cO, qC)) (EM := (D, cI, cZ, cO, qM)) ⟨rfl, rfl⟩ ⟨rfl, rfl⟩ hC hM hi hRel kont
  by_cases e21 : xs i &&& 63 = 21
  · refine l_swIn (tgt := 792) (k0 := 21) (off := 759) O e21 dL_law_33 (by decide) (by decide) (by decide) (by decide) ?_
    exact law_21 O hL (EC := (D, cI, cZ, cO, qC)) (EM := (D, cI, cZ, cO, qM)) ⟨rfl, rfl⟩ ⟨rfl, rfl⟩ hC hM hi hRel kont
  by_cases e22 : xs i &&& 63 = 22
  · refine l_swIn (tgt := 815) (k0 := 22) (off := 782) O e22 dL_law_33 (by decide) (by decide) (by decide) (by decide) ?_
    exact law_22 O hL (EC := (D, cI, cZ, cO, qC)) (EM := (D, cI, cZ, cO, qM)) ⟨rfl, rfl⟩ ⟨rfl, rfl⟩ hC hM hi hRel kont
  by_cases e23 : xs i &&& 63 = 23
  · refine l_swIn (tgt := 839) (k0 := 23) (off := 806) O e23 dL_law_33 (by decide) (by decide) (by decide) (by decide) ?_
    exact law_23 O hL (EC := (D, cI, cZ, cO, qC)) (EM := (D, cI, cZ, cO, qM)) ⟨rfl, rfl⟩ ⟨rfl, rfl⟩ hC hM hi hRel kont
  by_cases e24 : xs i &&& 63 = 24
  · refine l_swIn (tgt := 892) (k0 := 24) (off := 859) O e24 dL_law_33 (by decide) (by decide) (by decide) (by decide) ?_
    exact law_24 O hL (EC := (D, cI, cZ, cO, qC)) (EM := (D, cI, cZ, cO, qM)) ⟨rfl, rfl⟩ ⟨rfl, rfl⟩ hC hM hi hRel kont
  by_cases e25 : xs i &&& 63 = 25
  · refine l_swIn (tgt := 905) (k0 := 25) (off := 872) O e25 dL_law_33 (by decide) (by decide) (by decide) (by decide) ?_
    exact law_25 O hL (EC := (D, cI, cZ, cO, qC)) (EM := (D, cI, cZ, cO, qM)) ⟨rfl, rfl⟩ ⟨rfl, rfl⟩ hC hM hi hRel kont
  by_cases e26 : xs i &&& 63 = 26
  · refine l_swIn (tgt := 918) (k0 := 26) (off := 885) O e26 dL_law_33 (by decide) (by decide) (by decide) (by decide) ?_
    exact law_26 O hL (EC := (D, cI, cZ, cO, qC)) (EM := (D, cI, cZ, cO, qM)) ⟨rfl, rfl⟩ ⟨rfl, rfl⟩ hC hM hi hRel kont
  by_cases e27 : xs i &&& 63 = 27
  · refine l_swIn (tgt := 961) (k0 := 27) (off := 928) O e27 dL_law_33 (by decide) (by decide) (by decide) (by decide) ?_
    exact law_27 O hL (EC := (D, cI, cZ, cO, qC)) (EM := (D, cI, cZ, cO, qM)) ⟨rfl, rfl⟩ ⟨rfl, rfl⟩ hC hM hi hRel kont
  by_cases e28 : xs i &&& 63 = 28
  · refine l_swIn (tgt := 984) (k0 := 28) (off := 951) O e28 dL_law_33 (by decide) (by decide) (by decide) (by decide) ?_
    exact law_28 O hL (EC := (D, cI, cZ, cO, qC)) (EM := (D, cI, cZ, cO, qM)) ⟨rfl, rfl⟩ ⟨rfl, rfl⟩ hC hM hi hRel kont
  by_cases e29 : xs i &&& 63 = 29
  · refine l_swIn (tgt := 1037) (k0 := 29) (off := 1004) O e29 dL_law_33 (by decide) (by decide) (by decide) (by decide) ?_
    exact law_29 O hL (EC := (D, cI, cZ, cO, qC)) (EM := (D, cI, cZ, cO, qM)) ⟨rfl, rfl⟩ ⟨rfl, rfl⟩ hC hM hi hRel kont
  by_cases e30 : xs i &&& 63 = 30
  · refine l_swIn (tgt := 1080) (k0 := 30) (off := 1047) O e30 dL_law_33 (by decide) (by decide) (by decide) (by decide) ?_
    exact law_30 O hL (EC := (D, cI, cZ, cO, qC)) (EM := (D, cI, cZ, cO, qM)) ⟨rfl, rfl⟩ ⟨rfl, rfl⟩ hC hM hi hRel kont
  by_cases e31 : xs i &&& 63 = 31
  · refine l_swIn (tgt := 1143) (k0 := 31) (off := 1110) O e31 dL_law_33 (by decide) (by decide) (by decide) (by decide) ?_
    exact law_31 O hL (EC := (D, cI, cZ, cO, qC)) (EM := (D, cI, cZ, cO, qM)) ⟨rfl, rfl⟩ ⟨rfl, rfl⟩ hC hM hi hRel kont
  by_cases e32 : xs i &&& 63 = 32
  · refine l_swIn (tgt := 1166) (k0 := 32) (off := 1133) O e32 dL_law_33 (by decide) (by decide) (by decide) (by decide) ?_
    exact law_32 O hL (EC := (D, cI, cZ, cO, qC)) (EM := (D, cI, cZ, cO, qM)) ⟨rfl, rfl⟩ ⟨rfl, rfl⟩ hC hM hi hRel kont
  by_cases e33 : xs i &&& 63 = 33
  · refine l_swIn (tgt := 1189) (k0 := 33) (off := 1156) O e33 dL_law_33 (by decide) (by decide) (by decide) (by decide) ?_
    exact law_33 O hL (EC := (D, cI, cZ, cO, qC)) (EM := (D, cI, cZ, cO, qM)) ⟨rfl, rfl⟩ ⟨rfl, rfl⟩ hC hM hi hRel kont
  refine l_swOut (tgt := 1203) O dL_law_33 ?_ (by decide) (kont c m hRel)
  right
  have h0 : 0 ≤ (xs i &&& 63).toInt := by
    have := pk_andIn (xs i) (m := 63) 6 (by decide) (by decide)
    exact (vp_in_iff.mp this).1
  have f0 := sw_no (k := 0) (by decide) e0 h0
  have f1 := sw_no (k := 1) (by decide) e1 h0
  have f2 := sw_no (k := 2) (by decide) e2 h0
  have f3 := sw_no (k := 3) (by decide) e3 h0
  have f4 := sw_no (k := 4) (by decide) e4 h0
  have f5 := sw_no (k := 5) (by decide) e5 h0
  have f6 := sw_no (k := 6) (by decide) e6 h0
  have f7 := sw_no (k := 7) (by decide) e7 h0
  have f8 := sw_no (k := 8) (by decide) e8 h0
  have f9 := sw_no (k := 9) (by decide) e9 h0
  have f10 := sw_no (k := 10) (by decide) e10 h0
  have f11 := sw_no (k := 11) (by decide) e11 h0
  have f12 := sw_no (k := 12) (by decide) e12 h0
  have f13 := sw_no (k := 13) (by decide) e13 h0
  have f14 := sw_no (k := 14) (by decide) e14 h0
  have f15 := sw_no (k := 15) (by decide) e15 h0
  have f16 := sw_no (k := 16) (by decide) e16 h0
  have f17 := sw_no (k := 17) (by decide) e17 h0
  have f18 := sw_no (k := 18) (by decide) e18 h0
  have f19 := sw_no (k := 19) (by decide) e19 h0
  have f20 := sw_no (k := 20) (by decide) e20 h0
  have f21 := sw_no (k := 21) (by decide) e21 h0
  have f22 := sw_no (k := 22) (by decide) e22 h0
  have f23 := sw_no (k := 23) (by decide) e23 h0
  have f24 := sw_no (k := 24) (by decide) e24 h0
  have f25 := sw_no (k := 25) (by decide) e25 h0
  have f26 := sw_no (k := 26) (by decide) e26 h0
  have f27 := sw_no (k := 27) (by decide) e27 h0
  have f28 := sw_no (k := 28) (by decide) e28 h0
  have f29 := sw_no (k := 29) (by decide) e29 h0
  have f30 := sw_no (k := 30) (by decide) e30 h0
  have f31 := sw_no (k := 31) (by decide) e31 h0
  have f32 := sw_no (k := 32) (by decide) e32 h0
  have f33 := sw_no (k := 33) (by decide) e33 h0
  omega
theorem law_cond {i L : Nat} (hL : L ≤ 384) (hi : i ≤ L + 6) : (Int32.ofNat L - 6 < nI i) ↔ L < i + 6 := by
  have h1 : (Int32.ofNat L - 6).toInt = (L : Int) - 6 := pk_sub_toInt (a := L) (b := 6) (by omega) (by decide)
  have h2 : (nI i).toInt = i := nI_toInt (by omega)
  rw [Int32.lt_iff_toInt_lt, h1, h2]
  omega
set_option maxRecDepth 100000 in
theorem law_loop {p : Program} {l : Launch} {e : Env} {s : State} {mi : MethodId} {below : List Frame} {meth : Method} {cd : Code} {D : va_G} {cI cZ cO : ClassId} {b L : Nat} {xs : Nat → Int32} (O : OkL D (fun q => s.heap.size ≤ q) (XL p l e s mi below meth cd b) cI cZ cO b L xs) (hr : meth.sig.returnType = ret) (hlocks : meth.locks = false) (hL : L ≤ 384) {qC qM : Nat → Nat} (hC : Dj (YC (D, cI, cZ, cO, qC))) (hM : Dj (YM (D, cI, cZ, cO, qM))) : ∀ (n i : Nat), i ≤ L + 6 → L + 6 - i ≤ 6 * n → ∀ c m : St, Rel c m → AtK D (fun q => s.heap.size ≤ q) (XL p l e s mi below meth cd b) 4 18 [(0, .ref b), (1, .ref (qC 0)), (2, .ref (qM 0)), (3, .int (nI i))] [] ((YC (D, cI, cZ, cO, qC)).1 c ++ (YM (D, cI, cZ, cO, qM)).1 m) 64 1126 := by
  intro n
  induction n with
  | zero =>
    intro i h1 h2 c m hRel
    refine l_iload (pc' := 19) O dL_law_18 rfl 3 rfl rfl ?_
    refine l_aload (pc' := 20) O dL_law_19 rfl 0 rfl rfl ?_
    refine l_slen (pc' := 21) O dL_law_20 rfl ?_
    refine l_bipush (pc' := 23) (v := 6) O dL_law_21 (by decide) rfl ?_
    refine l_isub (pc' := 24) O dL_law_23 rfl ?_
    refine l_gt (pc' := 27) (tgt := 1209) O dL_law_24 (by decide) rfl (fun _ => ?_) (fun c0 => absurd ((law_cond hL h1).mpr (by omega)) c0)
    refine l_iconst (pc' := 1210) (v := 1) O dL_law_1209 (by decide) rfl ?_
    intro H locs ls hP hD hS hl
    refine va_forget (fun q hq => hS.2.2 q hq) ?_
    refine W.widen (k := 600000) (n := 7302250) (by decide) (by decide) ?_
    exact lw_ret O.1 O.2.1 hr hlocks dL_law_1210
  | succ n ih =>
    intro i h1 h2 c m hRel
    refine l_iload (pc' := 19) O dL_law_18 rfl 3 rfl rfl ?_
    refine l_aload (pc' := 20) O dL_law_19 rfl 0 rfl rfl ?_
    refine l_slen (pc' := 21) O dL_law_20 rfl ?_
    refine l_bipush (pc' := 23) (v := 6) O dL_law_21 (by decide) rfl ?_
    refine l_isub (pc' := 24) O dL_law_23 rfl ?_
    refine l_gt (pc' := 27) (tgt := 1209) O dL_law_24 (by decide) rfl (fun _ => ?_) (fun c0 => ?_)
    · refine l_iconst (pc' := 1210) (v := 1) O dL_law_1209 (by decide) rfl ?_
      intro H locs ls hP hD hS hl
      refine va_forget (fun q hq => hS.2.2 q hq) ?_
      refine W.widen (k := 600000) (n := 7302250) (by decide) (by decide) ?_
      exact lw_ret O.1 O.2.1 hr hlocks dL_law_1210
    · have hi : i + 6 ≤ L := by
        rcases Nat.lt_or_ge L (i + 6) with q | q
        · exact absurd ((law_cond hL h1).mpr q) c0
        · exact q
      refine l_aload (pc' := 28) O dL_law_27 rfl 0 rfl rfl ?_
      refine l_iload (pc' := 29) O dL_law_28 rfl 3 rfl rfl ?_
      refine l_sld (pc' := 30) O i rfl (by omega) (by omega) dL_law_29 rfl ?_
      refine l_bipush (pc' := 32) (v := 63) O dL_law_30 (by decide) rfl ?_
      refine l_iand (pc' := 33) O dL_law_32 rfl ?_
      refine law_body O hL hC hM hi hRel (fun c1 m1 hR1 => ?_)
      refine l_iinc (pc' := 1206) (v := nI (i + 6)) (lv' := [(3, .int (nI (i + 6))), (0, .ref b), (1, .ref (qC 0)), (2, .ref (qM 0))]) O dL_law_1203 3 rfl (nI_add i 6) (by decide) rfl rfl ?_
      refine l_goto (tgt := 18) O dL_law_1206 (by decide) ?_
      refine l_sub (lv' := [(0, .ref b), (1, .ref (qC 0)), (2, .ref (qM 0)), (3, .int (nI (i + 6)))]) [1, 2, 3, 0] rfl ?_
      exact ih (i + 6) (by omega) (by omega) c1 m1 hR1
set_option maxRecDepth 100000 in
set_option maxHeartbeats 4000000 in
/-- THE LAW, from its entry -/
theorem whole_start {p : Program} {e : Env} {s : State} {m : MethodId} {below : List Frame} {meth : Method} {c : Code} (l : Launch) {b L : Nat} {xs : Nat → Int32} (hL : L ≤ 384) (C0 : lw_At p s m meth c b L xs) : W p l e room_1 s m #[Value.ref b] below meth c s.heap [] 0 0 (lw_Z below #[Value.ref b] s) (entryFrame m ([Value.ref b] : List Value).toArray 4) := by
  obtain ⟨hx, hb, hr, hml, hown, hts0, hX, hbl, hlocks, hgv⟩ := id C0
  have hts : ∀ w ∈ wsL_law, w.before #[Value.ref b] s = true := fun w h => hts0 w (wsL_law_in w h)
  have hA : ∀ q : Nat, s.heap.size ≤ q → (fun q : Nat => s.heap.size ≤ q) q := fun _ h => h
  have hbA : ¬ (fun q : Nat => s.heap.size ≤ q) b := Nat.not_le.mpr hbl
  obtain ⟨c0, iS0, hKn0⟩ := u_known (C := RX0) (T := TX0) (N := 5) (n := 5) hts inlX0 (hts (.instantiable RX0 5) wm_42)
  obtain ⟨c1, iS1, hKn1⟩ := u_known (C := RX1) (T := TX1) (N := 3) (n := 3) hts inlX1 (hts (.instantiable RX1 3) wm_18)
  obtain ⟨c2, iS2, hKn2⟩ := u_known (C := RX2) (T := TX2) (N := 2) (n := 2) hts inlX2 (hts (.instantiable RX2 2) wm_50)
  obtain ⟨c3, iS3, hKn3⟩ := u_known (C := RX3) (T := TX3) (N := 2) (n := 2) hts inlX3 (hts (.instantiable RX3 2) wm_26)
  obtain ⟨c4, iS4, hKn4⟩ := u_known (C := RX4) (T := TX4) (N := 2) (n := 2) hts inlX4 (hts (.instantiable RX4 2) wm_22)
  obtain ⟨c5, iS5, hKn5⟩ := u_known (C := RX5) (T := TX5) (N := 4) (n := 4) hts inlX5 (hts (.instantiable RX5 4) wm_46)
  obtain ⟨c6, iS6, hKn6⟩ := u_known (C := RX6) (T := TX6) (N := 4) (n := 4) hts inlX6 (hts (.instantiable RX6 4) wm_38)
  obtain ⟨c7, iS7, hKn7⟩ := u_known (C := RX7) (T := TX7) (N := 2) (n := 2) hts inlX7 (hts (.instantiable RX7 2) wm_13)
  obtain ⟨c8, iS8, hKn8⟩ := u_known (C := RX8) (T := TX8) (N := 2) (n := 2) hts inlX8 (hts (.instantiable RX8 2) wm_34)
  obtain ⟨c9, iS9, hKn9⟩ := u_known (C := RX9) (T := TX9) (N := 7) (n := 7) hts inlX9 (hts (.instantiable RX9 7) wm_30)
  obtain ⟨c10, iS10, hKn10⟩ := u_known (C := RX10) (T := TX10) (N := 11) (n := 11) hts inlX10 (hts (.instantiable RX10 11) wm_1)
  obtain ⟨c11, iS11, hKn11⟩ := u_known (C := RX11) (T := TX11) (N := 25) (n := 25) hts inlX11 (hts (.instantiable RX11 25) wm_4)
  obtain ⟨dC, dI, hKc⟩ : ∃ (dC : Nat → ClassId) (dI : Nat → Nat → Nat), ∀ (k : Nat) (q : vw_C), vwCl[k]? = some q → u_Kn s q.1 q.2.1 q.2.2 (dC k) (dI k) := by
    refine ⟨fun k => if k = 0 then c0 else if k = 1 then c1 else if k = 2 then c2 else if k = 3 then c3 else if k = 4 then c4 else if k = 5 then c5 else if k = 6 then c6 else if k = 7 then c7 else if k = 8 then c8 else if k = 9 then c9 else if k = 10 then c10 else c11, fun k => if k = 0 then iS0 else if k = 1 then iS1 else if k = 2 then iS2 else if k = 3 then iS3 else if k = 4 then iS4 else if k = 5 then iS5 else if k = 6 then iS6 else if k = 7 then iS7 else if k = 8 then iS8 else if k = 9 then iS9 else if k = 10 then iS10 else iS11, ?_⟩
    intro k q hq
    match k, hq with
    | 0, hq => cases hq; exact hKn0
    | 1, hq => cases hq; exact hKn1
    | 2, hq => cases hq; exact hKn2
    | 3, hq => cases hq; exact hKn3
    | 4, hq => cases hq; exact hKn4
    | 5, hq => cases hq; exact hKn5
    | 6, hq => cases hq; exact hKn6
    | 7, hq => cases hq; exact hKn7
    | 8, hq => cases hq; exact hKn8
    | 9, hq => cases hq; exact hKn9
    | 10, hq => cases hq; exact hKn10
    | 11, hq => cases hq; exact hKn11
    | k + 12, hq => simp [vwCl] at hq
  obtain ⟨cI, kI, mI, fI, gI, hI⟩ := Cond.arrayClass_spec (hts (.arrayClass .int) wm_62)
  obtain ⟨cZ, kZ, mZ, fZ, gZ, hZ⟩ := Cond.arrayClass_spec (hts (.arrayClass .boolean) wm_85)
  have hao := hts0 (.arrayOver (.array .int)) (List.mem_of_getElem? (i := 101) rfl)
  obtain ⟨mO, cO, kO, fm, -, gO, hO, fO⟩ := Jvm.Stand.arrayOver_specB hao
  have hAr : ∀ (cA : ClassId) (kA : Class) (comp : ClassId) (ty : FieldType), s.vm.classes[cA]? = some kA → kA.kind = .array comp ty → ArrOfT s cA ty := fun cA kA comp ty h1 h2 n z => ⟨fun k h => (by cases h), kA, h1, comp, h2⟩
  have hK : va_K (dC, dI) vwCl (tyK cI cZ cO) s := ⟨hKc, fun k q h => by
    match k, h with
    | 0, h => cases h; exact ⟨hAr _ _ _ _ gI hI, fI⟩
    | 1, h => cases h; exact ⟨hAr _ _ _ _ gZ hZ, fZ⟩
    | 2, h => cases h; exact ⟨hAr _ _ _ _ gO hO, fO⟩
    | k + 3, h => simp at h⟩
  have O : OkL (dC, dI) (fun q : Nat => s.heap.size ≤ q) (XL p l e s m below meth c b) cI cZ cO b L xs := ⟨hx, hb, hml, hown, hts, hK, rfl, hA, hX, hbl, hbA⟩
  have hext : exT s := ⟨va_AOA.of hao, va_Nw.of rfl (hts0 (.methodLinkNest RX10 23 yX1_init RX10) (List.mem_of_getElem? (i := 96) rfl)), va_Nw.of rfl (hts0 (.methodLinkNest RX10 30 yX4_init RX10) (List.mem_of_getElem? (i := 114) rfl)), va_Nw.of rfl (hts0 (.methodLinkNest RX10 37 yX3_init RX10) (List.mem_of_getElem? (i := 127) rfl)), va_Nw.of rfl (hts0 (.methodLinkNest RX10 44 yX9_init RX10) (List.mem_of_getElem? (i := 140) rfl)), va_Nw.of rfl (hts0 (.methodLinkNest RX10 51 yX8_init RX10) (List.mem_of_getElem? (i := 169) rfl)), va_Nw.of rfl (hts0 (.methodLinkNest RX10 58 yX6_init RX10) (List.mem_of_getElem? (i := 182) rfl)), va_Nw.of rfl (hts0 (.methodLinkNest RX10 65 yX0_init RX10) (List.mem_of_getElem? (i := 201) rfl)), va_Nw.of rfl (hts0 (.methodLinkNest RX10 72 yX5_init RX10) (List.mem_of_getElem? (i := 223) rfl)), va_Nw.of rfl (hts0 (.methodLinkNest RX10 79 yX2_init RX10) (List.mem_of_getElem? (i := 243) rfl))⟩
  have hl := lv_entry ([.ref b]) (n := 4) (Nat.le_of_ble_eq_true rfl)
  rw [lg_entry_eq]
  have hgo : AtK (dC, dI) (fun q : Nat => s.heap.size ≤ q) (XL p l e s m below meth c b) 4 0 [(0, .ref b)] [] [] 0 0 := by
    refine l_new (pc' := 3) (ci := 10) (fs := [.null, .null, .null, .null, .null, .null, .null, .null, .null, .null, .null]) (cells' := 1) (slots' := 11) O tyX10 tyX10_ok inlX10 wm_0 wm_1 wm_2 hc_10 (fun j hj => by rcases (show j = 0 ∨ j = 1 ∨ j = 2 ∨ j = 3 ∨ j = 4 ∨ j = 5 ∨ j = 6 ∨ j = 7 ∨ j = 8 ∨ j = 9 ∨ j = 10 by omega) with rfl | rfl | rfl | rfl | rfl | rfl | rfl | rfl | rfl | rfl | rfl <;> rfl) rfl rfl (by decide) (by decide) dL_law_0 rfl (fun q0 => ?_)
    refine l_dup (pc' := 4) O dL_law_3 rfl rfl ?_
    refine l_init (pc' := 7) (rest := []) (cells' := 48) (slots' := 551) O (ctK_X10 (dC, dI) cI cZ cO q0) (fun a U g mk h => ⟨va_AOA.moved (Vm.Alike.refl _) h.1, h.2⟩) (fun U hW => ⟨va_AOA.moved hW.alike hext.1, va_Nw.warmM hW hext.2.1, va_Nw.warmM hW hext.2.2.1, va_Nw.warmM hW hext.2.2.2.1, va_Nw.warmM hW hext.2.2.2.2.1, va_Nw.warmM hW hext.2.2.2.2.2.1, va_Nw.warmM hW hext.2.2.2.2.2.2.1, va_Nw.warmM hW hext.2.2.2.2.2.2.2.1, va_Nw.warmM hW hext.2.2.2.2.2.2.2.2.1, va_Nw.warmM hW hext.2.2.2.2.2.2.2.2.2⟩) rfl wm_6 wm_7 wm_2 wm_8 rfl (by decide +kernel) (by decide) (by decide) (by decide) (Nat.le_of_ble_eq_true rfl) dL_law_4 rfl rfl rfl (fun aC => ?_)
    refine l_astore (pc' := 8) (lv' := [(1, .ref q0), (0, .ref b)]) O dL_law_7 rfl (by decide) rfl rfl ?_
    refine l_new (pc' := 11) (ci := 11) (fs := [.null, .null, .null, .null, .int 0, .null, .null, .int 0, .int 0, .null, .null, .int 0, .int 0, .null, .int 0, .int 0, .int 0, .null, .null, .null, .int 0, .null, .null, .int 0, .null]) (cells' := 49) (slots' := 576) O tyX11 tyX11_ok inlX11 wm_3 wm_4 wm_5 hc_11 (fun j hj => by rcases (show j = 0 ∨ j = 1 ∨ j = 2 ∨ j = 3 ∨ j = 4 ∨ j = 5 ∨ j = 6 ∨ j = 7 ∨ j = 8 ∨ j = 9 ∨ j = 10 ∨ j = 11 ∨ j = 12 ∨ j = 13 ∨ j = 14 ∨ j = 15 ∨ j = 16 ∨ j = 17 ∨ j = 18 ∨ j = 19 ∨ j = 20 ∨ j = 21 ∨ j = 22 ∨ j = 23 ∨ j = 24 by omega) with rfl | rfl | rfl | rfl | rfl | rfl | rfl | rfl | rfl | rfl | rfl | rfl | rfl | rfl | rfl | rfl | rfl | rfl | rfl | rfl | rfl | rfl | rfl | rfl | rfl <;> rfl) rfl rfl (by decide) (by decide) dL_law_8 rfl (fun q1 => ?_)
    refine l_dup (pc' := 12) O dL_law_11 rfl rfl ?_
    refine l_init (pc' := 15) (rest := [] ++ CW ((dC, dI), cI, cZ, cO, fun k => if k = 0 then q0 else aC k) cst0) (cells' := 64) (slots' := 1126) O (ctK_X11 (dC, dI) cI cZ cO q1) (fun _ _ _ _ h => h) (fun _ _ => trivial) rfl wm_125 wm_126 wm_5 wm_127 rfl (by decide +kernel) (by decide) (by decide) (by decide) (Nat.le_of_ble_eq_true rfl) dL_law_12 rfl rfl rfl (fun aM => ?_)
    refine l_astore (pc' := 16) (lv' := [(2, .ref q1), (1, .ref q0), (0, .ref b)]) O dL_law_15 rfl (by decide) rfl rfl ?_
    refine l_iconst (pc' := 17) (v := 0) O dL_law_16 (by decide) rfl ?_
    refine l_istore (pc' := 18) (lv' := [(3, .int 0), (2, .ref q1), (1, .ref q0), (0, .ref b)]) O dL_law_17 rfl (by decide) rfl rfl ?_
    refine l_sub (lv' := [(0, .ref b), (1, .ref q0), (2, .ref q1), (3, .int 0)]) [3, 2, 1, 0] rfl ?_
    intro H locs ls hP hD hS hl
    have hC : Dj (YC ((dC, dI), cI, cZ, cO, fun k => if k = 0 then q0 else aC k)) := Dj_C (pre := []) (σ0 := cst0) (post := MW ((dC, dI), cI, cZ, cO, fun k => if k = 0 then q1 else aM k) mst0) (by rw [List.nil_append] at hD ⊢; exact hD)
    have hM : Dj (YM ((dC, dI), cI, cZ, cO, fun k => if k = 0 then q1 else aM k)) := Dj_M (pre := CW ((dC, dI), cI, cZ, cO, fun k => if k = 0 then q0 else aC k) cst0) (σ0 := mst0) (post := []) (by rw [List.nil_append] at hD; rw [List.append_nil]; exact hD)
    exact law_loop O hr hlocks hL hC hM (L + 6) 0 (by omega) (by omega) cst0 mst0 rel0 H locs ls (by rw [List.nil_append] at hP; exact hP) (by rw [List.nil_append] at hD; exact hD) hS hl
  exact hgo s.heap [] _ (fun k q h => by simp at h) ⟨fun i j p q h => by simp at h, fun k q h => by simp at h⟩ va_S.rf hl
set_option maxHeartbeats 4000000 in
theorem lw_walk (l : Launch) (b : Addr) (xs : List Int32) : MetFree l x (headSpec (Jvm.Cond.code x code maxLocals ret :: tables_1) room_1) (lw_P b xs) (fun _ _ _ _ _ => True) lw_Q := by
  refine MetFree.of_bodyS (code := code) (maxLocals := maxLocals) (ret := ret) (by decide) ?_ ?_
  · intro args s m h hn
    obtain ⟨meth, c, h1, h2, h3, h4, h5, h6, -, -⟩ := Cond.code_spec hn (atoms_spec (ws := Jvm.Cond.code x code maxLocals ret :: tables_1) h _ List.mem_cons_self)
    exact ⟨meth, c, h1, h2, h3, h4, h5, h6⟩
  · intro p e s m args below meth c s₁ B hml0 hP _
    obtain ⟨rfl, hx, hbd, hgv⟩ := hP
    obtain ⟨scr, harrAt, hlist, hof, hsmall⟩ := hx
    obtain ⟨hcb, hkn, -, -⟩ := State.arrayAt?_spec harrAt
    have hown : s.vm.findClass R_law = some m.cls := findClass_of_methodNamed B.named
    have hts0 : ∀ c ∈ (Jvm.Cond.code x code maxLocals ret :: tables_1), c.before #[Value.ref b] s = true := atoms_spec (ws := Jvm.Cond.code x code maxLocals ret :: tables_1) B.pre
    have hts : ∀ w ∈ lw_tbl, w.before #[Value.ref b] s = true := k2_hts_sels lw_privs (fun w hw => hts0 w (List.mem_cons_of_mem _ hw)) lw_privs_ok
    have hml : c.maxLocals = 4 := B.maxLocals_eq (hts0 _ List.mem_cons_self)
    have X₀ : Stand p l e room_1 s m #[Value.ref b] below meth c s₁ [] 0 0 := Stand.of_body B
    have hh0 : s₁.heap = s.heap := by rw [B.state]; rfl
    have hsz : scr.slots.size = xs.length := by rw [← Array.length_toList, hlist, List.length_map]
    have hval : ∀ j : Nat, j < xs.length → scr.slots[j]? = some (.int (xs.getD j 0)) := fun j hj => by
      rw [← Array.getElem?_toList, hlist]
      simp [hj]
    have hbl : b < s.heap.size := (Array.getElem?_eq_some_iff.mp hcb).1
    have hX : va_X b xs.length (fun j => xs.getD j 0) s s.heap := ⟨scr, hcb, hof, hkn, hsz, hval⟩
    have K : W p l e room_1 s m #[Value.ref b] below meth c s₁.heap [] 0 0 (lw_Z below #[Value.ref b] s) (entryFrame m ([Value.ref b] : List Value).toArray 4) := by
      rw [hh0]
      exact whole_start l hbd ⟨B.exec, B.bytes, B.returns, hml, hown, hts, hX, hbl, B.notSynchronized, hgv⟩
    obtain ⟨t, a1, o, b1, b2, b3⟩ := K s₁ rfl X₀
    exact ⟨t, o, a1, b1, b2, b3⟩
theorem lw_pre_spec {args : Array Value} {s : State} (h : (Jvm.Cond.and given_1 narrow_1).before args s = true) (hr : rest_1_c.before args s = true) : ∃ (b : Addr) (xs : List Int32), lw_P b xs args s := by
  have hs := flat_of_before _ h
  have hq := flat_of_before _ hr
  have hc : (Cond.count 1).before args s = true := hs _ (by decide +kernel)
  have harr : (Cond.arrayOf (.arg 0) .int).before args s = true := hs _ (by decide +kernel)
  have hle : (Cond.le (.length (.arg 0)) (.int 384)).before args s = true := hs _ (by decide +kernel)
  have hlen : (Cond.isInt (.length (.arg 0))).before args s = true := hq _ (by decide +kernel)
  have hall : (Cond.all (.arg 0) (.isInt (.elem (.arg 0) (.index 0)))).before args s = true := hq _ (by decide +kernel)
  obtain ⟨b, xs, hb, hx⟩ := State.ints_of_pre rfl harr hlen hall
  have hsm : xs.length < 2 ^ 31 := hx.choose_spec.2.2.2
  have hev : (Term.length (.arg 0)).eval args s none [] s = some (.int xs.length.toInt32) := hx.length_eval hb
  have hv := Cond.le_ints hev (show (Term.int 384).eval args s none [] s = some (.int 384) from rfl)
  have hd : xs.length.toInt32 ≤ 384 := by
    simpa [Cond.before, Cond.holds, hv] using hle
  have hN : xs.length ≤ 384 := (Int32.ofNat_le_ofNat hsm (by decide)).mp (show Int32.ofNat xs.length ≤ Int32.ofNat 384 from hd)
  exact ⟨b, xs, Cond.one_arg hc (show args[0]? = some (.ref b) from hb), hx, hN, h⟩
theorem lw_comes (l : Launch) : Comes l x (Jvm.Cond.code x code maxLocals ret :: tables_1) room_1 (fun tb e args s => Calls_1 tb e args s ∧ rest_1 tb e args s ∧ Pre_1 tb e args s)
    (fun _ _ args s o t => lw_Q args s o t) := by
  intro p e ha hc hk s m args below hf hfit hheap happ hpre
  obtain ⟨b, xs, hP⟩ := lw_pre_spec hpre.2.2 hpre.2.1
  obtain ⟨k, o, h1, h2, h3, hQ⟩ := lw_walk l b xs p e ha hc hk s m args below hf ((Spec.applies_iff_loose hf).mp happ).1 hP trivial
  exact ⟨k, o, h1, h2, h3, hQ⟩
theorem lw_frame {s t : State} {o : Outcome} {args : Array Value} (h : Framed s o t [] 600000 7302250) :
    Framed s o t (fieldLocs frame_1_writes args s ++ arrayLocs frame_1_arrays args s ++ staticLocs frame_1_statics s) 600000 7302250 := h
theorem lw_limb (L : Cond) (hL : ∀ (args : Array Value) (s t : State), L.after args s (.returned (some (.int 1))) t = true) :
    ArmFor flags0 classFile x code maxLocals ret World_1 tables_1 room_1 Calls_1 rest_1 Pre_1
      (fun tb e a s o t => postC L tb e a s o t ∧ Framed s o t (fieldLocs frame_1_writes a s ++ arrayLocs frame_1_arrays a s ++ staticLocs frame_1_statics s) 600000 7302250) := by
  intro l _ _ _ p e ha hc hk s m args below hf hfit hheap happ hpre
  obtain ⟨k, o, h1, h2, h3, rfl, hF⟩ := lw_comes l p e ha hc hk s m args below hf hfit hheap happ hpre
  exact ⟨k, _, h1, h2, h3, hL args s _, lw_frame hF⟩
theorem i_vc : Claimed_1_1 ∧ Claimed_1_2 := ⟨lw_limb limb_1_1 (fun args s t => by simp [limb_1_1, Cond.after, Cond.holds, Cond.value]), lw_limb limb_1_2 (fun args s t => Cond.after_iff.mpr (by
  first | (rw [show limb_1_2 = Cond.eq .result (.int 1) from rfl, Cond.eq_ints (x := 1) (y := 1) rfl rfl]; simp; done) | (simp [limb_1_2, Cond.value, Term.eval]; done)))⟩
