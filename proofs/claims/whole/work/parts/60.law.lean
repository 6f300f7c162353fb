/-! the law, call by call -/
section LAW
variable {p : Program} {l : Launch} {e : Env} {s : State} {m : MethodId} {below : List Frame} {meth : Method} {c : Code} {g : GC} {b L i : Nat} {xs : Nat → Int32} {Q : State → Prop} {M : Mem} {H : Heap} {locs : List Loc} {ls : Array Slot}
abbrev Lx (p : Program) (s : State) (m : MethodId) (meth : Method) (c : Code) (g : GC) (b L : Nat) (xs : Nat → Int32) : Prop := Bx p s m #[Value.ref b] meth c RL cL_law 4 (some .boolean) g ∧ va_X b L xs s s.heap ∧ b < s.heap.size ∧ ¬ gA g b
theorem l_arg {R : Room} {cells slots pc k : Nat} {v : Int32} {rest : List Value} {cc : ByteArray} (X : Lx p s m meth c g b L xs) (hS : va_S (gA g) s.heap H locs) (hL : L < 2147483648) (hk : i + k < L) (hv : v = nI k) (h1 : decode cL_law pc = .ok (.iadd, 1)) (h2 : decode cL_law (pc + 1) = .ok (.iaload, 1))
    (kk : W p l e R s m #[Value.ref b] below meth c H locs cells slots Q (F0 m (pc + 2) ls (.int (xs (i + k)) :: rest))) : W p l e R s m #[Value.ref b] below meth c H locs cells slots Q (F0 m pc ls (.int v :: .int (nI i) :: .ref b :: rest)) := by
  refine lv_iadd X.1.1 X.1.2.1 h1 ?_
  rw [hv, nI_add]
  refine va_sld X.1.1 X.1.2.1 X.2.1 X.2.2.1 X.2.2.2 hS (vp_in_nI hk hL) h2 ?_
  rw [nI_cl (by omega)]
  exact kk
set_option maxRecDepth 20000 in
theorem lc_0 (X : Lx p s m meth c g b L xs) (hL : L < 2147483648) (hi : i + 6 ≤ L) (hI : Inv M) (hP : va_P g.1 vwCl (gW g M) H) (hS : va_S (gA g) s.heap H locs) (hl : lv_has ls 4 [(0, .ref b), (1, .ref (gz g + 0)), (2, .ref (gz g + 279)), (3, .int (nI i))])
    (kk : ∀ (M' : Mem) (H : Heap) (locs : List Loc), Inv M' → va_P g.1 vwCl (gW g M') H → va_S (gA g) s.heap H locs → W p l e room_1 s m #[Value.ref b] below meth c H locs 600000 7302249 Q (F0 m 1345 ls [])) : W p l e room_1 s m #[Value.ref b] below meth c H locs 600000 7302249 Q (F0 m 200 ls []) := by
  have hx := X.1.1
  have hb := X.1.2.1
  obtain ⟨r, M1, M2, e1, e2, hI2⟩ := Sim_row (xs (i + 1)) (xs (i + 2)) (xs (i + 3)) M hI
  refine lv_aload_n hx hb dL_law_200 rfl (lv_at hl 1 rfl) ?_
  refine lv_aload_n hx hb dL_law_201 rfl (lv_at hl 0 rfl) ?_
  refine lv_iload_n hx hb dL_law_202 rfl (lv_at hl 3 rfl) ?_
  refine lv_iconst (v := (1 : Int32)) hx hb dL_law_203 (by decide) ?_
  refine l_arg (cc := cL_law) (k := 1) X hS hL (by omega) rfl dL_law_204 dL_law_205 ?_
  refine lv_aload_n hx hb dL_law_206 rfl (lv_at hl 0 rfl) ?_
  refine lv_iload_n hx hb dL_law_207 rfl (lv_at hl 3 rfl) ?_
  refine lv_iconst (v := (2 : Int32)) hx hb dL_law_208 (by decide) ?_
  refine l_arg (cc := cL_law) (k := 2) X hS hL (by omega) rfl dL_law_209 dL_law_210 ?_
  refine lv_aload_n hx hb dL_law_211 rfl (lv_at hl 0 rfl) ?_
  refine lv_iload_n hx hb dL_law_212 rfl (lv_at hl 3 rfl) ?_
  refine lv_iconst (v := (3 : Int32)) hx hb dL_law_213 (by decide) ?_
  refine l_arg (cc := cL_law) (k := 3) X hS hL (by omega) rfl dL_law_214 dL_law_215 ?_
  refine g_goi (g_run X.1 (c_X6_row l g e1) s_X6_row (oB_6 rfl) q1_229 ⟨Nat.le_of_ble_eq_true rfl, Nat.le_of_ble_eq_true rfl⟩ hP hS rfl hl.1 rfl (Nat.le_of_ble_eq_true rfl) ⟨Nat.le_refl _, Nat.le_refl _⟩ dL_law_216) hS (fun H locs hP hS => ?_)
  refine lv_aload_n hx hb dL_law_219 rfl (lv_at hl 2 rfl) ?_
  refine lv_aload_n hx hb dL_law_220 rfl (lv_at hl 0 rfl) ?_
  refine lv_iload_n hx hb dL_law_221 rfl (lv_at hl 3 rfl) ?_
  refine lv_iconst (v := (1 : Int32)) hx hb dL_law_222 (by decide) ?_
  refine l_arg (cc := cL_law) (k := 1) X hS hL (by omega) rfl dL_law_223 dL_law_224 ?_
  refine lv_aload_n hx hb dL_law_225 rfl (lv_at hl 0 rfl) ?_
  refine lv_iload_n hx hb dL_law_226 rfl (lv_at hl 3 rfl) ?_
  refine lv_iconst (v := (2 : Int32)) hx hb dL_law_227 (by decide) ?_
  refine l_arg (cc := cL_law) (k := 2) X hS hL (by omega) rfl dL_law_228 dL_law_229 ?_
  refine lv_aload_n hx hb dL_law_230 rfl (lv_at hl 0 rfl) ?_
  refine lv_iload_n hx hb dL_law_231 rfl (lv_at hl 3 rfl) ?_
  refine lv_iconst (v := (3 : Int32)) hx hb dL_law_232 (by decide) ?_
  refine l_arg (cc := cL_law) (k := 3) X hS hL (by omega) rfl dL_law_233 dL_law_234 ?_
  refine g_goi (g_run X.1 (c_X7_row l g e2) s_X7_row (oB_7 rfl) q4_81 ⟨Nat.le_of_ble_eq_true rfl, Nat.le_of_ble_eq_true rfl⟩ hP hS rfl hl.1 rfl (Nat.le_of_ble_eq_true rfl) ⟨Nat.le_refl _, Nat.le_refl _⟩ dL_law_235) hS (fun H locs hP hS => ?_)
  exact lv_icmp_eq (tgt := 1345) hx hb dL_law_238 (by decide) (fun _ => kk M2 H locs hI2 hP hS) (fun h => absurd rfl h)
set_option maxRecDepth 20000 in
theorem lc_1 (X : Lx p s m meth c g b L xs) (hL : L < 2147483648) (hi : i + 6 ≤ L) (hI : Inv M) (hP : va_P g.1 vwCl (gW g M) H) (hS : va_S (gA g) s.heap H locs) (hl : lv_has ls 4 [(0, .ref b), (1, .ref (gz g + 0)), (2, .ref (gz g + 279)), (3, .int (nI i))])
    (kk : ∀ (M' : Mem) (H : Heap) (locs : List Loc), Inv M' → va_P g.1 vwCl (gW g M') H → va_S (gA g) s.heap H locs → W p l e room_1 s m #[Value.ref b] below meth c H locs 600000 7302249 Q (F0 m 1345 ls [])) : W p l e room_1 s m #[Value.ref b] below meth c H locs 600000 7302249 Q (F0 m 243 ls []) := by
  have hx := X.1.1
  have hb := X.1.2.1
  obtain ⟨r, M1, M2, e1, e2, hI2⟩ := Sim_set (xs (i + 1)) (xs (i + 2)) (xs (i + 3)) M hI
  refine lv_aload_n hx hb dL_law_243 rfl (lv_at hl 1 rfl) ?_
  refine lv_aload_n hx hb dL_law_244 rfl (lv_at hl 0 rfl) ?_
  refine lv_iload_n hx hb dL_law_245 rfl (lv_at hl 3 rfl) ?_
  refine lv_iconst (v := (1 : Int32)) hx hb dL_law_246 (by decide) ?_
  refine l_arg (cc := cL_law) (k := 1) X hS hL (by omega) rfl dL_law_247 dL_law_248 ?_
  refine lv_aload_n hx hb dL_law_249 rfl (lv_at hl 0 rfl) ?_
  refine lv_iload_n hx hb dL_law_250 rfl (lv_at hl 3 rfl) ?_
  refine lv_iconst (v := (2 : Int32)) hx hb dL_law_251 (by decide) ?_
  refine l_arg (cc := cL_law) (k := 2) X hS hL (by omega) rfl dL_law_252 dL_law_253 ?_
  refine lv_aload_n hx hb dL_law_254 rfl (lv_at hl 0 rfl) ?_
  refine lv_iload_n hx hb dL_law_255 rfl (lv_at hl 3 rfl) ?_
  refine lv_iconst (v := (3 : Int32)) hx hb dL_law_256 (by decide) ?_
  refine l_arg (cc := cL_law) (k := 3) X hS hL (by omega) rfl dL_law_257 dL_law_258 ?_
  refine g_goi (g_run X.1 (c_X6_set l g e1) s_X6_set (oB_6 rfl) q2_16 ⟨Nat.le_of_ble_eq_true rfl, Nat.le_of_ble_eq_true rfl⟩ hP hS rfl hl.1 rfl (Nat.le_of_ble_eq_true rfl) ⟨Nat.le_refl _, Nat.le_refl _⟩ dL_law_259) hS (fun H locs hP hS => ?_)
  refine lv_aload_n hx hb dL_law_262 rfl (lv_at hl 2 rfl) ?_
  refine lv_aload_n hx hb dL_law_263 rfl (lv_at hl 0 rfl) ?_
  refine lv_iload_n hx hb dL_law_264 rfl (lv_at hl 3 rfl) ?_
  refine lv_iconst (v := (1 : Int32)) hx hb dL_law_265 (by decide) ?_
  refine l_arg (cc := cL_law) (k := 1) X hS hL (by omega) rfl dL_law_266 dL_law_267 ?_
  refine lv_aload_n hx hb dL_law_268 rfl (lv_at hl 0 rfl) ?_
  refine lv_iload_n hx hb dL_law_269 rfl (lv_at hl 3 rfl) ?_
  refine lv_iconst (v := (2 : Int32)) hx hb dL_law_270 (by decide) ?_
  refine l_arg (cc := cL_law) (k := 2) X hS hL (by omega) rfl dL_law_271 dL_law_272 ?_
  refine lv_aload_n hx hb dL_law_273 rfl (lv_at hl 0 rfl) ?_
  refine lv_iload_n hx hb dL_law_274 rfl (lv_at hl 3 rfl) ?_
  refine lv_iconst (v := (3 : Int32)) hx hb dL_law_275 (by decide) ?_
  refine l_arg (cc := cL_law) (k := 3) X hS hL (by omega) rfl dL_law_276 dL_law_277 ?_
  refine g_goi (g_run X.1 (c_X7_set l g e2) s_X7_set (oB_7 rfl) q4_99 ⟨Nat.le_of_ble_eq_true rfl, Nat.le_of_ble_eq_true rfl⟩ hP hS rfl hl.1 rfl (Nat.le_of_ble_eq_true rfl) ⟨Nat.le_refl _, Nat.le_refl _⟩ dL_law_278) hS (fun H locs hP hS => ?_)
  exact lv_icmp_eq (tgt := 1345) hx hb dL_law_281 (by decide) (fun _ => kk M2 H locs hI2 hP hS) (fun h => absurd rfl h)
set_option maxRecDepth 20000 in
theorem lc_2 (X : Lx p s m meth c g b L xs) (hL : L < 2147483648) (hi : i + 6 ≤ L) (hI : Inv M) (hP : va_P g.1 vwCl (gW g M) H) (hS : va_S (gA g) s.heap H locs) (hl : lv_has ls 4 [(0, .ref b), (1, .ref (gz g + 0)), (2, .ref (gz g + 279)), (3, .int (nI i))])
    (kk : ∀ (M' : Mem) (H : Heap) (locs : List Loc), Inv M' → va_P g.1 vwCl (gW g M') H → va_S (gA g) s.heap H locs → W p l e room_1 s m #[Value.ref b] below meth c H locs 600000 7302249 Q (F0 m 1345 ls [])) : W p l e room_1 s m #[Value.ref b] below meth c H locs 600000 7302249 Q (F0 m 286 ls []) := by
  have hx := X.1.1
  have hb := X.1.2.1
  obtain ⟨r, M1, M2, e1, e2, hI2⟩ := Sim_copy (xs (i + 1)) (xs (i + 2)) (xs (i + 3)) (xs (i + 4)) (xs (i + 5)) M hI
  refine lv_aload_n hx hb dL_law_286 rfl (lv_at hl 1 rfl) ?_
  refine lv_aload_n hx hb dL_law_287 rfl (lv_at hl 0 rfl) ?_
  refine lv_iload_n hx hb dL_law_288 rfl (lv_at hl 3 rfl) ?_
  refine lv_iconst (v := (1 : Int32)) hx hb dL_law_289 (by decide) ?_
  refine l_arg (cc := cL_law) (k := 1) X hS hL (by omega) rfl dL_law_290 dL_law_291 ?_
  refine lv_aload_n hx hb dL_law_292 rfl (lv_at hl 0 rfl) ?_
  refine lv_iload_n hx hb dL_law_293 rfl (lv_at hl 3 rfl) ?_
  refine lv_iconst (v := (2 : Int32)) hx hb dL_law_294 (by decide) ?_
  refine l_arg (cc := cL_law) (k := 2) X hS hL (by omega) rfl dL_law_295 dL_law_296 ?_
  refine lv_aload_n hx hb dL_law_297 rfl (lv_at hl 0 rfl) ?_
  refine lv_iload_n hx hb dL_law_298 rfl (lv_at hl 3 rfl) ?_
  refine lv_iconst (v := (3 : Int32)) hx hb dL_law_299 (by decide) ?_
  refine l_arg (cc := cL_law) (k := 3) X hS hL (by omega) rfl dL_law_300 dL_law_301 ?_
  refine lv_aload_n hx hb dL_law_302 rfl (lv_at hl 0 rfl) ?_
  refine lv_iload_n hx hb dL_law_303 rfl (lv_at hl 3 rfl) ?_
  refine lv_iconst (v := (4 : Int32)) hx hb dL_law_304 (by decide) ?_
  refine l_arg (cc := cL_law) (k := 4) X hS hL (by omega) rfl dL_law_305 dL_law_306 ?_
  refine lv_aload_n hx hb dL_law_307 rfl (lv_at hl 0 rfl) ?_
  refine lv_iload_n hx hb dL_law_308 rfl (lv_at hl 3 rfl) ?_
  refine lv_iconst (v := (5 : Int32)) hx hb dL_law_309 (by decide) ?_
  refine l_arg (cc := cL_law) (k := 5) X hS hL (by omega) rfl dL_law_310 dL_law_311 ?_
  refine g_goi (g_run X.1 (c_X6_copy l g e1) s_X6_copy (oB_6 rfl) q2_35 ⟨Nat.le_of_ble_eq_true rfl, Nat.le_of_ble_eq_true rfl⟩ hP hS rfl hl.1 rfl (Nat.le_of_ble_eq_true rfl) ⟨Nat.le_refl _, Nat.le_refl _⟩ dL_law_312) hS (fun H locs hP hS => ?_)
  refine lv_aload_n hx hb dL_law_315 rfl (lv_at hl 2 rfl) ?_
  refine lv_aload_n hx hb dL_law_316 rfl (lv_at hl 0 rfl) ?_
  refine lv_iload_n hx hb dL_law_317 rfl (lv_at hl 3 rfl) ?_
  refine lv_iconst (v := (1 : Int32)) hx hb dL_law_318 (by decide) ?_
  refine l_arg (cc := cL_law) (k := 1) X hS hL (by omega) rfl dL_law_319 dL_law_320 ?_
  refine lv_aload_n hx hb dL_law_321 rfl (lv_at hl 0 rfl) ?_
  refine lv_iload_n hx hb dL_law_322 rfl (lv_at hl 3 rfl) ?_
  refine lv_iconst (v := (2 : Int32)) hx hb dL_law_323 (by decide) ?_
  refine l_arg (cc := cL_law) (k := 2) X hS hL (by omega) rfl dL_law_324 dL_law_325 ?_
  refine lv_aload_n hx hb dL_law_326 rfl (lv_at hl 0 rfl) ?_
  refine lv_iload_n hx hb dL_law_327 rfl (lv_at hl 3 rfl) ?_
  refine lv_iconst (v := (3 : Int32)) hx hb dL_law_328 (by decide) ?_
  refine l_arg (cc := cL_law) (k := 3) X hS hL (by omega) rfl dL_law_329 dL_law_330 ?_
  refine lv_aload_n hx hb dL_law_331 rfl (lv_at hl 0 rfl) ?_
  refine lv_iload_n hx hb dL_law_332 rfl (lv_at hl 3 rfl) ?_
  refine lv_iconst (v := (4 : Int32)) hx hb dL_law_333 (by decide) ?_
  refine l_arg (cc := cL_law) (k := 4) X hS hL (by omega) rfl dL_law_334 dL_law_335 ?_
  refine lv_aload_n hx hb dL_law_336 rfl (lv_at hl 0 rfl) ?_
  refine lv_iload_n hx hb dL_law_337 rfl (lv_at hl 3 rfl) ?_
  refine lv_iconst (v := (5 : Int32)) hx hb dL_law_338 (by decide) ?_
  refine l_arg (cc := cL_law) (k := 5) X hS hL (by omega) rfl dL_law_339 dL_law_340 ?_
  refine g_goi (g_run X.1 (c_X7_copy l g e2) s_X7_copy (oB_7 rfl) q4_107 ⟨Nat.le_of_ble_eq_true rfl, Nat.le_of_ble_eq_true rfl⟩ hP hS rfl hl.1 rfl (Nat.le_of_ble_eq_true rfl) ⟨Nat.le_refl _, Nat.le_refl _⟩ dL_law_341) hS (fun H locs hP hS => ?_)
  exact lv_icmp_eq (tgt := 1345) hx hb dL_law_344 (by decide) (fun _ => kk M2 H locs hI2 hP hS) (fun h => absurd rfl h)
set_option maxRecDepth 20000 in
theorem lc_3 (X : Lx p s m meth c g b L xs) (hL : L < 2147483648) (hi : i + 6 ≤ L) (hI : Inv M) (hP : va_P g.1 vwCl (gW g M) H) (hS : va_S (gA g) s.heap H locs) (hl : lv_has ls 4 [(0, .ref b), (1, .ref (gz g + 0)), (2, .ref (gz g + 279)), (3, .int (nI i))])
    (kk : ∀ (M' : Mem) (H : Heap) (locs : List Loc), Inv M' → va_P g.1 vwCl (gW g M') H → va_S (gA g) s.heap H locs → W p l e room_1 s m #[Value.ref b] below meth c H locs 600000 7302249 Q (F0 m 1345 ls [])) : W p l e room_1 s m #[Value.ref b] below meth c H locs 600000 7302249 Q (F0 m 349 ls []) := by
  have hx := X.1.1
  have hb := X.1.2.1
  obtain ⟨r, M1, M2, e1, e2, hI2⟩ := Sim_drop (xs (i + 1)) M hI
  refine lv_aload_n hx hb dL_law_349 rfl (lv_at hl 1 rfl) ?_
  refine lv_aload_n hx hb dL_law_350 rfl (lv_at hl 0 rfl) ?_
  refine lv_iload_n hx hb dL_law_351 rfl (lv_at hl 3 rfl) ?_
  refine lv_iconst (v := (1 : Int32)) hx hb dL_law_352 (by decide) ?_
  refine l_arg (cc := cL_law) (k := 1) X hS hL (by omega) rfl dL_law_353 dL_law_354 ?_
  refine g_goi (g_run X.1 (c_X6_drop l g e1) s_X6_drop (oB_6 rfl) q2_42 ⟨Nat.le_of_ble_eq_true rfl, Nat.le_of_ble_eq_true rfl⟩ hP hS rfl hl.1 rfl (Nat.le_of_ble_eq_true rfl) ⟨Nat.le_refl _, Nat.le_refl _⟩ dL_law_355) hS (fun H locs hP hS => ?_)
  refine lv_aload_n hx hb dL_law_358 rfl (lv_at hl 2 rfl) ?_
  refine lv_aload_n hx hb dL_law_359 rfl (lv_at hl 0 rfl) ?_
  refine lv_iload_n hx hb dL_law_360 rfl (lv_at hl 3 rfl) ?_
  refine lv_iconst (v := (1 : Int32)) hx hb dL_law_361 (by decide) ?_
  refine l_arg (cc := cL_law) (k := 1) X hS hL (by omega) rfl dL_law_362 dL_law_363 ?_
  refine g_goi (g_run X.1 (c_X7_drop l g e2) s_X7_drop (oB_7 rfl) q4_111 ⟨Nat.le_of_ble_eq_true rfl, Nat.le_of_ble_eq_true rfl⟩ hP hS rfl hl.1 rfl (Nat.le_of_ble_eq_true rfl) ⟨Nat.le_refl _, Nat.le_refl _⟩ dL_law_364) hS (fun H locs hP hS => ?_)
  exact lv_icmp_eq (tgt := 1345) hx hb dL_law_367 (by decide) (fun _ => kk M2 H locs hI2 hP hS) (fun h => absurd rfl h)
set_option maxRecDepth 20000 in
theorem lc_4 (X : Lx p s m meth c g b L xs) (hL : L < 2147483648) (hi : i + 6 ≤ L) (hI : Inv M) (hP : va_P g.1 vwCl (gW g M) H) (hS : va_S (gA g) s.heap H locs) (hl : lv_has ls 4 [(0, .ref b), (1, .ref (gz g + 0)), (2, .ref (gz g + 279)), (3, .int (nI i))])
    (kk : ∀ (M' : Mem) (H : Heap) (locs : List Loc), Inv M' → va_P g.1 vwCl (gW g M') H → va_S (gA g) s.heap H locs → W p l e room_1 s m #[Value.ref b] below meth c H locs 600000 7302249 Q (F0 m 1345 ls [])) : W p l e room_1 s m #[Value.ref b] below meth c H locs 600000 7302249 Q (F0 m 372 ls []) := by
  have hx := X.1.1
  have hb := X.1.2.1
  obtain ⟨r, M1, M2, e1, e2, hI2⟩ := Sim_feed (xs (i + 1)) M hI
  refine lv_aload_n hx hb dL_law_372 rfl (lv_at hl 1 rfl) ?_
  refine lv_aload_n hx hb dL_law_373 rfl (lv_at hl 0 rfl) ?_
  refine lv_iload_n hx hb dL_law_374 rfl (lv_at hl 3 rfl) ?_
  refine lv_iconst (v := (1 : Int32)) hx hb dL_law_375 (by decide) ?_
  refine l_arg (cc := cL_law) (k := 1) X hS hL (by omega) rfl dL_law_376 dL_law_377 ?_
  refine g_goi (g_run X.1 (c_X6_feed l g e1) s_X6_feed (oB_6 rfl) q2_46 ⟨Nat.le_of_ble_eq_true rfl, Nat.le_of_ble_eq_true rfl⟩ hP hS rfl hl.1 rfl (Nat.le_of_ble_eq_true rfl) ⟨Nat.le_refl _, Nat.le_refl _⟩ dL_law_378) hS (fun H locs hP hS => ?_)
  refine lv_aload_n hx hb dL_law_381 rfl (lv_at hl 2 rfl) ?_
  refine lv_aload_n hx hb dL_law_382 rfl (lv_at hl 0 rfl) ?_
  refine lv_iload_n hx hb dL_law_383 rfl (lv_at hl 3 rfl) ?_
  refine lv_iconst (v := (1 : Int32)) hx hb dL_law_384 (by decide) ?_
  refine l_arg (cc := cL_law) (k := 1) X hS hL (by omega) rfl dL_law_385 dL_law_386 ?_
  refine g_goi (g_run X.1 (c_X7_feed l g e2) s_X7_feed (oB_7 rfl) q4_115 ⟨Nat.le_of_ble_eq_true rfl, Nat.le_of_ble_eq_true rfl⟩ hP hS rfl hl.1 rfl (Nat.le_of_ble_eq_true rfl) ⟨Nat.le_refl _, Nat.le_refl _⟩ dL_law_387) hS (fun H locs hP hS => ?_)
  exact lv_icmp_eq (tgt := 1345) hx hb dL_law_390 (by decide) (fun _ => kk M2 H locs hI2 hP hS) (fun h => absurd rfl h)
set_option maxRecDepth 20000 in
theorem lc_5 (X : Lx p s m meth c g b L xs) (hL : L < 2147483648) (hi : i + 6 ≤ L) (hI : Inv M) (hP : va_P g.1 vwCl (gW g M) H) (hS : va_S (gA g) s.heap H locs) (hl : lv_has ls 4 [(0, .ref b), (1, .ref (gz g + 0)), (2, .ref (gz g + 279)), (3, .int (nI i))])
    (kk : ∀ (M' : Mem) (H : Heap) (locs : List Loc), Inv M' → va_P g.1 vwCl (gW g M') H → va_S (gA g) s.heap H locs → W p l e room_1 s m #[Value.ref b] below meth c H locs 600000 7302249 Q (F0 m 1345 ls [])) : W p l e room_1 s m #[Value.ref b] below meth c H locs 600000 7302249 Q (F0 m 395 ls []) := by
  have hx := X.1.1
  have hb := X.1.2.1
  obtain ⟨r, M1, M2, e1, e2, hI2⟩ := Sim_box M hI
  refine lv_aload_n hx hb dL_law_395 rfl (lv_at hl 1 rfl) ?_
  refine g_goi (g_run X.1 (c_X6_box l g e1) s_X6_box (oB_6 rfl) q2_55 ⟨Nat.le_of_ble_eq_true rfl, Nat.le_of_ble_eq_true rfl⟩ hP hS rfl hl.1 rfl (Nat.le_of_ble_eq_true rfl) ⟨Nat.le_refl _, Nat.le_refl _⟩ dL_law_396) hS (fun H locs hP hS => ?_)
  refine lv_aload_n hx hb dL_law_399 rfl (lv_at hl 2 rfl) ?_
  refine g_goi (g_run X.1 (c_X7_box l g e2) s_X7_box (oB_7 rfl) q4_121 ⟨Nat.le_of_ble_eq_true rfl, Nat.le_of_ble_eq_true rfl⟩ hP hS rfl hl.1 rfl (Nat.le_of_ble_eq_true rfl) ⟨Nat.le_refl _, Nat.le_refl _⟩ dL_law_400) hS (fun H locs hP hS => ?_)
  exact lv_icmp_eq (tgt := 1345) hx hb dL_law_403 (by decide) (fun _ => kk M2 H locs hI2 hP hS) (fun h => absurd rfl h)
set_option maxRecDepth 20000 in
theorem lc_6 (X : Lx p s m meth c g b L xs) (hL : L < 2147483648) (hi : i + 6 ≤ L) (hI : Inv M) (hP : va_P g.1 vwCl (gW g M) H) (hS : va_S (gA g) s.heap H locs) (hl : lv_has ls 4 [(0, .ref b), (1, .ref (gz g + 0)), (2, .ref (gz g + 279)), (3, .int (nI i))])
    (kk : ∀ (M' : Mem) (H : Heap) (locs : List Loc), Inv M' → va_P g.1 vwCl (gW g M') H → va_S (gA g) s.heap H locs → W p l e room_1 s m #[Value.ref b] below meth c H locs 600000 7302249 Q (F0 m 1345 ls [])) : W p l e room_1 s m #[Value.ref b] below meth c H locs 600000 7302249 Q (F0 m 408 ls []) := by
  have hx := X.1.1
  have hb := X.1.2.1
  obtain ⟨r, M1, M2, e1, e2, hI2⟩ := Sim_fault M hI
  refine lv_aload_n hx hb dL_law_408 rfl (lv_at hl 1 rfl) ?_
  refine g_goi (g_run X.1 (c_X6_fault l g e1) s_X6_fault (oB_6 rfl) q2_109 ⟨Nat.le_of_ble_eq_true rfl, Nat.le_of_ble_eq_true rfl⟩ hP hS rfl hl.1 rfl (Nat.le_of_ble_eq_true rfl) ⟨Nat.le_refl _, Nat.le_refl _⟩ dL_law_409) hS (fun H locs hP hS => ?_)
  refine lv_aload_n hx hb dL_law_412 rfl (lv_at hl 2 rfl) ?_
  refine g_goi (g_run X.1 (c_X7_fault l g e2) s_X7_fault (oB_7 rfl) q4_167 ⟨Nat.le_of_ble_eq_true rfl, Nat.le_of_ble_eq_true rfl⟩ hP hS rfl hl.1 rfl (Nat.le_of_ble_eq_true rfl) ⟨Nat.le_refl _, Nat.le_refl _⟩ dL_law_413) hS (fun H locs hP hS => ?_)
  exact lv_icmp_eq (tgt := 1345) hx hb dL_law_416 (by decide) (fun _ => kk M2 H locs hI2 hP hS) (fun h => absurd rfl h)
set_option maxRecDepth 20000 in
theorem lc_7 (X : Lx p s m meth c g b L xs) (hL : L < 2147483648) (hi : i + 6 ≤ L) (hI : Inv M) (hP : va_P g.1 vwCl (gW g M) H) (hS : va_S (gA g) s.heap H locs) (hl : lv_has ls 4 [(0, .ref b), (1, .ref (gz g + 0)), (2, .ref (gz g + 279)), (3, .int (nI i))])
    (kk : ∀ (M' : Mem) (H : Heap) (locs : List Loc), Inv M' → va_P g.1 vwCl (gW g M') H → va_S (gA g) s.heap H locs → W p l e room_1 s m #[Value.ref b] below meth c H locs 600000 7302249 Q (F0 m 1345 ls [])) : W p l e room_1 s m #[Value.ref b] below meth c H locs 600000 7302249 Q (F0 m 421 ls []) := by
  have hx := X.1.1
  have hb := X.1.2.1
  obtain ⟨r, M1, M2, e1, e2, hI2⟩ := Sim_undo M hI
  refine lv_aload_n hx hb dL_law_421 rfl (lv_at hl 1 rfl) ?_
  refine g_goi (g_run X.1 (c_X6_undo l g e1) s_X6_undo (oB_6 rfl) q2_113 ⟨Nat.le_of_ble_eq_true rfl, Nat.le_of_ble_eq_true rfl⟩ hP hS rfl hl.1 rfl (Nat.le_of_ble_eq_true rfl) ⟨Nat.le_refl _, Nat.le_refl _⟩ dL_law_422) hS (fun H locs hP hS => ?_)
  refine lv_aload_n hx hb dL_law_425 rfl (lv_at hl 2 rfl) ?_
  refine g_goi (g_run X.1 (c_X7_undo l g e2) s_X7_undo (oB_7 rfl) q4_171 ⟨Nat.le_of_ble_eq_true rfl, Nat.le_of_ble_eq_true rfl⟩ hP hS rfl hl.1 rfl (Nat.le_of_ble_eq_true rfl) ⟨Nat.le_refl _, Nat.le_refl _⟩ dL_law_426) hS (fun H locs hP hS => ?_)
  exact lv_icmp_eq (tgt := 1345) hx hb dL_law_429 (by decide) (fun _ => kk M2 H locs hI2 hP hS) (fun h => absurd rfl h)
set_option maxRecDepth 20000 in
theorem lc_8 (X : Lx p s m meth c g b L xs) (hL : L < 2147483648) (hi : i + 6 ≤ L) (hI : Inv M) (hP : va_P g.1 vwCl (gW g M) H) (hS : va_S (gA g) s.heap H locs) (hl : lv_has ls 4 [(0, .ref b), (1, .ref (gz g + 0)), (2, .ref (gz g + 279)), (3, .int (nI i))])
    (kk : ∀ (M' : Mem) (H : Heap) (locs : List Loc), Inv M' → va_P g.1 vwCl (gW g M') H → va_S (gA g) s.heap H locs → W p l e room_1 s m #[Value.ref b] below meth c H locs 600000 7302249 Q (F0 m 1345 ls [])) : W p l e room_1 s m #[Value.ref b] below meth c H locs 600000 7302249 Q (F0 m 434 ls []) := by
  have hx := X.1.1
  have hb := X.1.2.1
  obtain ⟨r, M1, M2, e1, e2, hI2⟩ := Sim_ticks (xs (i + 1)) M hI
  refine lv_aload_n hx hb dL_law_434 rfl (lv_at hl 1 rfl) ?_
  refine lv_aload_n hx hb dL_law_435 rfl (lv_at hl 0 rfl) ?_
  refine lv_iload_n hx hb dL_law_436 rfl (lv_at hl 3 rfl) ?_
  refine lv_iconst (v := (1 : Int32)) hx hb dL_law_437 (by decide) ?_
  refine l_arg (cc := cL_law) (k := 1) X hS hL (by omega) rfl dL_law_438 dL_law_439 ?_
  refine g_goi (g_run X.1 (c_X6_ticks l g e1) s_X6_ticks (oB_6 rfl) q2_123 ⟨Nat.le_of_ble_eq_true rfl, Nat.le_of_ble_eq_true rfl⟩ hP hS rfl hl.1 rfl (Nat.le_of_ble_eq_true rfl) ⟨Nat.le_refl _, Nat.le_refl _⟩ dL_law_440) hS (fun H locs hP hS => ?_)
  refine lv_aload_n hx hb dL_law_443 rfl (lv_at hl 2 rfl) ?_
  refine lv_aload_n hx hb dL_law_444 rfl (lv_at hl 0 rfl) ?_
  refine lv_iload_n hx hb dL_law_445 rfl (lv_at hl 3 rfl) ?_
  refine lv_iconst (v := (1 : Int32)) hx hb dL_law_446 (by decide) ?_
  refine l_arg (cc := cL_law) (k := 1) X hS hL (by omega) rfl dL_law_447 dL_law_448 ?_
  refine g_goi (g_run X.1 (c_X7_ticks l g e2) s_X7_ticks (oB_7 rfl) q4_176 ⟨Nat.le_of_ble_eq_true rfl, Nat.le_of_ble_eq_true rfl⟩ hP hS rfl hl.1 rfl (Nat.le_of_ble_eq_true rfl) ⟨Nat.le_refl _, Nat.le_refl _⟩ dL_law_449) hS (fun H locs hP hS => ?_)
  exact lv_icmp_eq (tgt := 1345) hx hb dL_law_452 (by decide) (fun _ => kk M2 H locs hI2 hP hS) (fun h => absurd rfl h)
set_option maxRecDepth 20000 in
theorem lc_9 (X : Lx p s m meth c g b L xs) (hL : L < 2147483648) (hi : i + 6 ≤ L) (hI : Inv M) (hP : va_P g.1 vwCl (gW g M) H) (hS : va_S (gA g) s.heap H locs) (hl : lv_has ls 4 [(0, .ref b), (1, .ref (gz g + 0)), (2, .ref (gz g + 279)), (3, .int (nI i))])
    (kk : ∀ (M' : Mem) (H : Heap) (locs : List Loc), Inv M' → va_P g.1 vwCl (gW g M') H → va_S (gA g) s.heap H locs → W p l e room_1 s m #[Value.ref b] below meth c H locs 600000 7302249 Q (F0 m 1345 ls [])) : W p l e room_1 s m #[Value.ref b] below meth c H locs 600000 7302249 Q (F0 m 457 ls []) := by
  have hx := X.1.1
  have hb := X.1.2.1
  obtain ⟨r, M1, M2, e1, e2, hI2⟩ := Sim_wind (xs (i + 1)) M hI
  refine lv_aload_n hx hb dL_law_457 rfl (lv_at hl 1 rfl) ?_
  refine lv_aload_n hx hb dL_law_458 rfl (lv_at hl 0 rfl) ?_
  refine lv_iload_n hx hb dL_law_459 rfl (lv_at hl 3 rfl) ?_
  refine lv_iconst (v := (1 : Int32)) hx hb dL_law_460 (by decide) ?_
  refine l_arg (cc := cL_law) (k := 1) X hS hL (by omega) rfl dL_law_461 dL_law_462 ?_
  refine g_goi (g_run X.1 (c_X6_wind l g e1) s_X6_wind (oB_6 rfl) q2_165 ⟨Nat.le_of_ble_eq_true rfl, Nat.le_of_ble_eq_true rfl⟩ hP hS rfl hl.1 rfl (Nat.le_of_ble_eq_true rfl) ⟨Nat.le_refl _, Nat.le_refl _⟩ dL_law_463) hS (fun H locs hP hS => ?_)
  refine lv_aload_n hx hb dL_law_466 rfl (lv_at hl 2 rfl) ?_
  refine lv_aload_n hx hb dL_law_467 rfl (lv_at hl 0 rfl) ?_
  refine lv_iload_n hx hb dL_law_468 rfl (lv_at hl 3 rfl) ?_
  refine lv_iconst (v := (1 : Int32)) hx hb dL_law_469 (by decide) ?_
  refine l_arg (cc := cL_law) (k := 1) X hS hL (by omega) rfl dL_law_470 dL_law_471 ?_
  refine g_goi (g_run X.1 (c_X7_wind l g e2) s_X7_wind (oB_7 rfl) q4_208 ⟨Nat.le_of_ble_eq_true rfl, Nat.le_of_ble_eq_true rfl⟩ hP hS rfl hl.1 rfl (Nat.le_of_ble_eq_true rfl) ⟨Nat.le_refl _, Nat.le_refl _⟩ dL_law_472) hS (fun H locs hP hS => ?_)
  exact lv_icmp_eq (tgt := 1345) hx hb dL_law_475 (by decide) (fun _ => kk M2 H locs hI2 hP hS) (fun h => absurd rfl h)
set_option maxRecDepth 20000 in
theorem lc_10 (X : Lx p s m meth c g b L xs) (hL : L < 2147483648) (hi : i + 6 ≤ L) (hI : Inv M) (hP : va_P g.1 vwCl (gW g M) H) (hS : va_S (gA g) s.heap H locs) (hl : lv_has ls 4 [(0, .ref b), (1, .ref (gz g + 0)), (2, .ref (gz g + 279)), (3, .int (nI i))])
    (kk : ∀ (M' : Mem) (H : Heap) (locs : List Loc), Inv M' → va_P g.1 vwCl (gW g M') H → va_S (gA g) s.heap H locs → W p l e room_1 s m #[Value.ref b] below meth c H locs 600000 7302249 Q (F0 m 1345 ls [])) : W p l e room_1 s m #[Value.ref b] below meth c H locs 600000 7302249 Q (F0 m 480 ls []) := by
  have hx := X.1.1
  have hb := X.1.2.1
  obtain ⟨r, M1, M2, e1, e2, hI2⟩ := Sim_pin (xs (i + 1)) (xs (i + 2)) M hI
  refine lv_aload_n hx hb dL_law_480 rfl (lv_at hl 1 rfl) ?_
  refine lv_aload_n hx hb dL_law_481 rfl (lv_at hl 0 rfl) ?_
  refine lv_iload_n hx hb dL_law_482 rfl (lv_at hl 3 rfl) ?_
  refine lv_iconst (v := (1 : Int32)) hx hb dL_law_483 (by decide) ?_
  refine l_arg (cc := cL_law) (k := 1) X hS hL (by omega) rfl dL_law_484 dL_law_485 ?_
  refine lv_aload_n hx hb dL_law_486 rfl (lv_at hl 0 rfl) ?_
  refine lv_iload_n hx hb dL_law_487 rfl (lv_at hl 3 rfl) ?_
  refine lv_iconst (v := (2 : Int32)) hx hb dL_law_488 (by decide) ?_
  refine l_arg (cc := cL_law) (k := 2) X hS hL (by omega) rfl dL_law_489 dL_law_490 ?_
  refine g_goi (g_run X.1 (c_X6_pin l g e1) s_X6_pin (oB_6 rfl) q2_173 ⟨Nat.le_of_ble_eq_true rfl, Nat.le_of_ble_eq_true rfl⟩ hP hS rfl hl.1 rfl (Nat.le_of_ble_eq_true rfl) ⟨Nat.le_refl _, Nat.le_refl _⟩ dL_law_491) hS (fun H locs hP hS => ?_)
  refine lv_aload_n hx hb dL_law_494 rfl (lv_at hl 2 rfl) ?_
  refine lv_aload_n hx hb dL_law_495 rfl (lv_at hl 0 rfl) ?_
  refine lv_iload_n hx hb dL_law_496 rfl (lv_at hl 3 rfl) ?_
  refine lv_iconst (v := (1 : Int32)) hx hb dL_law_497 (by decide) ?_
  refine l_arg (cc := cL_law) (k := 1) X hS hL (by omega) rfl dL_law_498 dL_law_499 ?_
  refine lv_aload_n hx hb dL_law_500 rfl (lv_at hl 0 rfl) ?_
  refine lv_iload_n hx hb dL_law_501 rfl (lv_at hl 3 rfl) ?_
  refine lv_iconst (v := (2 : Int32)) hx hb dL_law_502 (by decide) ?_
  refine l_arg (cc := cL_law) (k := 2) X hS hL (by omega) rfl dL_law_503 dL_law_504 ?_
  refine g_goi (g_run X.1 (c_X7_pin l g e2) s_X7_pin (oB_7 rfl) q4_213 ⟨Nat.le_of_ble_eq_true rfl, Nat.le_of_ble_eq_true rfl⟩ hP hS rfl hl.1 rfl (Nat.le_of_ble_eq_true rfl) ⟨Nat.le_refl _, Nat.le_refl _⟩ dL_law_505) hS (fun H locs hP hS => ?_)
  exact lv_icmp_eq (tgt := 1345) hx hb dL_law_508 (by decide) (fun _ => kk M2 H locs hI2 hP hS) (fun h => absurd rfl h)
set_option maxRecDepth 20000 in
theorem lc_11 (X : Lx p s m meth c g b L xs) (hL : L < 2147483648) (hi : i + 6 ≤ L) (hI : Inv M) (hP : va_P g.1 vwCl (gW g M) H) (hS : va_S (gA g) s.heap H locs) (hl : lv_has ls 4 [(0, .ref b), (1, .ref (gz g + 0)), (2, .ref (gz g + 279)), (3, .int (nI i))])
    (kk : ∀ (M' : Mem) (H : Heap) (locs : List Loc), Inv M' → va_P g.1 vwCl (gW g M') H → va_S (gA g) s.heap H locs → W p l e room_1 s m #[Value.ref b] below meth c H locs 600000 7302249 Q (F0 m 1345 ls [])) : W p l e room_1 s m #[Value.ref b] below meth c H locs 600000 7302249 Q (F0 m 513 ls []) := by
  have hx := X.1.1
  have hb := X.1.2.1
  obtain ⟨r, M1, M2, e1, e2, hI2⟩ := Sim_drum (xs (i + 1)) M hI
  refine lv_aload_n hx hb dL_law_513 rfl (lv_at hl 1 rfl) ?_
  refine lv_aload_n hx hb dL_law_514 rfl (lv_at hl 0 rfl) ?_
  refine lv_iload_n hx hb dL_law_515 rfl (lv_at hl 3 rfl) ?_
  refine lv_iconst (v := (1 : Int32)) hx hb dL_law_516 (by decide) ?_
  refine l_arg (cc := cL_law) (k := 1) X hS hL (by omega) rfl dL_law_517 dL_law_518 ?_
  refine g_goi (g_run X.1 (c_X6_drum l g e1) s_X6_drum (oB_6 rfl) q2_189 ⟨Nat.le_of_ble_eq_true rfl, Nat.le_of_ble_eq_true rfl⟩ hP hS rfl hl.1 rfl (Nat.le_of_ble_eq_true rfl) ⟨Nat.le_refl _, Nat.le_refl _⟩ dL_law_519) hS (fun H locs hP hS => ?_)
  refine lv_aload_n hx hb dL_law_522 rfl (lv_at hl 2 rfl) ?_
  refine lv_aload_n hx hb dL_law_523 rfl (lv_at hl 0 rfl) ?_
  refine lv_iload_n hx hb dL_law_524 rfl (lv_at hl 3 rfl) ?_
  refine lv_iconst (v := (1 : Int32)) hx hb dL_law_525 (by decide) ?_
  refine l_arg (cc := cL_law) (k := 1) X hS hL (by omega) rfl dL_law_526 dL_law_527 ?_
  refine g_goi (g_run X.1 (c_X7_drum l g e2) s_X7_drum (oB_7 rfl) q4_225 ⟨Nat.le_of_ble_eq_true rfl, Nat.le_of_ble_eq_true rfl⟩ hP hS rfl hl.1 rfl (Nat.le_of_ble_eq_true rfl) ⟨Nat.le_refl _, Nat.le_refl _⟩ dL_law_528) hS (fun H locs hP hS => ?_)
  exact lv_icmp_eq (tgt := 1345) hx hb dL_law_531 (by decide) (fun _ => kk M2 H locs hI2 hP hS) (fun h => absurd rfl h)
set_option maxRecDepth 20000 in
theorem lc_12 (X : Lx p s m meth c g b L xs) (hL : L < 2147483648) (hi : i + 6 ≤ L) (hI : Inv M) (hP : va_P g.1 vwCl (gW g M) H) (hS : va_S (gA g) s.heap H locs) (hl : lv_has ls 4 [(0, .ref b), (1, .ref (gz g + 0)), (2, .ref (gz g + 279)), (3, .int (nI i))])
    (kk : ∀ (M' : Mem) (H : Heap) (locs : List Loc), Inv M' → va_P g.1 vwCl (gW g M') H → va_S (gA g) s.heap H locs → W p l e room_1 s m #[Value.ref b] below meth c H locs 600000 7302249 Q (F0 m 1345 ls [])) : W p l e room_1 s m #[Value.ref b] below meth c H locs 600000 7302249 Q (F0 m 536 ls []) := by
  have hx := X.1.1
  have hb := X.1.2.1
  obtain ⟨r, M1, M2, e1, e2, hI2⟩ := Sim_mend (xs (i + 1)) M hI
  refine lv_aload_n hx hb dL_law_536 rfl (lv_at hl 1 rfl) ?_
  refine lv_aload_n hx hb dL_law_537 rfl (lv_at hl 0 rfl) ?_
  refine lv_iload_n hx hb dL_law_538 rfl (lv_at hl 3 rfl) ?_
  refine lv_iconst (v := (1 : Int32)) hx hb dL_law_539 (by decide) ?_
  refine l_arg (cc := cL_law) (k := 1) X hS hL (by omega) rfl dL_law_540 dL_law_541 ?_
  refine g_goi (g_run X.1 (c_X6_mend l g e1) s_X6_mend (oB_6 rfl) q2_193 ⟨Nat.le_of_ble_eq_true rfl, Nat.le_of_ble_eq_true rfl⟩ hP hS rfl hl.1 rfl (Nat.le_of_ble_eq_true rfl) ⟨Nat.le_refl _, Nat.le_refl _⟩ dL_law_542) hS (fun H locs hP hS => ?_)
  refine lv_aload_n hx hb dL_law_545 rfl (lv_at hl 2 rfl) ?_
  refine lv_aload_n hx hb dL_law_546 rfl (lv_at hl 0 rfl) ?_
  refine lv_iload_n hx hb dL_law_547 rfl (lv_at hl 3 rfl) ?_
  refine lv_iconst (v := (1 : Int32)) hx hb dL_law_548 (by decide) ?_
  refine l_arg (cc := cL_law) (k := 1) X hS hL (by omega) rfl dL_law_549 dL_law_550 ?_
  refine g_goi (g_run X.1 (c_X7_mend l g e2) s_X7_mend (oB_7 rfl) q4_229 ⟨Nat.le_of_ble_eq_true rfl, Nat.le_of_ble_eq_true rfl⟩ hP hS rfl hl.1 rfl (Nat.le_of_ble_eq_true rfl) ⟨Nat.le_refl _, Nat.le_refl _⟩ dL_law_551) hS (fun H locs hP hS => ?_)
  exact lv_icmp_eq (tgt := 1345) hx hb dL_law_554 (by decide) (fun _ => kk M2 H locs hI2 hP hS) (fun h => absurd rfl h)
set_option maxRecDepth 20000 in
theorem lc_13 (X : Lx p s m meth c g b L xs) (hL : L < 2147483648) (hi : i + 6 ≤ L) (hI : Inv M) (hP : va_P g.1 vwCl (gW g M) H) (hS : va_S (gA g) s.heap H locs) (hl : lv_has ls 4 [(0, .ref b), (1, .ref (gz g + 0)), (2, .ref (gz g + 279)), (3, .int (nI i))])
    (kk : ∀ (M' : Mem) (H : Heap) (locs : List Loc), Inv M' → va_P g.1 vwCl (gW g M') H → va_S (gA g) s.heap H locs → W p l e room_1 s m #[Value.ref b] below meth c H locs 600000 7302249 Q (F0 m 1345 ls [])) : W p l e room_1 s m #[Value.ref b] below meth c H locs 600000 7302249 Q (F0 m 559 ls []) := by
  have hx := X.1.1
  have hb := X.1.2.1
  obtain ⟨r, M1, M2, e1, e2, hI2⟩ := Sim_tooth (xs (i + 1)) (xs (i + 2)) M hI
  refine lv_aload_n hx hb dL_law_559 rfl (lv_at hl 1 rfl) ?_
  refine lv_aload_n hx hb dL_law_560 rfl (lv_at hl 0 rfl) ?_
  refine lv_iload_n hx hb dL_law_561 rfl (lv_at hl 3 rfl) ?_
  refine lv_iconst (v := (1 : Int32)) hx hb dL_law_562 (by decide) ?_
  refine l_arg (cc := cL_law) (k := 1) X hS hL (by omega) rfl dL_law_563 dL_law_564 ?_
  refine lv_aload_n hx hb dL_law_565 rfl (lv_at hl 0 rfl) ?_
  refine lv_iload_n hx hb dL_law_566 rfl (lv_at hl 3 rfl) ?_
  refine lv_iconst (v := (2 : Int32)) hx hb dL_law_567 (by decide) ?_
  refine l_arg (cc := cL_law) (k := 2) X hS hL (by omega) rfl dL_law_568 dL_law_569 ?_
  refine g_goi (g_run X.1 (c_X6_tooth l g e1) s_X6_tooth (oB_6 rfl) q2_205 ⟨Nat.le_of_ble_eq_true rfl, Nat.le_of_ble_eq_true rfl⟩ hP hS rfl hl.1 rfl (Nat.le_of_ble_eq_true rfl) ⟨Nat.le_refl _, Nat.le_refl _⟩ dL_law_570) hS (fun H locs hP hS => ?_)
  refine lv_aload_n hx hb dL_law_573 rfl (lv_at hl 2 rfl) ?_
  refine lv_aload_n hx hb dL_law_574 rfl (lv_at hl 0 rfl) ?_
  refine lv_iload_n hx hb dL_law_575 rfl (lv_at hl 3 rfl) ?_
  refine lv_iconst (v := (1 : Int32)) hx hb dL_law_576 (by decide) ?_
  refine l_arg (cc := cL_law) (k := 1) X hS hL (by omega) rfl dL_law_577 dL_law_578 ?_
  refine lv_aload_n hx hb dL_law_579 rfl (lv_at hl 0 rfl) ?_
  refine lv_iload_n hx hb dL_law_580 rfl (lv_at hl 3 rfl) ?_
  refine lv_iconst (v := (2 : Int32)) hx hb dL_law_581 (by decide) ?_
  refine l_arg (cc := cL_law) (k := 2) X hS hL (by omega) rfl dL_law_582 dL_law_583 ?_
  refine g_goi (g_run X.1 (c_X7_tooth l g e2) s_X7_tooth (oB_7 rfl) q4_237 ⟨Nat.le_of_ble_eq_true rfl, Nat.le_of_ble_eq_true rfl⟩ hP hS rfl hl.1 rfl (Nat.le_of_ble_eq_true rfl) ⟨Nat.le_refl _, Nat.le_refl _⟩ dL_law_584) hS (fun H locs hP hS => ?_)
  exact lv_icmp_eq (tgt := 1345) hx hb dL_law_587 (by decide) (fun _ => kk M2 H locs hI2 hP hS) (fun h => absurd rfl h)
set_option maxRecDepth 20000 in
theorem lc_14 (X : Lx p s m meth c g b L xs) (hL : L < 2147483648) (hi : i + 6 ≤ L) (hI : Inv M) (hP : va_P g.1 vwCl (gW g M) H) (hS : va_S (gA g) s.heap H locs) (hl : lv_has ls 4 [(0, .ref b), (1, .ref (gz g + 0)), (2, .ref (gz g + 279)), (3, .int (nI i))])
    (kk : ∀ (M' : Mem) (H : Heap) (locs : List Loc), Inv M' → va_P g.1 vwCl (gW g M') H → va_S (gA g) s.heap H locs → W p l e room_1 s m #[Value.ref b] below meth c H locs 600000 7302249 Q (F0 m 1345 ls [])) : W p l e room_1 s m #[Value.ref b] below meth c H locs 600000 7302249 Q (F0 m 592 ls []) := by
  have hx := X.1.1
  have hb := X.1.2.1
  obtain ⟨r, M1, M2, e1, e2, hI2⟩ := Sim_pins (xs (i + 1)) M hI
  refine lv_aload_n hx hb dL_law_592 rfl (lv_at hl 1 rfl) ?_
  refine lv_aload_n hx hb dL_law_593 rfl (lv_at hl 0 rfl) ?_
  refine lv_iload_n hx hb dL_law_594 rfl (lv_at hl 3 rfl) ?_
  refine lv_iconst (v := (1 : Int32)) hx hb dL_law_595 (by decide) ?_
  refine l_arg (cc := cL_law) (k := 1) X hS hL (by omega) rfl dL_law_596 dL_law_597 ?_
  refine g_goi (g_run X.1 (c_X6_pins l g e1) s_X6_pins (oB_6 rfl) q2_213 ⟨Nat.le_of_ble_eq_true rfl, Nat.le_of_ble_eq_true rfl⟩ hP hS rfl hl.1 rfl (Nat.le_of_ble_eq_true rfl) ⟨Nat.le_refl _, Nat.le_refl _⟩ dL_law_598) hS (fun H locs hP hS => ?_)
  refine lv_aload_n hx hb dL_law_601 rfl (lv_at hl 2 rfl) ?_
  refine lv_aload_n hx hb dL_law_602 rfl (lv_at hl 0 rfl) ?_
  refine lv_iload_n hx hb dL_law_603 rfl (lv_at hl 3 rfl) ?_
  refine lv_iconst (v := (1 : Int32)) hx hb dL_law_604 (by decide) ?_
  refine l_arg (cc := cL_law) (k := 1) X hS hL (by omega) rfl dL_law_605 dL_law_606 ?_
  refine g_goi (g_run X.1 (c_X7_pins l g e2) s_X7_pins (oB_7 rfl) q5_5 ⟨Nat.le_of_ble_eq_true rfl, Nat.le_of_ble_eq_true rfl⟩ hP hS rfl hl.1 rfl (Nat.le_of_ble_eq_true rfl) ⟨Nat.le_refl _, Nat.le_refl _⟩ dL_law_607) hS (fun H locs hP hS => ?_)
  exact lv_icmp_eq (tgt := 1345) hx hb dL_law_610 (by decide) (fun _ => kk M2 H locs hI2 hP hS) (fun h => absurd rfl h)
set_option maxRecDepth 20000 in
theorem lc_15 (X : Lx p s m meth c g b L xs) (hL : L < 2147483648) (hi : i + 6 ≤ L) (hI : Inv M) (hP : va_P g.1 vwCl (gW g M) H) (hS : va_S (gA g) s.heap H locs) (hl : lv_has ls 4 [(0, .ref b), (1, .ref (gz g + 0)), (2, .ref (gz g + 279)), (3, .int (nI i))])
    (kk : ∀ (M' : Mem) (H : Heap) (locs : List Loc), Inv M' → va_P g.1 vwCl (gW g M') H → va_S (gA g) s.heap H locs → W p l e room_1 s m #[Value.ref b] below meth c H locs 600000 7302249 Q (F0 m 1345 ls [])) : W p l e room_1 s m #[Value.ref b] below meth c H locs 600000 7302249 Q (F0 m 615 ls []) := by
  have hx := X.1.1
  have hb := X.1.2.1
  obtain ⟨r, M1, M2, e1, e2, hI2⟩ := Sim_stand (xs (i + 1)) M hI
  refine lv_aload_n hx hb dL_law_615 rfl (lv_at hl 1 rfl) ?_
  refine lv_aload_n hx hb dL_law_616 rfl (lv_at hl 0 rfl) ?_
  refine lv_iload_n hx hb dL_law_617 rfl (lv_at hl 3 rfl) ?_
  refine lv_iconst (v := (1 : Int32)) hx hb dL_law_618 (by decide) ?_
  refine l_arg (cc := cL_law) (k := 1) X hS hL (by omega) rfl dL_law_619 dL_law_620 ?_
  refine g_goi (g_run X.1 (c_X6_stand l g e1) s_X6_stand (oB_6 rfl) q2_217 ⟨Nat.le_of_ble_eq_true rfl, Nat.le_of_ble_eq_true rfl⟩ hP hS rfl hl.1 rfl (Nat.le_of_ble_eq_true rfl) ⟨Nat.le_refl _, Nat.le_refl _⟩ dL_law_621) hS (fun H locs hP hS => ?_)
  refine lv_aload_n hx hb dL_law_624 rfl (lv_at hl 2 rfl) ?_
  refine lv_aload_n hx hb dL_law_625 rfl (lv_at hl 0 rfl) ?_
  refine lv_iload_n hx hb dL_law_626 rfl (lv_at hl 3 rfl) ?_
  refine lv_iconst (v := (1 : Int32)) hx hb dL_law_627 (by decide) ?_
  refine l_arg (cc := cL_law) (k := 1) X hS hL (by omega) rfl dL_law_628 dL_law_629 ?_
  refine g_goi (g_run X.1 (c_X7_stand l g e2) s_X7_stand (oB_7 rfl) q5_9 ⟨Nat.le_of_ble_eq_true rfl, Nat.le_of_ble_eq_true rfl⟩ hP hS rfl hl.1 rfl (Nat.le_of_ble_eq_true rfl) ⟨Nat.le_refl _, Nat.le_refl _⟩ dL_law_630) hS (fun H locs hP hS => ?_)
  exact lv_icmp_eq (tgt := 1345) hx hb dL_law_633 (by decide) (fun _ => kk M2 H locs hI2 hP hS) (fun h => absurd rfl h)
set_option maxRecDepth 20000 in
theorem lc_16 (X : Lx p s m meth c g b L xs) (hL : L < 2147483648) (hi : i + 6 ≤ L) (hI : Inv M) (hP : va_P g.1 vwCl (gW g M) H) (hS : va_S (gA g) s.heap H locs) (hl : lv_has ls 4 [(0, .ref b), (1, .ref (gz g + 0)), (2, .ref (gz g + 279)), (3, .int (nI i))])
    (kk : ∀ (M' : Mem) (H : Heap) (locs : List Loc), Inv M' → va_P g.1 vwCl (gW g M') H → va_S (gA g) s.heap H locs → W p l e room_1 s m #[Value.ref b] below meth c H locs 600000 7302249 Q (F0 m 1345 ls [])) : W p l e room_1 s m #[Value.ref b] below meth c H locs 600000 7302249 Q (F0 m 638 ls []) := by
  have hx := X.1.1
  have hb := X.1.2.1
  obtain ⟨r, M1, M2, e1, e2, hI2⟩ := Sim_ahead (xs (i + 1)) (xs (i + 2)) (xs (i + 3)) M hI
  refine lv_aload_n hx hb dL_law_638 rfl (lv_at hl 1 rfl) ?_
  refine lv_aload_n hx hb dL_law_639 rfl (lv_at hl 0 rfl) ?_
  refine lv_iload_n hx hb dL_law_640 rfl (lv_at hl 3 rfl) ?_
  refine lv_iconst (v := (1 : Int32)) hx hb dL_law_641 (by decide) ?_
  refine l_arg (cc := cL_law) (k := 1) X hS hL (by omega) rfl dL_law_642 dL_law_643 ?_
  refine lv_aload_n hx hb dL_law_644 rfl (lv_at hl 0 rfl) ?_
  refine lv_iload_n hx hb dL_law_645 rfl (lv_at hl 3 rfl) ?_
  refine lv_iconst (v := (2 : Int32)) hx hb dL_law_646 (by decide) ?_
  refine l_arg (cc := cL_law) (k := 2) X hS hL (by omega) rfl dL_law_647 dL_law_648 ?_
  refine lv_aload_n hx hb dL_law_649 rfl (lv_at hl 0 rfl) ?_
  refine lv_iload_n hx hb dL_law_650 rfl (lv_at hl 3 rfl) ?_
  refine lv_iconst (v := (3 : Int32)) hx hb dL_law_651 (by decide) ?_
  refine l_arg (cc := cL_law) (k := 3) X hS hL (by omega) rfl dL_law_652 dL_law_653 ?_
  refine g_goi (g_run X.1 (c_X6_ahead l g e1) s_X6_ahead (oB_6 rfl) q2_225 ⟨Nat.le_of_ble_eq_true rfl, Nat.le_of_ble_eq_true rfl⟩ hP hS rfl hl.1 rfl (Nat.le_of_ble_eq_true rfl) ⟨Nat.le_refl _, Nat.le_refl _⟩ dL_law_654) hS (fun H locs hP hS => ?_)
  refine lv_aload_n hx hb dL_law_657 rfl (lv_at hl 2 rfl) ?_
  refine lv_aload_n hx hb dL_law_658 rfl (lv_at hl 0 rfl) ?_
  refine lv_iload_n hx hb dL_law_659 rfl (lv_at hl 3 rfl) ?_
  refine lv_iconst (v := (1 : Int32)) hx hb dL_law_660 (by decide) ?_
  refine l_arg (cc := cL_law) (k := 1) X hS hL (by omega) rfl dL_law_661 dL_law_662 ?_
  refine lv_aload_n hx hb dL_law_663 rfl (lv_at hl 0 rfl) ?_
  refine lv_iload_n hx hb dL_law_664 rfl (lv_at hl 3 rfl) ?_
  refine lv_iconst (v := (2 : Int32)) hx hb dL_law_665 (by decide) ?_
  refine l_arg (cc := cL_law) (k := 2) X hS hL (by omega) rfl dL_law_666 dL_law_667 ?_
  refine lv_aload_n hx hb dL_law_668 rfl (lv_at hl 0 rfl) ?_
  refine lv_iload_n hx hb dL_law_669 rfl (lv_at hl 3 rfl) ?_
  refine lv_iconst (v := (3 : Int32)) hx hb dL_law_670 (by decide) ?_
  refine l_arg (cc := cL_law) (k := 3) X hS hL (by omega) rfl dL_law_671 dL_law_672 ?_
  refine g_goi (g_run X.1 (c_X7_ahead l g e2) s_X7_ahead (oB_7 rfl) q5_17 ⟨Nat.le_of_ble_eq_true rfl, Nat.le_of_ble_eq_true rfl⟩ hP hS rfl hl.1 rfl (Nat.le_of_ble_eq_true rfl) ⟨Nat.le_refl _, Nat.le_refl _⟩ dL_law_673) hS (fun H locs hP hS => ?_)
  exact lv_icmp_eq (tgt := 1345) hx hb dL_law_676 (by decide) (fun _ => kk M2 H locs hI2 hP hS) (fun h => absurd rfl h)
set_option maxRecDepth 20000 in
theorem lc_17 (X : Lx p s m meth c g b L xs) (hL : L < 2147483648) (hi : i + 6 ≤ L) (hI : Inv M) (hP : va_P g.1 vwCl (gW g M) H) (hS : va_S (gA g) s.heap H locs) (hl : lv_has ls 4 [(0, .ref b), (1, .ref (gz g + 0)), (2, .ref (gz g + 279)), (3, .int (nI i))])
    (kk : ∀ (M' : Mem) (H : Heap) (locs : List Loc), Inv M' → va_P g.1 vwCl (gW g M') H → va_S (gA g) s.heap H locs → W p l e room_1 s m #[Value.ref b] below meth c H locs 600000 7302249 Q (F0 m 1345 ls [])) : W p l e room_1 s m #[Value.ref b] below meth c H locs 600000 7302249 Q (F0 m 681 ls []) := by
  have hx := X.1.1
  have hb := X.1.2.1
  obtain ⟨r, M1, M2, e1, e2, hI2⟩ := Sim_heard (xs (i + 1)) (xs (i + 2)) M hI
  refine lv_aload_n hx hb dL_law_681 rfl (lv_at hl 1 rfl) ?_
  refine lv_aload_n hx hb dL_law_682 rfl (lv_at hl 0 rfl) ?_
  refine lv_iload_n hx hb dL_law_683 rfl (lv_at hl 3 rfl) ?_
  refine lv_iconst (v := (1 : Int32)) hx hb dL_law_684 (by decide) ?_
  refine l_arg (cc := cL_law) (k := 1) X hS hL (by omega) rfl dL_law_685 dL_law_686 ?_
  refine lv_aload_n hx hb dL_law_687 rfl (lv_at hl 0 rfl) ?_
  refine lv_iload_n hx hb dL_law_688 rfl (lv_at hl 3 rfl) ?_
  refine lv_iconst (v := (2 : Int32)) hx hb dL_law_689 (by decide) ?_
  refine l_arg (cc := cL_law) (k := 2) X hS hL (by omega) rfl dL_law_690 dL_law_691 ?_
  refine g_goi (g_run X.1 (c_X6_heard l g e1) s_X6_heard (oB_6 rfl) q3_4 ⟨Nat.le_of_ble_eq_true rfl, Nat.le_of_ble_eq_true rfl⟩ hP hS rfl hl.1 rfl (Nat.le_of_ble_eq_true rfl) ⟨Nat.le_refl _, Nat.le_refl _⟩ dL_law_692) hS (fun H locs hP hS => ?_)
  refine lv_aload_n hx hb dL_law_695 rfl (lv_at hl 2 rfl) ?_
  refine lv_aload_n hx hb dL_law_696 rfl (lv_at hl 0 rfl) ?_
  refine lv_iload_n hx hb dL_law_697 rfl (lv_at hl 3 rfl) ?_
  refine lv_iconst (v := (1 : Int32)) hx hb dL_law_698 (by decide) ?_
  refine l_arg (cc := cL_law) (k := 1) X hS hL (by omega) rfl dL_law_699 dL_law_700 ?_
  refine lv_aload_n hx hb dL_law_701 rfl (lv_at hl 0 rfl) ?_
  refine lv_iload_n hx hb dL_law_702 rfl (lv_at hl 3 rfl) ?_
  refine lv_iconst (v := (2 : Int32)) hx hb dL_law_703 (by decide) ?_
  refine l_arg (cc := cL_law) (k := 2) X hS hL (by omega) rfl dL_law_704 dL_law_705 ?_
  refine g_goi (g_run X.1 (c_X7_heard l g e2) s_X7_heard (oB_7 rfl) q5_30 ⟨Nat.le_of_ble_eq_true rfl, Nat.le_of_ble_eq_true rfl⟩ hP hS rfl hl.1 rfl (Nat.le_of_ble_eq_true rfl) ⟨Nat.le_refl _, Nat.le_refl _⟩ dL_law_706) hS (fun H locs hP hS => ?_)
  exact lv_icmp_eq (tgt := 1345) hx hb dL_law_709 (by decide) (fun _ => kk M2 H locs hI2 hP hS) (fun h => absurd rfl h)
set_option maxRecDepth 20000 in
theorem lc_18 (X : Lx p s m meth c g b L xs) (hL : L < 2147483648) (hi : i + 6 ≤ L) (hI : Inv M) (hP : va_P g.1 vwCl (gW g M) H) (hS : va_S (gA g) s.heap H locs) (hl : lv_has ls 4 [(0, .ref b), (1, .ref (gz g + 0)), (2, .ref (gz g + 279)), (3, .int (nI i))])
    (kk : ∀ (M' : Mem) (H : Heap) (locs : List Loc), Inv M' → va_P g.1 vwCl (gW g M') H → va_S (gA g) s.heap H locs → W p l e room_1 s m #[Value.ref b] below meth c H locs 600000 7302249 Q (F0 m 1345 ls [])) : W p l e room_1 s m #[Value.ref b] below meth c H locs 600000 7302249 Q (F0 m 714 ls []) := by
  have hx := X.1.1
  have hb := X.1.2.1
  obtain ⟨r, M1, M2, e1, e2, hI2⟩ := Sim_when (xs (i + 1)) (xs (i + 2)) M hI
  refine lv_aload_n hx hb dL_law_714 rfl (lv_at hl 1 rfl) ?_
  refine lv_aload_n hx hb dL_law_715 rfl (lv_at hl 0 rfl) ?_
  refine lv_iload_n hx hb dL_law_716 rfl (lv_at hl 3 rfl) ?_
  refine lv_iconst (v := (1 : Int32)) hx hb dL_law_717 (by decide) ?_
  refine l_arg (cc := cL_law) (k := 1) X hS hL (by omega) rfl dL_law_718 dL_law_719 ?_
  refine lv_aload_n hx hb dL_law_720 rfl (lv_at hl 0 rfl) ?_
  refine lv_iload_n hx hb dL_law_721 rfl (lv_at hl 3 rfl) ?_
  refine lv_iconst (v := (2 : Int32)) hx hb dL_law_722 (by decide) ?_
  refine l_arg (cc := cL_law) (k := 2) X hS hL (by omega) rfl dL_law_723 dL_law_724 ?_
  refine g_goi (g_run X.1 (c_X6_when l g e1) s_X6_when (oB_6 rfl) q3_14 ⟨Nat.le_of_ble_eq_true rfl, Nat.le_of_ble_eq_true rfl⟩ hP hS rfl hl.1 rfl (Nat.le_of_ble_eq_true rfl) ⟨Nat.le_refl _, Nat.le_refl _⟩ dL_law_725) hS (fun H locs hP hS => ?_)
  refine lv_aload_n hx hb dL_law_728 rfl (lv_at hl 2 rfl) ?_
  refine lv_aload_n hx hb dL_law_729 rfl (lv_at hl 0 rfl) ?_
  refine lv_iload_n hx hb dL_law_730 rfl (lv_at hl 3 rfl) ?_
  refine lv_iconst (v := (1 : Int32)) hx hb dL_law_731 (by decide) ?_
  refine l_arg (cc := cL_law) (k := 1) X hS hL (by omega) rfl dL_law_732 dL_law_733 ?_
  refine lv_aload_n hx hb dL_law_734 rfl (lv_at hl 0 rfl) ?_
  refine lv_iload_n hx hb dL_law_735 rfl (lv_at hl 3 rfl) ?_
  refine lv_iconst (v := (2 : Int32)) hx hb dL_law_736 (by decide) ?_
  refine l_arg (cc := cL_law) (k := 2) X hS hL (by omega) rfl dL_law_737 dL_law_738 ?_
  refine g_goi (g_run X.1 (c_X7_when l g e2) s_X7_when (oB_7 rfl) q5_35 ⟨Nat.le_of_ble_eq_true rfl, Nat.le_of_ble_eq_true rfl⟩ hP hS rfl hl.1 rfl (Nat.le_of_ble_eq_true rfl) ⟨Nat.le_refl _, Nat.le_refl _⟩ dL_law_739) hS (fun H locs hP hS => ?_)
  exact lv_icmp_eq (tgt := 1345) hx hb dL_law_742 (by decide) (fun _ => kk M2 H locs hI2 hP hS) (fun h => absurd rfl h)
set_option maxRecDepth 20000 in
theorem lc_19 (X : Lx p s m meth c g b L xs) (hL : L < 2147483648) (hi : i + 6 ≤ L) (hI : Inv M) (hP : va_P g.1 vwCl (gW g M) H) (hS : va_S (gA g) s.heap H locs) (hl : lv_has ls 4 [(0, .ref b), (1, .ref (gz g + 0)), (2, .ref (gz g + 279)), (3, .int (nI i))])
    (kk : ∀ (M' : Mem) (H : Heap) (locs : List Loc), Inv M' → va_P g.1 vwCl (gW g M') H → va_S (gA g) s.heap H locs → W p l e room_1 s m #[Value.ref b] below meth c H locs 600000 7302249 Q (F0 m 1345 ls [])) : W p l e room_1 s m #[Value.ref b] below meth c H locs 600000 7302249 Q (F0 m 747 ls []) := by
  have hx := X.1.1
  have hb := X.1.2.1
  obtain ⟨r, M1, M2, e1, e2, hI2⟩ := Sim_stops M hI
  refine lv_aload_n hx hb dL_law_747 rfl (lv_at hl 1 rfl) ?_
  refine g_goi (g_run X.1 (c_X6_stops l g e1) s_X6_stops (oB_6 rfl) q3_24 ⟨Nat.le_of_ble_eq_true rfl, Nat.le_of_ble_eq_true rfl⟩ hP hS rfl hl.1 rfl (Nat.le_of_ble_eq_true rfl) ⟨Nat.le_refl _, Nat.le_refl _⟩ dL_law_748) hS (fun H locs hP hS => ?_)
  refine lv_aload_n hx hb dL_law_751 rfl (lv_at hl 2 rfl) ?_
  refine g_goi (g_run X.1 (c_X7_stops l g e2) s_X7_stops (oB_7 rfl) q5_40 ⟨Nat.le_of_ble_eq_true rfl, Nat.le_of_ble_eq_true rfl⟩ hP hS rfl hl.1 rfl (Nat.le_of_ble_eq_true rfl) ⟨Nat.le_refl _, Nat.le_refl _⟩ dL_law_752) hS (fun H locs hP hS => ?_)
  exact lv_icmp_eq (tgt := 1345) hx hb dL_law_755 (by decide) (fun _ => kk M2 H locs hI2 hP hS) (fun h => absurd rfl h)
set_option maxRecDepth 20000 in
theorem lc_20 (X : Lx p s m meth c g b L xs) (hL : L < 2147483648) (hi : i + 6 ≤ L) (hI : Inv M) (hP : va_P g.1 vwCl (gW g M) H) (hS : va_S (gA g) s.heap H locs) (hl : lv_has ls 4 [(0, .ref b), (1, .ref (gz g + 0)), (2, .ref (gz g + 279)), (3, .int (nI i))])
    (kk : ∀ (M' : Mem) (H : Heap) (locs : List Loc), Inv M' → va_P g.1 vwCl (gW g M') H → va_S (gA g) s.heap H locs → W p l e room_1 s m #[Value.ref b] below meth c H locs 600000 7302249 Q (F0 m 1345 ls [])) : W p l e room_1 s m #[Value.ref b] below meth c H locs 600000 7302249 Q (F0 m 760 ls []) := by
  have hx := X.1.1
  have hb := X.1.2.1
  obtain ⟨r, M1, M2, e1, e2, hI2⟩ := Sim_bestPin (xs (i + 1)) (xs (i + 2)) M hI
  refine lv_aload_n hx hb dL_law_760 rfl (lv_at hl 1 rfl) ?_
  refine lv_aload_n hx hb dL_law_761 rfl (lv_at hl 0 rfl) ?_
  refine lv_iload_n hx hb dL_law_762 rfl (lv_at hl 3 rfl) ?_
  refine lv_iconst (v := (1 : Int32)) hx hb dL_law_763 (by decide) ?_
  refine l_arg (cc := cL_law) (k := 1) X hS hL (by omega) rfl dL_law_764 dL_law_765 ?_
  refine lv_aload_n hx hb dL_law_766 rfl (lv_at hl 0 rfl) ?_
  refine lv_iload_n hx hb dL_law_767 rfl (lv_at hl 3 rfl) ?_
  refine lv_iconst (v := (2 : Int32)) hx hb dL_law_768 (by decide) ?_
  refine l_arg (cc := cL_law) (k := 2) X hS hL (by omega) rfl dL_law_769 dL_law_770 ?_
  refine g_goi (g_run X.1 (c_X6_bestPin l g e1) s_X6_bestPin (oB_6 rfl) q3_32 ⟨Nat.le_of_ble_eq_true rfl, Nat.le_of_ble_eq_true rfl⟩ hP hS rfl hl.1 rfl (Nat.le_of_ble_eq_true rfl) ⟨Nat.le_refl _, Nat.le_refl _⟩ dL_law_771) hS (fun H locs hP hS => ?_)
  refine lv_aload_n hx hb dL_law_774 rfl (lv_at hl 2 rfl) ?_
  refine lv_aload_n hx hb dL_law_775 rfl (lv_at hl 0 rfl) ?_
  refine lv_iload_n hx hb dL_law_776 rfl (lv_at hl 3 rfl) ?_
  refine lv_iconst (v := (1 : Int32)) hx hb dL_law_777 (by decide) ?_
  refine l_arg (cc := cL_law) (k := 1) X hS hL (by omega) rfl dL_law_778 dL_law_779 ?_
  refine lv_aload_n hx hb dL_law_780 rfl (lv_at hl 0 rfl) ?_
  refine lv_iload_n hx hb dL_law_781 rfl (lv_at hl 3 rfl) ?_
  refine lv_iconst (v := (2 : Int32)) hx hb dL_law_782 (by decide) ?_
  refine l_arg (cc := cL_law) (k := 2) X hS hL (by omega) rfl dL_law_783 dL_law_784 ?_
  refine g_goi (g_run X.1 (c_X7_bestPin l g e2) s_X7_bestPin (oB_7 rfl) q5_44 ⟨Nat.le_of_ble_eq_true rfl, Nat.le_of_ble_eq_true rfl⟩ hP hS rfl hl.1 rfl (Nat.le_of_ble_eq_true rfl) ⟨Nat.le_refl _, Nat.le_refl _⟩ dL_law_785) hS (fun H locs hP hS => ?_)
  exact lv_icmp_eq (tgt := 1345) hx hb dL_law_788 (by decide) (fun _ => kk M2 H locs hI2 hP hS) (fun h => absurd rfl h)
set_option maxRecDepth 20000 in
theorem lc_21 (X : Lx p s m meth c g b L xs) (hL : L < 2147483648) (hi : i + 6 ≤ L) (hI : Inv M) (hP : va_P g.1 vwCl (gW g M) H) (hS : va_S (gA g) s.heap H locs) (hl : lv_has ls 4 [(0, .ref b), (1, .ref (gz g + 0)), (2, .ref (gz g + 279)), (3, .int (nI i))])
    (kk : ∀ (M' : Mem) (H : Heap) (locs : List Loc), Inv M' → va_P g.1 vwCl (gW g M') H → va_S (gA g) s.heap H locs → W p l e room_1 s m #[Value.ref b] below meth c H locs 600000 7302249 Q (F0 m 1345 ls [])) : W p l e room_1 s m #[Value.ref b] below meth c H locs 600000 7302249 Q (F0 m 793 ls []) := by
  have hx := X.1.1
  have hb := X.1.2.1
  obtain ⟨r, M1, M2, e1, e2, hI2⟩ := Sim_begin (xs (i + 1)) (xs (i + 2)) M hI
  refine lv_aload_n hx hb dL_law_793 rfl (lv_at hl 1 rfl) ?_
  refine lv_aload_n hx hb dL_law_794 rfl (lv_at hl 0 rfl) ?_
  refine lv_iload_n hx hb dL_law_795 rfl (lv_at hl 3 rfl) ?_
  refine lv_iconst (v := (1 : Int32)) hx hb dL_law_796 (by decide) ?_
  refine l_arg (cc := cL_law) (k := 1) X hS hL (by omega) rfl dL_law_797 dL_law_798 ?_
  refine lv_aload_n hx hb dL_law_799 rfl (lv_at hl 0 rfl) ?_
  refine lv_iload_n hx hb dL_law_800 rfl (lv_at hl 3 rfl) ?_
  refine lv_iconst (v := (2 : Int32)) hx hb dL_law_801 (by decide) ?_
  refine l_arg (cc := cL_law) (k := 2) X hS hL (by omega) rfl dL_law_802 dL_law_803 ?_
  refine g_goi (g_run X.1 (c_X6_begin l g e1) s_X6_begin (oB_6 rfl) q3_46 ⟨Nat.le_of_ble_eq_true rfl, Nat.le_of_ble_eq_true rfl⟩ hP hS rfl hl.1 rfl (Nat.le_of_ble_eq_true rfl) ⟨Nat.le_refl _, Nat.le_refl _⟩ dL_law_804) hS (fun H locs hP hS => ?_)
  refine lv_aload_n hx hb dL_law_807 rfl (lv_at hl 2 rfl) ?_
  refine lv_aload_n hx hb dL_law_808 rfl (lv_at hl 0 rfl) ?_
  refine lv_iload_n hx hb dL_law_809 rfl (lv_at hl 3 rfl) ?_
  refine lv_iconst (v := (1 : Int32)) hx hb dL_law_810 (by decide) ?_
  refine l_arg (cc := cL_law) (k := 1) X hS hL (by omega) rfl dL_law_811 dL_law_812 ?_
  refine lv_aload_n hx hb dL_law_813 rfl (lv_at hl 0 rfl) ?_
  refine lv_iload_n hx hb dL_law_814 rfl (lv_at hl 3 rfl) ?_
  refine lv_iconst (v := (2 : Int32)) hx hb dL_law_815 (by decide) ?_
  refine l_arg (cc := cL_law) (k := 2) X hS hL (by omega) rfl dL_law_816 dL_law_817 ?_
  refine g_goi (g_run X.1 (c_X7_begin l g e2) s_X7_begin (oB_7 rfl) q5_53 ⟨Nat.le_of_ble_eq_true rfl, Nat.le_of_ble_eq_true rfl⟩ hP hS rfl hl.1 rfl (Nat.le_of_ble_eq_true rfl) ⟨Nat.le_refl _, Nat.le_refl _⟩ dL_law_818) hS (fun H locs hP hS => ?_)
  exact lv_icmp_eq (tgt := 1345) hx hb dL_law_821 (by decide) (fun _ => kk M2 H locs hI2 hP hS) (fun h => absurd rfl h)
set_option maxRecDepth 20000 in
theorem lc_22 (X : Lx p s m meth c g b L xs) (hL : L < 2147483648) (hi : i + 6 ≤ L) (hI : Inv M) (hP : va_P g.1 vwCl (gW g M) H) (hS : va_S (gA g) s.heap H locs) (hl : lv_has ls 4 [(0, .ref b), (1, .ref (gz g + 0)), (2, .ref (gz g + 279)), (3, .int (nI i))])
    (kk : ∀ (M' : Mem) (H : Heap) (locs : List Loc), Inv M' → va_P g.1 vwCl (gW g M') H → va_S (gA g) s.heap H locs → W p l e room_1 s m #[Value.ref b] below meth c H locs 600000 7302249 Q (F0 m 1345 ls [])) : W p l e room_1 s m #[Value.ref b] below meth c H locs 600000 7302249 Q (F0 m 826 ls []) := by
  have hx := X.1.1
  have hb := X.1.2.1
  obtain ⟨r, M1, M2, e1, e2, hI2⟩ := Sim_least (xs (i + 1)) M hI
  refine lv_aload_n hx hb dL_law_826 rfl (lv_at hl 1 rfl) ?_
  refine lv_aload_n hx hb dL_law_827 rfl (lv_at hl 0 rfl) ?_
  refine lv_iload_n hx hb dL_law_828 rfl (lv_at hl 3 rfl) ?_
  refine lv_iconst (v := (1 : Int32)) hx hb dL_law_829 (by decide) ?_
  refine l_arg (cc := cL_law) (k := 1) X hS hL (by omega) rfl dL_law_830 dL_law_831 ?_
  refine g_goi (g_run X.1 (c_X6_least l g e1) s_X6_least (oB_6 rfl) q3_54 ⟨Nat.le_of_ble_eq_true rfl, Nat.le_of_ble_eq_true rfl⟩ hP hS rfl hl.1 rfl (Nat.le_of_ble_eq_true rfl) ⟨Nat.le_refl _, Nat.le_refl _⟩ dL_law_832) hS (fun H locs hP hS => ?_)
  refine lv_aload_n hx hb dL_law_835 rfl (lv_at hl 2 rfl) ?_
  refine lv_aload_n hx hb dL_law_836 rfl (lv_at hl 0 rfl) ?_
  refine lv_iload_n hx hb dL_law_837 rfl (lv_at hl 3 rfl) ?_
  refine lv_iconst (v := (1 : Int32)) hx hb dL_law_838 (by decide) ?_
  refine l_arg (cc := cL_law) (k := 1) X hS hL (by omega) rfl dL_law_839 dL_law_840 ?_
  refine g_goi (g_run X.1 (c_X7_least l g e2) s_X7_least (oB_7 rfl) q5_58 ⟨Nat.le_of_ble_eq_true rfl, Nat.le_of_ble_eq_true rfl⟩ hP hS rfl hl.1 rfl (Nat.le_of_ble_eq_true rfl) ⟨Nat.le_refl _, Nat.le_refl _⟩ dL_law_841) hS (fun H locs hP hS => ?_)
  exact lv_icmp_eq (tgt := 1345) hx hb dL_law_844 (by decide) (fun _ => kk M2 H locs hI2 hP hS) (fun h => absurd rfl h)
set_option maxRecDepth 20000 in
theorem lc_23 (X : Lx p s m meth c g b L xs) (hL : L < 2147483648) (hi : i + 6 ≤ L) (hI : Inv M) (hP : va_P g.1 vwCl (gW g M) H) (hS : va_S (gA g) s.heap H locs) (hl : lv_has ls 4 [(0, .ref b), (1, .ref (gz g + 0)), (2, .ref (gz g + 279)), (3, .int (nI i))])
    (kk : ∀ (M' : Mem) (H : Heap) (locs : List Loc), Inv M' → va_P g.1 vwCl (gW g M') H → va_S (gA g) s.heap H locs → W p l e room_1 s m #[Value.ref b] below meth c H locs 600000 7302249 Q (F0 m 1345 ls [])) : W p l e room_1 s m #[Value.ref b] below meth c H locs 600000 7302249 Q (F0 m 849 ls []) := by
  have hx := X.1.1
  have hb := X.1.2.1
  obtain ⟨r, M1, M2, e1, e2, hI2⟩ := Sim_tune (xs (i + 1)) (xs (i + 2)) (xs (i + 3)) M hI
  refine lv_aload_n hx hb dL_law_849 rfl (lv_at hl 1 rfl) ?_
  refine lv_aload_n hx hb dL_law_850 rfl (lv_at hl 0 rfl) ?_
  refine lv_iload_n hx hb dL_law_851 rfl (lv_at hl 3 rfl) ?_
  refine lv_iconst (v := (1 : Int32)) hx hb dL_law_852 (by decide) ?_
  refine l_arg (cc := cL_law) (k := 1) X hS hL (by omega) rfl dL_law_853 dL_law_854 ?_
  refine lv_aload_n hx hb dL_law_855 rfl (lv_at hl 0 rfl) ?_
  refine lv_iload_n hx hb dL_law_856 rfl (lv_at hl 3 rfl) ?_
  refine lv_iconst (v := (2 : Int32)) hx hb dL_law_857 (by decide) ?_
  refine l_arg (cc := cL_law) (k := 2) X hS hL (by omega) rfl dL_law_858 dL_law_859 ?_
  refine lv_aload_n hx hb dL_law_860 rfl (lv_at hl 0 rfl) ?_
  refine lv_iload_n hx hb dL_law_861 rfl (lv_at hl 3 rfl) ?_
  refine lv_iconst (v := (3 : Int32)) hx hb dL_law_862 (by decide) ?_
  refine l_arg (cc := cL_law) (k := 3) X hS hL (by omega) rfl dL_law_863 dL_law_864 ?_
  refine g_goi (g_run X.1 (c_X6_tune l g e1) s_X6_tune (oB_6 rfl) q3_62 ⟨Nat.le_of_ble_eq_true rfl, Nat.le_of_ble_eq_true rfl⟩ hP hS rfl hl.1 rfl (Nat.le_of_ble_eq_true rfl) ⟨Nat.le_refl _, Nat.le_refl _⟩ dL_law_865) hS (fun H locs hP hS => ?_)
  refine lv_aload_n hx hb dL_law_868 rfl (lv_at hl 2 rfl) ?_
  refine lv_aload_n hx hb dL_law_869 rfl (lv_at hl 0 rfl) ?_
  refine lv_iload_n hx hb dL_law_870 rfl (lv_at hl 3 rfl) ?_
  refine lv_iconst (v := (1 : Int32)) hx hb dL_law_871 (by decide) ?_
  refine l_arg (cc := cL_law) (k := 1) X hS hL (by omega) rfl dL_law_872 dL_law_873 ?_
  refine lv_aload_n hx hb dL_law_874 rfl (lv_at hl 0 rfl) ?_
  refine lv_iload_n hx hb dL_law_875 rfl (lv_at hl 3 rfl) ?_
  refine lv_iconst (v := (2 : Int32)) hx hb dL_law_876 (by decide) ?_
  refine l_arg (cc := cL_law) (k := 2) X hS hL (by omega) rfl dL_law_877 dL_law_878 ?_
  refine lv_aload_n hx hb dL_law_879 rfl (lv_at hl 0 rfl) ?_
  refine lv_iload_n hx hb dL_law_880 rfl (lv_at hl 3 rfl) ?_
  refine lv_iconst (v := (3 : Int32)) hx hb dL_law_881 (by decide) ?_
  refine l_arg (cc := cL_law) (k := 3) X hS hL (by omega) rfl dL_law_882 dL_law_883 ?_
  refine g_goi (g_run X.1 (c_X7_tune l g e2) s_X7_tune (oB_7 rfl) q5_62 ⟨Nat.le_of_ble_eq_true rfl, Nat.le_of_ble_eq_true rfl⟩ hP hS rfl hl.1 rfl (Nat.le_of_ble_eq_true rfl) ⟨Nat.le_refl _, Nat.le_refl _⟩ dL_law_884) hS (fun H locs hP hS => ?_)
  exact lv_icmp_eq (tgt := 1345) hx hb dL_law_887 (by decide) (fun _ => kk M2 H locs hI2 hP hS) (fun h => absurd rfl h)
set_option maxRecDepth 20000 in
theorem lc_24 (X : Lx p s m meth c g b L xs) (hL : L < 2147483648) (hi : i + 6 ≤ L) (hI : Inv M) (hP : va_P g.1 vwCl (gW g M) H) (hS : va_S (gA g) s.heap H locs) (hl : lv_has ls 4 [(0, .ref b), (1, .ref (gz g + 0)), (2, .ref (gz g + 279)), (3, .int (nI i))])
    (kk : ∀ (M' : Mem) (H : Heap) (locs : List Loc), Inv M' → va_P g.1 vwCl (gW g M') H → va_S (gA g) s.heap H locs → W p l e room_1 s m #[Value.ref b] below meth c H locs 600000 7302249 Q (F0 m 1345 ls [])) : W p l e room_1 s m #[Value.ref b] below meth c H locs 600000 7302249 Q (F0 m 892 ls []) := by
  have hx := X.1.1
  have hb := X.1.2.1
  obtain ⟨r, M1, M2, e1, e2, hI2⟩ := Sim_sets (xs (i + 1)) (xs (i + 2)) M hI
  refine lv_aload_n hx hb dL_law_892 rfl (lv_at hl 1 rfl) ?_
  refine lv_aload_n hx hb dL_law_893 rfl (lv_at hl 0 rfl) ?_
  refine lv_iload_n hx hb dL_law_894 rfl (lv_at hl 3 rfl) ?_
  refine lv_iconst (v := (1 : Int32)) hx hb dL_law_895 (by decide) ?_
  refine l_arg (cc := cL_law) (k := 1) X hS hL (by omega) rfl dL_law_896 dL_law_897 ?_
  refine lv_aload_n hx hb dL_law_898 rfl (lv_at hl 0 rfl) ?_
  refine lv_iload_n hx hb dL_law_899 rfl (lv_at hl 3 rfl) ?_
  refine lv_iconst (v := (2 : Int32)) hx hb dL_law_900 (by decide) ?_
  refine l_arg (cc := cL_law) (k := 2) X hS hL (by omega) rfl dL_law_901 dL_law_902 ?_
  refine g_goi (g_run X.1 (c_X6_sets l g e1) s_X6_sets (oB_6 rfl) q3_74 ⟨Nat.le_of_ble_eq_true rfl, Nat.le_of_ble_eq_true rfl⟩ hP hS rfl hl.1 rfl (Nat.le_of_ble_eq_true rfl) ⟨Nat.le_refl _, Nat.le_refl _⟩ dL_law_903) hS (fun H locs hP hS => ?_)
  refine lv_aload_n hx hb dL_law_906 rfl (lv_at hl 2 rfl) ?_
  refine lv_aload_n hx hb dL_law_907 rfl (lv_at hl 0 rfl) ?_
  refine lv_iload_n hx hb dL_law_908 rfl (lv_at hl 3 rfl) ?_
  refine lv_iconst (v := (1 : Int32)) hx hb dL_law_909 (by decide) ?_
  refine l_arg (cc := cL_law) (k := 1) X hS hL (by omega) rfl dL_law_910 dL_law_911 ?_
  refine lv_aload_n hx hb dL_law_912 rfl (lv_at hl 0 rfl) ?_
  refine lv_iload_n hx hb dL_law_913 rfl (lv_at hl 3 rfl) ?_
  refine lv_iconst (v := (2 : Int32)) hx hb dL_law_914 (by decide) ?_
  refine l_arg (cc := cL_law) (k := 2) X hS hL (by omega) rfl dL_law_915 dL_law_916 ?_
  refine g_goi (g_run X.1 (c_X7_sets l g e2) s_X7_sets (oB_7 rfl) q5_67 ⟨Nat.le_of_ble_eq_true rfl, Nat.le_of_ble_eq_true rfl⟩ hP hS rfl hl.1 rfl (Nat.le_of_ble_eq_true rfl) ⟨Nat.le_refl _, Nat.le_refl _⟩ dL_law_917) hS (fun H locs hP hS => ?_)
  exact lv_icmp_eq (tgt := 1345) hx hb dL_law_920 (by decide) (fun _ => kk M2 H locs hI2 hP hS) (fun h => absurd rfl h)
set_option maxRecDepth 20000 in
theorem lc_25 (X : Lx p s m meth c g b L xs) (hL : L < 2147483648) (hi : i + 6 ≤ L) (hI : Inv M) (hP : va_P g.1 vwCl (gW g M) H) (hS : va_S (gA g) s.heap H locs) (hl : lv_has ls 4 [(0, .ref b), (1, .ref (gz g + 0)), (2, .ref (gz g + 279)), (3, .int (nI i))])
    (kk : ∀ (M' : Mem) (H : Heap) (locs : List Loc), Inv M' → va_P g.1 vwCl (gW g M') H → va_S (gA g) s.heap H locs → W p l e room_1 s m #[Value.ref b] below meth c H locs 600000 7302249 Q (F0 m 1345 ls [])) : W p l e room_1 s m #[Value.ref b] below meth c H locs 600000 7302249 Q (F0 m 925 ls []) := by
  have hx := X.1.1
  have hb := X.1.2.1
  obtain ⟨r, M1, M2, e1, e2, hI2⟩ := Sim_share (xs (i + 1)) (xs (i + 2)) M hI
  refine lv_aload_n hx hb dL_law_925 rfl (lv_at hl 1 rfl) ?_
  refine lv_aload_n hx hb dL_law_926 rfl (lv_at hl 0 rfl) ?_
  refine lv_iload_n hx hb dL_law_927 rfl (lv_at hl 3 rfl) ?_
  refine lv_iconst (v := (1 : Int32)) hx hb dL_law_928 (by decide) ?_
  refine l_arg (cc := cL_law) (k := 1) X hS hL (by omega) rfl dL_law_929 dL_law_930 ?_
  refine lv_aload_n hx hb dL_law_931 rfl (lv_at hl 0 rfl) ?_
  refine lv_iload_n hx hb dL_law_932 rfl (lv_at hl 3 rfl) ?_
  refine lv_iconst (v := (2 : Int32)) hx hb dL_law_933 (by decide) ?_
  refine l_arg (cc := cL_law) (k := 2) X hS hL (by omega) rfl dL_law_934 dL_law_935 ?_
  refine g_goi (g_run X.1 (c_X6_share l g e1) s_X6_share (oB_6 rfl) q3_86 ⟨Nat.le_of_ble_eq_true rfl, Nat.le_of_ble_eq_true rfl⟩ hP hS rfl hl.1 rfl (Nat.le_of_ble_eq_true rfl) ⟨Nat.le_refl _, Nat.le_refl _⟩ dL_law_936) hS (fun H locs hP hS => ?_)
  refine lv_aload_n hx hb dL_law_939 rfl (lv_at hl 2 rfl) ?_
  refine lv_aload_n hx hb dL_law_940 rfl (lv_at hl 0 rfl) ?_
  refine lv_iload_n hx hb dL_law_941 rfl (lv_at hl 3 rfl) ?_
  refine lv_iconst (v := (1 : Int32)) hx hb dL_law_942 (by decide) ?_
  refine l_arg (cc := cL_law) (k := 1) X hS hL (by omega) rfl dL_law_943 dL_law_944 ?_
  refine lv_aload_n hx hb dL_law_945 rfl (lv_at hl 0 rfl) ?_
  refine lv_iload_n hx hb dL_law_946 rfl (lv_at hl 3 rfl) ?_
  refine lv_iconst (v := (2 : Int32)) hx hb dL_law_947 (by decide) ?_
  refine l_arg (cc := cL_law) (k := 2) X hS hL (by omega) rfl dL_law_948 dL_law_949 ?_
  refine g_goi (g_run X.1 (c_X7_share l g e2) s_X7_share (oB_7 rfl) q5_71 ⟨Nat.le_of_ble_eq_true rfl, Nat.le_of_ble_eq_true rfl⟩ hP hS rfl hl.1 rfl (Nat.le_of_ble_eq_true rfl) ⟨Nat.le_refl _, Nat.le_refl _⟩ dL_law_950) hS (fun H locs hP hS => ?_)
  exact lv_icmp_eq (tgt := 1345) hx hb dL_law_953 (by decide) (fun _ => kk M2 H locs hI2 hP hS) (fun h => absurd rfl h)
set_option maxRecDepth 20000 in
theorem lc_26 (X : Lx p s m meth c g b L xs) (hL : L < 2147483648) (hi : i + 6 ≤ L) (hI : Inv M) (hP : va_P g.1 vwCl (gW g M) H) (hS : va_S (gA g) s.heap H locs) (hl : lv_has ls 4 [(0, .ref b), (1, .ref (gz g + 0)), (2, .ref (gz g + 279)), (3, .int (nI i))])
    (kk : ∀ (M' : Mem) (H : Heap) (locs : List Loc), Inv M' → va_P g.1 vwCl (gW g M') H → va_S (gA g) s.heap H locs → W p l e room_1 s m #[Value.ref b] below meth c H locs 600000 7302249 Q (F0 m 1345 ls [])) : W p l e room_1 s m #[Value.ref b] below meth c H locs 600000 7302249 Q (F0 m 958 ls []) := by
  have hx := X.1.1
  have hb := X.1.2.1
  obtain ⟨r, M1, M2, e1, e2, hI2⟩ := Sim_byTurns (xs (i + 1)) (xs (i + 2)) M hI
  refine lv_aload_n hx hb dL_law_958 rfl (lv_at hl 1 rfl) ?_
  refine lv_aload_n hx hb dL_law_959 rfl (lv_at hl 0 rfl) ?_
  refine lv_iload_n hx hb dL_law_960 rfl (lv_at hl 3 rfl) ?_
  refine lv_iconst (v := (1 : Int32)) hx hb dL_law_961 (by decide) ?_
  refine l_arg (cc := cL_law) (k := 1) X hS hL (by omega) rfl dL_law_962 dL_law_963 ?_
  refine lv_aload_n hx hb dL_law_964 rfl (lv_at hl 0 rfl) ?_
  refine lv_iload_n hx hb dL_law_965 rfl (lv_at hl 3 rfl) ?_
  refine lv_iconst (v := (2 : Int32)) hx hb dL_law_966 (by decide) ?_
  refine l_arg (cc := cL_law) (k := 2) X hS hL (by omega) rfl dL_law_967 dL_law_968 ?_
  refine g_goi (g_run X.1 (c_X6_byTurns l g e1) s_X6_byTurns (oB_6 rfl) q3_98 ⟨Nat.le_of_ble_eq_true rfl, Nat.le_of_ble_eq_true rfl⟩ hP hS rfl hl.1 rfl (Nat.le_of_ble_eq_true rfl) ⟨Nat.le_refl _, Nat.le_refl _⟩ dL_law_969) hS (fun H locs hP hS => ?_)
  refine lv_aload_n hx hb dL_law_972 rfl (lv_at hl 2 rfl) ?_
  refine lv_aload_n hx hb dL_law_973 rfl (lv_at hl 0 rfl) ?_
  refine lv_iload_n hx hb dL_law_974 rfl (lv_at hl 3 rfl) ?_
  refine lv_iconst (v := (1 : Int32)) hx hb dL_law_975 (by decide) ?_
  refine l_arg (cc := cL_law) (k := 1) X hS hL (by omega) rfl dL_law_976 dL_law_977 ?_
  refine lv_aload_n hx hb dL_law_978 rfl (lv_at hl 0 rfl) ?_
  refine lv_iload_n hx hb dL_law_979 rfl (lv_at hl 3 rfl) ?_
  refine lv_iconst (v := (2 : Int32)) hx hb dL_law_980 (by decide) ?_
  refine l_arg (cc := cL_law) (k := 2) X hS hL (by omega) rfl dL_law_981 dL_law_982 ?_
  refine g_goi (g_run X.1 (c_X7_byTurns l g e2) s_X7_byTurns (oB_7 rfl) q5_76 ⟨Nat.le_of_ble_eq_true rfl, Nat.le_of_ble_eq_true rfl⟩ hP hS rfl hl.1 rfl (Nat.le_of_ble_eq_true rfl) ⟨Nat.le_refl _, Nat.le_refl _⟩ dL_law_983) hS (fun H locs hP hS => ?_)
  exact lv_icmp_eq (tgt := 1345) hx hb dL_law_986 (by decide) (fun _ => kk M2 H locs hI2 hP hS) (fun h => absurd rfl h)
set_option maxRecDepth 20000 in
theorem lc_27 (X : Lx p s m meth c g b L xs) (hL : L < 2147483648) (hi : i + 6 ≤ L) (hI : Inv M) (hP : va_P g.1 vwCl (gW g M) H) (hS : va_S (gA g) s.heap H locs) (hl : lv_has ls 4 [(0, .ref b), (1, .ref (gz g + 0)), (2, .ref (gz g + 279)), (3, .int (nI i))])
    (kk : ∀ (M' : Mem) (H : Heap) (locs : List Loc), Inv M' → va_P g.1 vwCl (gW g M') H → va_S (gA g) s.heap H locs → W p l e room_1 s m #[Value.ref b] below meth c H locs 600000 7302249 Q (F0 m 1345 ls [])) : W p l e room_1 s m #[Value.ref b] below meth c H locs 600000 7302249 Q (F0 m 991 ls []) := by
  have hx := X.1.1
  have hb := X.1.2.1
  obtain ⟨r, M1, M2, e1, e2, hI2⟩ := Sim_who (xs (i + 1)) (xs (i + 2)) (xs (i + 3)) (xs (i + 4)) (xs (i + 5)) M hI
  refine lv_aload_n hx hb dL_law_991 rfl (lv_at hl 1 rfl) ?_
  refine lv_aload_n hx hb dL_law_992 rfl (lv_at hl 0 rfl) ?_
  refine lv_iload_n hx hb dL_law_993 rfl (lv_at hl 3 rfl) ?_
  refine lv_iconst (v := (1 : Int32)) hx hb dL_law_994 (by decide) ?_
  refine l_arg (cc := cL_law) (k := 1) X hS hL (by omega) rfl dL_law_995 dL_law_996 ?_
  refine lv_aload_n hx hb dL_law_997 rfl (lv_at hl 0 rfl) ?_
  refine lv_iload_n hx hb dL_law_998 rfl (lv_at hl 3 rfl) ?_
  refine lv_iconst (v := (2 : Int32)) hx hb dL_law_999 (by decide) ?_
  refine l_arg (cc := cL_law) (k := 2) X hS hL (by omega) rfl dL_law_1000 dL_law_1001 ?_
  refine lv_aload_n hx hb dL_law_1002 rfl (lv_at hl 0 rfl) ?_
  refine lv_iload_n hx hb dL_law_1003 rfl (lv_at hl 3 rfl) ?_
  refine lv_iconst (v := (3 : Int32)) hx hb dL_law_1004 (by decide) ?_
  refine l_arg (cc := cL_law) (k := 3) X hS hL (by omega) rfl dL_law_1005 dL_law_1006 ?_
  refine lv_aload_n hx hb dL_law_1007 rfl (lv_at hl 0 rfl) ?_
  refine lv_iload_n hx hb dL_law_1008 rfl (lv_at hl 3 rfl) ?_
  refine lv_iconst (v := (4 : Int32)) hx hb dL_law_1009 (by decide) ?_
  refine l_arg (cc := cL_law) (k := 4) X hS hL (by omega) rfl dL_law_1010 dL_law_1011 ?_
  refine lv_aload_n hx hb dL_law_1012 rfl (lv_at hl 0 rfl) ?_
  refine lv_iload_n hx hb dL_law_1013 rfl (lv_at hl 3 rfl) ?_
  refine lv_iconst (v := (5 : Int32)) hx hb dL_law_1014 (by decide) ?_
  refine l_arg (cc := cL_law) (k := 5) X hS hL (by omega) rfl dL_law_1015 dL_law_1016 ?_
  refine g_goi (g_run X.1 (c_X6_who l g e1) s_X6_who (oB_6 rfl) q3_118 ⟨Nat.le_of_ble_eq_true rfl, Nat.le_of_ble_eq_true rfl⟩ hP hS rfl hl.1 rfl (Nat.le_of_ble_eq_true rfl) ⟨Nat.le_refl _, Nat.le_refl _⟩ dL_law_1017) hS (fun H locs hP hS => ?_)
  refine lv_aload_n hx hb dL_law_1020 rfl (lv_at hl 2 rfl) ?_
  refine lv_aload_n hx hb dL_law_1021 rfl (lv_at hl 0 rfl) ?_
  refine lv_iload_n hx hb dL_law_1022 rfl (lv_at hl 3 rfl) ?_
  refine lv_iconst (v := (1 : Int32)) hx hb dL_law_1023 (by decide) ?_
  refine l_arg (cc := cL_law) (k := 1) X hS hL (by omega) rfl dL_law_1024 dL_law_1025 ?_
  refine lv_aload_n hx hb dL_law_1026 rfl (lv_at hl 0 rfl) ?_
  refine lv_iload_n hx hb dL_law_1027 rfl (lv_at hl 3 rfl) ?_
  refine lv_iconst (v := (2 : Int32)) hx hb dL_law_1028 (by decide) ?_
  refine l_arg (cc := cL_law) (k := 2) X hS hL (by omega) rfl dL_law_1029 dL_law_1030 ?_
  refine lv_aload_n hx hb dL_law_1031 rfl (lv_at hl 0 rfl) ?_
  refine lv_iload_n hx hb dL_law_1032 rfl (lv_at hl 3 rfl) ?_
  refine lv_iconst (v := (3 : Int32)) hx hb dL_law_1033 (by decide) ?_
  refine l_arg (cc := cL_law) (k := 3) X hS hL (by omega) rfl dL_law_1034 dL_law_1035 ?_
  refine lv_aload_n hx hb dL_law_1036 rfl (lv_at hl 0 rfl) ?_
  refine lv_iload_n hx hb dL_law_1037 rfl (lv_at hl 3 rfl) ?_
  refine lv_iconst (v := (4 : Int32)) hx hb dL_law_1038 (by decide) ?_
  refine l_arg (cc := cL_law) (k := 4) X hS hL (by omega) rfl dL_law_1039 dL_law_1040 ?_
  refine lv_aload_n hx hb dL_law_1041 rfl (lv_at hl 0 rfl) ?_
  refine lv_iload_n hx hb dL_law_1042 rfl (lv_at hl 3 rfl) ?_
  refine lv_iconst (v := (5 : Int32)) hx hb dL_law_1043 (by decide) ?_
  refine l_arg (cc := cL_law) (k := 5) X hS hL (by omega) rfl dL_law_1044 dL_law_1045 ?_
  refine g_goi (g_run X.1 (c_X7_who l g e2) s_X7_who (oB_7 rfl) q5_85 ⟨Nat.le_of_ble_eq_true rfl, Nat.le_of_ble_eq_true rfl⟩ hP hS rfl hl.1 rfl (Nat.le_of_ble_eq_true rfl) ⟨Nat.le_refl _, Nat.le_refl _⟩ dL_law_1046) hS (fun H locs hP hS => ?_)
  exact lv_icmp_eq (tgt := 1345) hx hb dL_law_1049 (by decide) (fun _ => kk M2 H locs hI2 hP hS) (fun h => absurd rfl h)
set_option maxRecDepth 20000 in
theorem lc_28 (X : Lx p s m meth c g b L xs) (hL : L < 2147483648) (hi : i + 6 ≤ L) (hI : Inv M) (hP : va_P g.1 vwCl (gW g M) H) (hS : va_S (gA g) s.heap H locs) (hl : lv_has ls 4 [(0, .ref b), (1, .ref (gz g + 0)), (2, .ref (gz g + 279)), (3, .int (nI i))])
    (kk : ∀ (M' : Mem) (H : Heap) (locs : List Loc), Inv M' → va_P g.1 vwCl (gW g M') H → va_S (gA g) s.heap H locs → W p l e room_1 s m #[Value.ref b] below meth c H locs 600000 7302249 Q (F0 m 1345 ls [])) : W p l e room_1 s m #[Value.ref b] below meth c H locs 600000 7302249 Q (F0 m 1054 ls []) := by
  have hx := X.1.1
  have hb := X.1.2.1
  obtain ⟨r, M1, M2, e1, e2, hI2⟩ := Sim_lost (xs (i + 1)) (xs (i + 2)) (xs (i + 3)) (xs (i + 4)) M hI
  refine lv_aload_n hx hb dL_law_1054 rfl (lv_at hl 1 rfl) ?_
  refine lv_aload_n hx hb dL_law_1055 rfl (lv_at hl 0 rfl) ?_
  refine lv_iload_n hx hb dL_law_1056 rfl (lv_at hl 3 rfl) ?_
  refine lv_iconst (v := (1 : Int32)) hx hb dL_law_1057 (by decide) ?_
  refine l_arg (cc := cL_law) (k := 1) X hS hL (by omega) rfl dL_law_1058 dL_law_1059 ?_
  refine lv_aload_n hx hb dL_law_1060 rfl (lv_at hl 0 rfl) ?_
  refine lv_iload_n hx hb dL_law_1061 rfl (lv_at hl 3 rfl) ?_
  refine lv_iconst (v := (2 : Int32)) hx hb dL_law_1062 (by decide) ?_
  refine l_arg (cc := cL_law) (k := 2) X hS hL (by omega) rfl dL_law_1063 dL_law_1064 ?_
  refine lv_aload_n hx hb dL_law_1065 rfl (lv_at hl 0 rfl) ?_
  refine lv_iload_n hx hb dL_law_1066 rfl (lv_at hl 3 rfl) ?_
  refine lv_iconst (v := (3 : Int32)) hx hb dL_law_1067 (by decide) ?_
  refine l_arg (cc := cL_law) (k := 3) X hS hL (by omega) rfl dL_law_1068 dL_law_1069 ?_
  refine lv_aload_n hx hb dL_law_1070 rfl (lv_at hl 0 rfl) ?_
  refine lv_iload_n hx hb dL_law_1071 rfl (lv_at hl 3 rfl) ?_
  refine lv_iconst (v := (4 : Int32)) hx hb dL_law_1072 (by decide) ?_
  refine l_arg (cc := cL_law) (k := 4) X hS hL (by omega) rfl dL_law_1073 dL_law_1074 ?_
  refine g_gol (g_run X.1 (c_X6_lost l g e1) s_X6_lost (oB_6 rfl) q3_146 ⟨Nat.le_of_ble_eq_true rfl, Nat.le_of_ble_eq_true rfl⟩ hP hS rfl hl.1 rfl (Nat.le_of_ble_eq_true rfl) ⟨Nat.le_refl _, Nat.le_refl _⟩ dL_law_1075) hS (fun H locs hP hS => ?_)
  refine lv_aload_n hx hb dL_law_1078 rfl (lv_at hl 2 rfl) ?_
  refine lv_aload_n hx hb dL_law_1079 rfl (lv_at hl 0 rfl) ?_
  refine lv_iload_n hx hb dL_law_1080 rfl (lv_at hl 3 rfl) ?_
  refine lv_iconst (v := (1 : Int32)) hx hb dL_law_1081 (by decide) ?_
  refine l_arg (cc := cL_law) (k := 1) X hS hL (by omega) rfl dL_law_1082 dL_law_1083 ?_
  refine lv_aload_n hx hb dL_law_1084 rfl (lv_at hl 0 rfl) ?_
  refine lv_iload_n hx hb dL_law_1085 rfl (lv_at hl 3 rfl) ?_
  refine lv_iconst (v := (2 : Int32)) hx hb dL_law_1086 (by decide) ?_
  refine l_arg (cc := cL_law) (k := 2) X hS hL (by omega) rfl dL_law_1087 dL_law_1088 ?_
  refine lv_aload_n hx hb dL_law_1089 rfl (lv_at hl 0 rfl) ?_
  refine lv_iload_n hx hb dL_law_1090 rfl (lv_at hl 3 rfl) ?_
  refine lv_iconst (v := (3 : Int32)) hx hb dL_law_1091 (by decide) ?_
  refine l_arg (cc := cL_law) (k := 3) X hS hL (by omega) rfl dL_law_1092 dL_law_1093 ?_
  refine lv_aload_n hx hb dL_law_1094 rfl (lv_at hl 0 rfl) ?_
  refine lv_iload_n hx hb dL_law_1095 rfl (lv_at hl 3 rfl) ?_
  refine lv_iconst (v := (4 : Int32)) hx hb dL_law_1096 (by decide) ?_
  refine l_arg (cc := cL_law) (k := 4) X hS hL (by omega) rfl dL_law_1097 dL_law_1098 ?_
  refine g_gol (g_run X.1 (c_X7_lost l g e2) s_X7_lost (oB_7 rfl) q5_93 ⟨Nat.le_of_ble_eq_true rfl, Nat.le_of_ble_eq_true rfl⟩ hP hS rfl hl.1 rfl (Nat.le_of_ble_eq_true rfl) ⟨Nat.le_refl _, Nat.le_refl _⟩ dL_law_1099) hS (fun H locs hP hS => ?_)
  refine W.lcmp hx hb dL_law_1102 ?_
  refine lv_if_eq (tgt := 1345) hx hb dL_law_1103 (by decide) (fun _ => kk M2 H locs hI2 hP hS) (fun h => absurd ((lg_cmp_eq r r).mpr rfl) h)
set_option maxRecDepth 20000 in
theorem lc_29 (X : Lx p s m meth c g b L xs) (hL : L < 2147483648) (hi : i + 6 ≤ L) (hI : Inv M) (hP : va_P g.1 vwCl (gW g M) H) (hS : va_S (gA g) s.heap H locs) (hl : lv_has ls 4 [(0, .ref b), (1, .ref (gz g + 0)), (2, .ref (gz g + 279)), (3, .int (nI i))])
    (kk : ∀ (M' : Mem) (H : Heap) (locs : List Loc), Inv M' → va_P g.1 vwCl (gW g M') H → va_S (gA g) s.heap H locs → W p l e room_1 s m #[Value.ref b] below meth c H locs 600000 7302249 Q (F0 m 1345 ls [])) : W p l e room_1 s m #[Value.ref b] below meth c H locs 600000 7302249 Q (F0 m 1108 ls []) := by
  have hx := X.1.1
  have hb := X.1.2.1
  obtain ⟨r, M1, M2, e1, e2, hI2⟩ := Sim_drawn (xs (i + 1)) (xs (i + 2)) (xs (i + 3)) M hI
  refine lv_aload_n hx hb dL_law_1108 rfl (lv_at hl 1 rfl) ?_
  refine lv_aload_n hx hb dL_law_1109 rfl (lv_at hl 0 rfl) ?_
  refine lv_iload_n hx hb dL_law_1110 rfl (lv_at hl 3 rfl) ?_
  refine lv_iconst (v := (1 : Int32)) hx hb dL_law_1111 (by decide) ?_
  refine l_arg (cc := cL_law) (k := 1) X hS hL (by omega) rfl dL_law_1112 dL_law_1113 ?_
  refine lv_aload_n hx hb dL_law_1114 rfl (lv_at hl 0 rfl) ?_
  refine lv_iload_n hx hb dL_law_1115 rfl (lv_at hl 3 rfl) ?_
  refine lv_iconst (v := (2 : Int32)) hx hb dL_law_1116 (by decide) ?_
  refine l_arg (cc := cL_law) (k := 2) X hS hL (by omega) rfl dL_law_1117 dL_law_1118 ?_
  refine lv_aload_n hx hb dL_law_1119 rfl (lv_at hl 0 rfl) ?_
  refine lv_iload_n hx hb dL_law_1120 rfl (lv_at hl 3 rfl) ?_
  refine lv_iconst (v := (3 : Int32)) hx hb dL_law_1121 (by decide) ?_
  refine l_arg (cc := cL_law) (k := 3) X hS hL (by omega) rfl dL_law_1122 dL_law_1123 ?_
  refine g_goi (g_run X.1 (c_X6_drawn l g e1) s_X6_drawn (oB_6 rfl) q3_177 ⟨Nat.le_of_ble_eq_true rfl, Nat.le_of_ble_eq_true rfl⟩ hP hS rfl hl.1 rfl (Nat.le_of_ble_eq_true rfl) ⟨Nat.le_refl _, Nat.le_refl _⟩ dL_law_1124) hS (fun H locs hP hS => ?_)
  refine lv_aload_n hx hb dL_law_1127 rfl (lv_at hl 2 rfl) ?_
  refine lv_aload_n hx hb dL_law_1128 rfl (lv_at hl 0 rfl) ?_
  refine lv_iload_n hx hb dL_law_1129 rfl (lv_at hl 3 rfl) ?_
  refine lv_iconst (v := (1 : Int32)) hx hb dL_law_1130 (by decide) ?_
  refine l_arg (cc := cL_law) (k := 1) X hS hL (by omega) rfl dL_law_1131 dL_law_1132 ?_
  refine lv_aload_n hx hb dL_law_1133 rfl (lv_at hl 0 rfl) ?_
  refine lv_iload_n hx hb dL_law_1134 rfl (lv_at hl 3 rfl) ?_
  refine lv_iconst (v := (2 : Int32)) hx hb dL_law_1135 (by decide) ?_
  refine l_arg (cc := cL_law) (k := 2) X hS hL (by omega) rfl dL_law_1136 dL_law_1137 ?_
  refine lv_aload_n hx hb dL_law_1138 rfl (lv_at hl 0 rfl) ?_
  refine lv_iload_n hx hb dL_law_1139 rfl (lv_at hl 3 rfl) ?_
  refine lv_iconst (v := (3 : Int32)) hx hb dL_law_1140 (by decide) ?_
  refine l_arg (cc := cL_law) (k := 3) X hS hL (by omega) rfl dL_law_1141 dL_law_1142 ?_
  refine g_goi (g_run X.1 (c_X7_drawn l g e2) s_X7_drawn (oB_7 rfl) q5_99 ⟨Nat.le_of_ble_eq_true rfl, Nat.le_of_ble_eq_true rfl⟩ hP hS rfl hl.1 rfl (Nat.le_of_ble_eq_true rfl) ⟨Nat.le_refl _, Nat.le_refl _⟩ dL_law_1143) hS (fun H locs hP hS => ?_)
  exact lv_icmp_eq (tgt := 1345) hx hb dL_law_1146 (by decide) (fun _ => kk M2 H locs hI2 hP hS) (fun h => absurd rfl h)
set_option maxRecDepth 20000 in
theorem lc_30 (X : Lx p s m meth c g b L xs) (hL : L < 2147483648) (hi : i + 6 ≤ L) (hI : Inv M) (hP : va_P g.1 vwCl (gW g M) H) (hS : va_S (gA g) s.heap H locs) (hl : lv_has ls 4 [(0, .ref b), (1, .ref (gz g + 0)), (2, .ref (gz g + 279)), (3, .int (nI i))])
    (kk : ∀ (M' : Mem) (H : Heap) (locs : List Loc), Inv M' → va_P g.1 vwCl (gW g M') H → va_S (gA g) s.heap H locs → W p l e room_1 s m #[Value.ref b] below meth c H locs 600000 7302249 Q (F0 m 1345 ls [])) : W p l e room_1 s m #[Value.ref b] below meth c H locs 600000 7302249 Q (F0 m 1151 ls []) := by
  have hx := X.1.1
  have hb := X.1.2.1
  obtain ⟨r, M1, M2, e1, e2, hI2⟩ := Sim_image (xs (i + 1)) M hI
  refine lv_aload_n hx hb dL_law_1151 rfl (lv_at hl 1 rfl) ?_
  refine lv_aload_n hx hb dL_law_1152 rfl (lv_at hl 0 rfl) ?_
  refine lv_iload_n hx hb dL_law_1153 rfl (lv_at hl 3 rfl) ?_
  refine lv_iconst (v := (1 : Int32)) hx hb dL_law_1154 (by decide) ?_
  refine l_arg (cc := cL_law) (k := 1) X hS hL (by omega) rfl dL_law_1155 dL_law_1156 ?_
  refine g_goi (g_run X.1 (c_X6_image l g e1) s_X6_image (oB_6 rfl) q3_193 ⟨Nat.le_of_ble_eq_true rfl, Nat.le_of_ble_eq_true rfl⟩ hP hS rfl hl.1 rfl (Nat.le_of_ble_eq_true rfl) ⟨Nat.le_refl _, Nat.le_refl _⟩ dL_law_1157) hS (fun H locs hP hS => ?_)
  refine lv_aload_n hx hb dL_law_1160 rfl (lv_at hl 2 rfl) ?_
  refine lv_aload_n hx hb dL_law_1161 rfl (lv_at hl 0 rfl) ?_
  refine lv_iload_n hx hb dL_law_1162 rfl (lv_at hl 3 rfl) ?_
  refine lv_iconst (v := (1 : Int32)) hx hb dL_law_1163 (by decide) ?_
  refine l_arg (cc := cL_law) (k := 1) X hS hL (by omega) rfl dL_law_1164 dL_law_1165 ?_
  refine g_goi (g_run X.1 (c_X7_image l g e2) s_X7_image (oB_7 rfl) q5_108 ⟨Nat.le_of_ble_eq_true rfl, Nat.le_of_ble_eq_true rfl⟩ hP hS rfl hl.1 rfl (Nat.le_of_ble_eq_true rfl) ⟨Nat.le_refl _, Nat.le_refl _⟩ dL_law_1166) hS (fun H locs hP hS => ?_)
  exact lv_icmp_eq (tgt := 1345) hx hb dL_law_1169 (by decide) (fun _ => kk M2 H locs hI2 hP hS) (fun h => absurd rfl h)
set_option maxRecDepth 20000 in
theorem lc_31 (X : Lx p s m meth c g b L xs) (hL : L < 2147483648) (hi : i + 6 ≤ L) (hI : Inv M) (hP : va_P g.1 vwCl (gW g M) H) (hS : va_S (gA g) s.heap H locs) (hl : lv_has ls 4 [(0, .ref b), (1, .ref (gz g + 0)), (2, .ref (gz g + 279)), (3, .int (nI i))])
    (kk : ∀ (M' : Mem) (H : Heap) (locs : List Loc), Inv M' → va_P g.1 vwCl (gW g M') H → va_S (gA g) s.heap H locs → W p l e room_1 s m #[Value.ref b] below meth c H locs 600000 7302249 Q (F0 m 1345 ls [])) : W p l e room_1 s m #[Value.ref b] below meth c H locs 600000 7302249 Q (F0 m 1174 ls []) := by
  have hx := X.1.1
  have hb := X.1.2.1
  obtain ⟨r, M1, M2, e1, e2, hI2⟩ := Sim_restore (xs (i + 1)) M hI
  refine lv_aload_n hx hb dL_law_1174 rfl (lv_at hl 1 rfl) ?_
  refine lv_aload_n hx hb dL_law_1175 rfl (lv_at hl 0 rfl) ?_
  refine lv_iload_n hx hb dL_law_1176 rfl (lv_at hl 3 rfl) ?_
  refine lv_iconst (v := (1 : Int32)) hx hb dL_law_1177 (by decide) ?_
  refine l_arg (cc := cL_law) (k := 1) X hS hL (by omega) rfl dL_law_1178 dL_law_1179 ?_
  refine g_goi (g_run X.1 (c_X6_restore l g e1) s_X6_restore (oB_6 rfl) q3_197 ⟨Nat.le_of_ble_eq_true rfl, Nat.le_of_ble_eq_true rfl⟩ hP hS rfl hl.1 rfl (Nat.le_of_ble_eq_true rfl) ⟨Nat.le_refl _, Nat.le_refl _⟩ dL_law_1180) hS (fun H locs hP hS => ?_)
  refine lv_aload_n hx hb dL_law_1183 rfl (lv_at hl 2 rfl) ?_
  refine lv_aload_n hx hb dL_law_1184 rfl (lv_at hl 0 rfl) ?_
  refine lv_iload_n hx hb dL_law_1185 rfl (lv_at hl 3 rfl) ?_
  refine lv_iconst (v := (1 : Int32)) hx hb dL_law_1186 (by decide) ?_
  refine l_arg (cc := cL_law) (k := 1) X hS hL (by omega) rfl dL_law_1187 dL_law_1188 ?_
  refine g_goi (g_run X.1 (c_X7_restore l g e2) s_X7_restore (oB_7 rfl) q5_112 ⟨Nat.le_of_ble_eq_true rfl, Nat.le_of_ble_eq_true rfl⟩ hP hS rfl hl.1 rfl (Nat.le_of_ble_eq_true rfl) ⟨Nat.le_refl _, Nat.le_refl _⟩ dL_law_1189) hS (fun H locs hP hS => ?_)
  exact lv_icmp_eq (tgt := 1345) hx hb dL_law_1192 (by decide) (fun _ => kk M2 H locs hI2 hP hS) (fun h => absurd rfl h)
set_option maxRecDepth 20000 in
theorem lc_32 (X : Lx p s m meth c g b L xs) (hL : L < 2147483648) (hi : i + 6 ≤ L) (hI : Inv M) (hP : va_P g.1 vwCl (gW g M) H) (hS : va_S (gA g) s.heap H locs) (hl : lv_has ls 4 [(0, .ref b), (1, .ref (gz g + 0)), (2, .ref (gz g + 279)), (3, .int (nI i))])
    (kk : ∀ (M' : Mem) (H : Heap) (locs : List Loc), Inv M' → va_P g.1 vwCl (gW g M') H → va_S (gA g) s.heap H locs → W p l e room_1 s m #[Value.ref b] below meth c H locs 600000 7302249 Q (F0 m 1345 ls [])) : W p l e room_1 s m #[Value.ref b] below meth c H locs 600000 7302249 Q (F0 m 1197 ls []) := by
  have hx := X.1.1
  have hb := X.1.2.1
  obtain ⟨r, M1, M2, e1, e2, hI2⟩ := Sim_kind (xs (i + 1)) M hI
  refine lv_aload_n hx hb dL_law_1197 rfl (lv_at hl 1 rfl) ?_
  refine lv_aload_n hx hb dL_law_1198 rfl (lv_at hl 0 rfl) ?_
  refine lv_iload_n hx hb dL_law_1199 rfl (lv_at hl 3 rfl) ?_
  refine lv_iconst (v := (1 : Int32)) hx hb dL_law_1200 (by decide) ?_
  refine l_arg (cc := cL_law) (k := 1) X hS hL (by omega) rfl dL_law_1201 dL_law_1202 ?_
  refine g_goi (g_run X.1 (c_X6_kind l g e1) s_X6_kind (oB_6 rfl) q3_201 ⟨Nat.le_of_ble_eq_true rfl, Nat.le_of_ble_eq_true rfl⟩ hP hS rfl hl.1 rfl (Nat.le_of_ble_eq_true rfl) ⟨Nat.le_refl _, Nat.le_refl _⟩ dL_law_1203) hS (fun H locs hP hS => ?_)
  refine lv_aload_n hx hb dL_law_1206 rfl (lv_at hl 2 rfl) ?_
  refine lv_aload_n hx hb dL_law_1207 rfl (lv_at hl 0 rfl) ?_
  refine lv_iload_n hx hb dL_law_1208 rfl (lv_at hl 3 rfl) ?_
  refine lv_iconst (v := (1 : Int32)) hx hb dL_law_1209 (by decide) ?_
  refine l_arg (cc := cL_law) (k := 1) X hS hL (by omega) rfl dL_law_1210 dL_law_1211 ?_
  refine g_goi (g_run X.1 (c_X7_kind l g e2) s_X7_kind (oB_7 rfl) q5_116 ⟨Nat.le_of_ble_eq_true rfl, Nat.le_of_ble_eq_true rfl⟩ hP hS rfl hl.1 rfl (Nat.le_of_ble_eq_true rfl) ⟨Nat.le_refl _, Nat.le_refl _⟩ dL_law_1212) hS (fun H locs hP hS => ?_)
  exact lv_icmp_eq (tgt := 1345) hx hb dL_law_1215 (by decide) (fun _ => kk M2 H locs hI2 hP hS) (fun h => absurd rfl h)
set_option maxRecDepth 20000 in
theorem lc_33 (X : Lx p s m meth c g b L xs) (hL : L < 2147483648) (hi : i + 6 ≤ L) (hI : Inv M) (hP : va_P g.1 vwCl (gW g M) H) (hS : va_S (gA g) s.heap H locs) (hl : lv_has ls 4 [(0, .ref b), (1, .ref (gz g + 0)), (2, .ref (gz g + 279)), (3, .int (nI i))])
    (kk : ∀ (M' : Mem) (H : Heap) (locs : List Loc), Inv M' → va_P g.1 vwCl (gW g M') H → va_S (gA g) s.heap H locs → W p l e room_1 s m #[Value.ref b] below meth c H locs 600000 7302249 Q (F0 m 1345 ls [])) : W p l e room_1 s m #[Value.ref b] below meth c H locs 600000 7302249 Q (F0 m 1220 ls []) := by
  have hx := X.1.1
  have hb := X.1.2.1
  obtain ⟨r, M1, M2, e1, e2, hI2⟩ := Sim_as (xs (i + 1)) (xs (i + 2)) M hI
  refine lv_aload_n hx hb dL_law_1220 rfl (lv_at hl 1 rfl) ?_
  refine lv_aload_n hx hb dL_law_1221 rfl (lv_at hl 0 rfl) ?_
  refine lv_iload_n hx hb dL_law_1222 rfl (lv_at hl 3 rfl) ?_
  refine lv_iconst (v := (1 : Int32)) hx hb dL_law_1223 (by decide) ?_
  refine l_arg (cc := cL_law) (k := 1) X hS hL (by omega) rfl dL_law_1224 dL_law_1225 ?_
  refine lv_aload_n hx hb dL_law_1226 rfl (lv_at hl 0 rfl) ?_
  refine lv_iload_n hx hb dL_law_1227 rfl (lv_at hl 3 rfl) ?_
  refine lv_iconst (v := (2 : Int32)) hx hb dL_law_1228 (by decide) ?_
  refine l_arg (cc := cL_law) (k := 2) X hS hL (by omega) rfl dL_law_1229 dL_law_1230 ?_
  refine g_goi (g_run X.1 (c_X6_as l g e1) s_X6_as (oB_6 rfl) q3_205 ⟨Nat.le_of_ble_eq_true rfl, Nat.le_of_ble_eq_true rfl⟩ hP hS rfl hl.1 rfl (Nat.le_of_ble_eq_true rfl) ⟨Nat.le_refl _, Nat.le_refl _⟩ dL_law_1231) hS (fun H locs hP hS => ?_)
  refine lv_aload_n hx hb dL_law_1234 rfl (lv_at hl 2 rfl) ?_
  refine lv_aload_n hx hb dL_law_1235 rfl (lv_at hl 0 rfl) ?_
  refine lv_iload_n hx hb dL_law_1236 rfl (lv_at hl 3 rfl) ?_
  refine lv_iconst (v := (1 : Int32)) hx hb dL_law_1237 (by decide) ?_
  refine l_arg (cc := cL_law) (k := 1) X hS hL (by omega) rfl dL_law_1238 dL_law_1239 ?_
  refine lv_aload_n hx hb dL_law_1240 rfl (lv_at hl 0 rfl) ?_
  refine lv_iload_n hx hb dL_law_1241 rfl (lv_at hl 3 rfl) ?_
  refine lv_iconst (v := (2 : Int32)) hx hb dL_law_1242 (by decide) ?_
  refine l_arg (cc := cL_law) (k := 2) X hS hL (by omega) rfl dL_law_1243 dL_law_1244 ?_
  refine g_goi (g_run X.1 (c_X7_as l g e2) s_X7_as (oB_7 rfl) q5_120 ⟨Nat.le_of_ble_eq_true rfl, Nat.le_of_ble_eq_true rfl⟩ hP hS rfl hl.1 rfl (Nat.le_of_ble_eq_true rfl) ⟨Nat.le_refl _, Nat.le_refl _⟩ dL_law_1245) hS (fun H locs hP hS => ?_)
  exact lv_icmp_eq (tgt := 1345) hx hb dL_law_1248 (by decide) (fun _ => kk M2 H locs hI2 hP hS) (fun h => absurd rfl h)
set_option maxRecDepth 20000 in
theorem lc_34 (X : Lx p s m meth c g b L xs) (hL : L < 2147483648) (hi : i + 6 ≤ L) (hI : Inv M) (hP : va_P g.1 vwCl (gW g M) H) (hS : va_S (gA g) s.heap H locs) (hl : lv_has ls 4 [(0, .ref b), (1, .ref (gz g + 0)), (2, .ref (gz g + 279)), (3, .int (nI i))])
    (kk : ∀ (M' : Mem) (H : Heap) (locs : List Loc), Inv M' → va_P g.1 vwCl (gW g M') H → va_S (gA g) s.heap H locs → W p l e room_1 s m #[Value.ref b] below meth c H locs 600000 7302249 Q (F0 m 1345 ls [])) : W p l e room_1 s m #[Value.ref b] below meth c H locs 600000 7302249 Q (F0 m 1253 ls []) := by
  have hx := X.1.1
  have hb := X.1.2.1
  obtain ⟨r, M1, M2, e1, e2, hI2⟩ := Sim_ask (xs (i + 1)) (xs (i + 2)) M hI
  refine lv_aload_n hx hb dL_law_1253 rfl (lv_at hl 1 rfl) ?_
  refine lv_aload_n hx hb dL_law_1254 rfl (lv_at hl 0 rfl) ?_
  refine lv_iload_n hx hb dL_law_1255 rfl (lv_at hl 3 rfl) ?_
  refine lv_iconst (v := (1 : Int32)) hx hb dL_law_1256 (by decide) ?_
  refine l_arg (cc := cL_law) (k := 1) X hS hL (by omega) rfl dL_law_1257 dL_law_1258 ?_
  refine lv_aload_n hx hb dL_law_1259 rfl (lv_at hl 0 rfl) ?_
  refine lv_iload_n hx hb dL_law_1260 rfl (lv_at hl 3 rfl) ?_
  refine lv_iconst (v := (2 : Int32)) hx hb dL_law_1261 (by decide) ?_
  refine l_arg (cc := cL_law) (k := 2) X hS hL (by omega) rfl dL_law_1262 dL_law_1263 ?_
  refine g_goi (g_run X.1 (c_X6_ask l g e1) s_X6_ask (oB_6 rfl) q3_214 ⟨Nat.le_of_ble_eq_true rfl, Nat.le_of_ble_eq_true rfl⟩ hP hS rfl hl.1 rfl (Nat.le_of_ble_eq_true rfl) ⟨Nat.le_refl _, Nat.le_refl _⟩ dL_law_1264) hS (fun H locs hP hS => ?_)
  refine lv_aload_n hx hb dL_law_1267 rfl (lv_at hl 2 rfl) ?_
  refine lv_aload_n hx hb dL_law_1268 rfl (lv_at hl 0 rfl) ?_
  refine lv_iload_n hx hb dL_law_1269 rfl (lv_at hl 3 rfl) ?_
  refine lv_iconst (v := (1 : Int32)) hx hb dL_law_1270 (by decide) ?_
  refine l_arg (cc := cL_law) (k := 1) X hS hL (by omega) rfl dL_law_1271 dL_law_1272 ?_
  refine lv_aload_n hx hb dL_law_1273 rfl (lv_at hl 0 rfl) ?_
  refine lv_iload_n hx hb dL_law_1274 rfl (lv_at hl 3 rfl) ?_
  refine lv_iconst (v := (2 : Int32)) hx hb dL_law_1275 (by decide) ?_
  refine l_arg (cc := cL_law) (k := 2) X hS hL (by omega) rfl dL_law_1276 dL_law_1277 ?_
  refine g_goi (g_run X.1 (c_X7_ask l g e2) s_X7_ask (oB_7 rfl) q5_128 ⟨Nat.le_of_ble_eq_true rfl, Nat.le_of_ble_eq_true rfl⟩ hP hS rfl hl.1 rfl (Nat.le_of_ble_eq_true rfl) ⟨Nat.le_refl _, Nat.le_refl _⟩ dL_law_1278) hS (fun H locs hP hS => ?_)
  exact lv_icmp_eq (tgt := 1345) hx hb dL_law_1281 (by decide) (fun _ => kk M2 H locs hI2 hP hS) (fun h => absurd rfl h)
set_option maxRecDepth 20000 in
theorem lc_35 (X : Lx p s m meth c g b L xs) (hL : L < 2147483648) (hi : i + 6 ≤ L) (hI : Inv M) (hP : va_P g.1 vwCl (gW g M) H) (hS : va_S (gA g) s.heap H locs) (hl : lv_has ls 4 [(0, .ref b), (1, .ref (gz g + 0)), (2, .ref (gz g + 279)), (3, .int (nI i))])
    (kk : ∀ (M' : Mem) (H : Heap) (locs : List Loc), Inv M' → va_P g.1 vwCl (gW g M') H → va_S (gA g) s.heap H locs → W p l e room_1 s m #[Value.ref b] below meth c H locs 600000 7302249 Q (F0 m 1345 ls [])) : W p l e room_1 s m #[Value.ref b] below meth c H locs 600000 7302249 Q (F0 m 1286 ls []) := by
  have hx := X.1.1
  have hb := X.1.2.1
  obtain ⟨r, M1, M2, e1, e2, hI2⟩ := Sim_trace (xs (i + 1)) M hI
  refine lv_aload_n hx hb dL_law_1286 rfl (lv_at hl 1 rfl) ?_
  refine lv_aload_n hx hb dL_law_1287 rfl (lv_at hl 0 rfl) ?_
  refine lv_iload_n hx hb dL_law_1288 rfl (lv_at hl 3 rfl) ?_
  refine lv_iconst (v := (1 : Int32)) hx hb dL_law_1289 (by decide) ?_
  refine l_arg (cc := cL_law) (k := 1) X hS hL (by omega) rfl dL_law_1290 dL_law_1291 ?_
  refine g_goi (g_run X.1 (c_X6_trace l g e1) s_X6_trace (oB_6 rfl) q3_238 ⟨Nat.le_of_ble_eq_true rfl, Nat.le_of_ble_eq_true rfl⟩ hP hS rfl hl.1 rfl (Nat.le_of_ble_eq_true rfl) ⟨Nat.le_refl _, Nat.le_refl _⟩ dL_law_1292) hS (fun H locs hP hS => ?_)
  refine lv_aload_n hx hb dL_law_1295 rfl (lv_at hl 2 rfl) ?_
  refine lv_aload_n hx hb dL_law_1296 rfl (lv_at hl 0 rfl) ?_
  refine lv_iload_n hx hb dL_law_1297 rfl (lv_at hl 3 rfl) ?_
  refine lv_iconst (v := (1 : Int32)) hx hb dL_law_1298 (by decide) ?_
  refine l_arg (cc := cL_law) (k := 1) X hS hL (by omega) rfl dL_law_1299 dL_law_1300 ?_
  refine g_goi (g_run X.1 (c_X7_trace l g e2) s_X7_trace (oB_7 rfl) q5_168 ⟨Nat.le_of_ble_eq_true rfl, Nat.le_of_ble_eq_true rfl⟩ hP hS rfl hl.1 rfl (Nat.le_of_ble_eq_true rfl) ⟨Nat.le_refl _, Nat.le_refl _⟩ dL_law_1301) hS (fun H locs hP hS => ?_)
  exact lv_icmp_eq (tgt := 1345) hx hb dL_law_1304 (by decide) (fun _ => kk M2 H locs hI2 hP hS) (fun h => absurd rfl h)
set_option maxRecDepth 20000 in
theorem lc_36 (X : Lx p s m meth c g b L xs) (hL : L < 2147483648) (hi : i + 6 ≤ L) (hI : Inv M) (hP : va_P g.1 vwCl (gW g M) H) (hS : va_S (gA g) s.heap H locs) (hl : lv_has ls 4 [(0, .ref b), (1, .ref (gz g + 0)), (2, .ref (gz g + 279)), (3, .int (nI i))])
    (kk : ∀ (M' : Mem) (H : Heap) (locs : List Loc), Inv M' → va_P g.1 vwCl (gW g M') H → va_S (gA g) s.heap H locs → W p l e room_1 s m #[Value.ref b] below meth c H locs 600000 7302249 Q (F0 m 1345 ls [])) : W p l e room_1 s m #[Value.ref b] below meth c H locs 600000 7302249 Q (F0 m 1309 ls []) := by
  have hx := X.1.1
  have hb := X.1.2.1
  obtain ⟨r, M1, M2, e1, e2, hI2⟩ := Sim_count (xs (i + 1)) M hI
  refine lv_aload_n hx hb dL_law_1309 rfl (lv_at hl 1 rfl) ?_
  refine lv_aload_n hx hb dL_law_1310 rfl (lv_at hl 0 rfl) ?_
  refine lv_iload_n hx hb dL_law_1311 rfl (lv_at hl 3 rfl) ?_
  refine lv_iconst (v := (1 : Int32)) hx hb dL_law_1312 (by decide) ?_
  refine l_arg (cc := cL_law) (k := 1) X hS hL (by omega) rfl dL_law_1313 dL_law_1314 ?_
  refine g_goi (g_run X.1 (c_X6_count l g e1) s_X6_count (oB_6 rfl) q4_3 ⟨Nat.le_of_ble_eq_true rfl, Nat.le_of_ble_eq_true rfl⟩ hP hS rfl hl.1 rfl (Nat.le_of_ble_eq_true rfl) ⟨Nat.le_refl _, Nat.le_refl _⟩ dL_law_1315) hS (fun H locs hP hS => ?_)
  refine lv_aload_n hx hb dL_law_1318 rfl (lv_at hl 2 rfl) ?_
  refine lv_aload_n hx hb dL_law_1319 rfl (lv_at hl 0 rfl) ?_
  refine lv_iload_n hx hb dL_law_1320 rfl (lv_at hl 3 rfl) ?_
  refine lv_iconst (v := (1 : Int32)) hx hb dL_law_1321 (by decide) ?_
  refine l_arg (cc := cL_law) (k := 1) X hS hL (by omega) rfl dL_law_1322 dL_law_1323 ?_
  refine g_goi (g_run X.1 (c_X7_count l g e2) s_X7_count (oB_7 rfl) q5_172 ⟨Nat.le_of_ble_eq_true rfl, Nat.le_of_ble_eq_true rfl⟩ hP hS rfl hl.1 rfl (Nat.le_of_ble_eq_true rfl) ⟨Nat.le_refl _, Nat.le_refl _⟩ dL_law_1324) hS (fun H locs hP hS => ?_)
  exact lv_icmp_eq (tgt := 1345) hx hb dL_law_1327 (by decide) (fun _ => kk M2 H locs hI2 hP hS) (fun h => absurd rfl h)
set_option maxRecDepth 20000 in
theorem lc_37 (X : Lx p s m meth c g b L xs) (hL : L < 2147483648) (hi : i + 6 ≤ L) (hI : Inv M) (hP : va_P g.1 vwCl (gW g M) H) (hS : va_S (gA g) s.heap H locs) (hl : lv_has ls 4 [(0, .ref b), (1, .ref (gz g + 0)), (2, .ref (gz g + 279)), (3, .int (nI i))])
    (kk : ∀ (M' : Mem) (H : Heap) (locs : List Loc), Inv M' → va_P g.1 vwCl (gW g M') H → va_S (gA g) s.heap H locs → W p l e room_1 s m #[Value.ref b] below meth c H locs 600000 7302249 Q (F0 m 1345 ls [])) : W p l e room_1 s m #[Value.ref b] below meth c H locs 600000 7302249 Q (F0 m 1332 ls []) := by
  have hx := X.1.1
  have hb := X.1.2.1
  obtain ⟨r, M1, M2, e1, e2, hI2⟩ := Sim_status M hI
  refine lv_aload_n hx hb dL_law_1332 rfl (lv_at hl 1 rfl) ?_
  refine g_goi (g_run X.1 (c_X6_status l g e1) s_X6_status (oB_6 rfl) q4_15 ⟨Nat.le_of_ble_eq_true rfl, Nat.le_of_ble_eq_true rfl⟩ hP hS rfl hl.1 rfl (Nat.le_of_ble_eq_true rfl) ⟨Nat.le_refl _, Nat.le_refl _⟩ dL_law_1333) hS (fun H locs hP hS => ?_)
  refine lv_aload_n hx hb dL_law_1336 rfl (lv_at hl 2 rfl) ?_
  refine g_goi (g_run X.1 (c_X7_status l g e2) s_X7_status (oB_7 rfl) q5_184 ⟨Nat.le_of_ble_eq_true rfl, Nat.le_of_ble_eq_true rfl⟩ hP hS rfl hl.1 rfl (Nat.le_of_ble_eq_true rfl) ⟨Nat.le_refl _, Nat.le_refl _⟩ dL_law_1337) hS (fun H locs hP hS => ?_)
  exact lv_icmp_eq (tgt := 1345) hx hb dL_law_1340 (by decide) (fun _ => kk M2 H locs hI2 hP hS) (fun h => absurd rfl h)
end LAW
