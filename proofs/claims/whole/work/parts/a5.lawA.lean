section LAWC
variable {sh : List xSh} {I : Nat → Nat → Int32} {R : Nat → Nat → Option Nat} {σ : St} {L i mc ms : Nat} {xs : Nat → Int32}
theorem lc_0 (hi : i + 5 ≤ L) (hL : L ≤ 2560) (h : clR sh I R σ) (hm : mdR I σ) (hl : sh.length + 4 ≤ 1000000) (nx : lwN L xs i sh mc ms) : Ex (mL_law L xs) 208 (lwL i) [] (sh, I, R) (4 + mc) (100 + ms) (xqI lwQ) := by
  refine Ex.up (mc := mc) (ms := ms) ?_ (by omega) (by omega)
  refine xw_aload_n dL_law_208 rfl rfl ?_
  refine xw_aload_n dL_law_209 rfl rfl ?_
  refine xw_iload_n dL_law_210 rfl rfl ?_
  refine xw_iconst (v := nI 1) dL_law_211 rfl ?_
  refine xw_iadd dL_law_212 ?_
  refine xw_sld (L := L) (xs := xs) rfl dL_law_213 (lw_in (k := 1) (by omega) (by omega)) ?_
  refine yw_cV (As := [.int (xs (nI i + nI 1).toNatClampNeg)]) (b := 0) (st := []) dL_law_214 lL_13 kiX9_feed kvX9_feed rfl rfl rfl (la_0 h.lay) rfl (Nat.le_of_ble_eq_true rfl) rfl (xk_I (k_feed h (fun I1 R1 h1 f1 => ?_)))
  refine xw_aload_n dL_law_217 rfl rfl ?_
  refine xw_aload_n dL_law_218 rfl rfl ?_
  refine xw_iload_n dL_law_219 rfl rfl ?_
  refine xw_iconst (v := nI 1) dL_law_220 rfl ?_
  refine xw_iadd dL_law_221 ?_
  refine xw_sld (L := L) (xs := xs) rfl dL_law_222 (lw_in (k := 1) (by omega) (by omega)) ?_
  refine yw_cV (As := [.int (xs (nI i + nI 1).toNatClampNeg)]) (b := 209) (st := [.int (feedA σ (xs (nI i + nI 1).toNatClampNeg)).1]) dL_law_223 lL_17 kiX10_feed kvX10_feed rfl rfl rfl (la_209 h1.lay) rfl (Nat.le_of_ble_eq_true rfl) rfl (xk_I (w_feed h1.lay (hm.cf f1) (fun I2 m2 f2 => ?_)))
  exact xw_iceq (tgt := 1269) dL_law_226 (by decide) (fun _ => nx sh I2 R1 _ (h1.mf f2) m2 (by omega)) (fun z => absurd rfl z)
theorem lc_1 (hi : i + 5 ≤ L) (hL : L ≤ 2560) (h : clR sh I R σ) (hm : mdR I σ) (hl : sh.length + 4 ≤ 1000000) (nx : lwN L xs i sh mc ms) : Ex (mL_law L xs) 231 (lwL i) [] (sh, I, R) (4 + mc) (100 + ms) (xqI lwQ) := by
  refine Ex.up (mc := mc) (ms := ms) ?_ (by omega) (by omega)
  refine xw_aload_n dL_law_231 rfl rfl ?_
  refine xw_aload_n dL_law_232 rfl rfl ?_
  refine xw_iload_n dL_law_233 rfl rfl ?_
  refine xw_iconst (v := nI 1) dL_law_234 rfl ?_
  refine xw_iadd dL_law_235 ?_
  refine xw_sld (L := L) (xs := xs) rfl dL_law_236 (lw_in (k := 1) (by omega) (by omega)) ?_
  refine yw_cV (As := [.int (xs (nI i + nI 1).toNatClampNeg)]) (b := 0) (st := []) dL_law_237 lL_18 kiX9_end kvX9_end rfl rfl rfl (la_0 h.lay) rfl (Nat.le_of_ble_eq_true rfl) rfl (xk_I (k_end h (fun I1 R1 h1 f1 => ?_)))
  refine xw_aload_n dL_law_240 rfl rfl ?_
  refine xw_aload_n dL_law_241 rfl rfl ?_
  refine xw_iload_n dL_law_242 rfl rfl ?_
  refine xw_iconst (v := nI 1) dL_law_243 rfl ?_
  refine xw_iadd dL_law_244 ?_
  refine xw_sld (L := L) (xs := xs) rfl dL_law_245 (lw_in (k := 1) (by omega) (by omega)) ?_
  refine yw_cV (As := [.int (xs (nI i + nI 1).toNatClampNeg)]) (b := 209) (st := [.int (endA σ (xs (nI i + nI 1).toNatClampNeg)).1]) dL_law_246 lL_21 kiX10_end kvX10_end rfl rfl rfl (la_209 h1.lay) rfl (Nat.le_of_ble_eq_true rfl) rfl (xk_I (w_end h1.lay (hm.cf f1) (fun I2 m2 f2 => ?_)))
  exact xw_iceq (tgt := 1269) dL_law_249 (by decide) (fun _ => nx sh I2 R1 _ (h1.mf f2) m2 (by omega)) (fun z => absurd rfl z)
theorem lc_2 (hi : i + 5 ≤ L) (hL : L ≤ 2560) (h : clR sh I R σ) (hm : mdR I σ) (hl : sh.length + 4 ≤ 1000000) (nx : lwN L xs i sh mc ms) : Ex (mL_law L xs) 254 (lwL i) [] (sh, I, R) (4 + mc) (100 + ms) (xqI lwQ) := by
  refine Ex.up (mc := mc) (ms := ms) ?_ (by omega) (by omega)
  refine xw_aload_n dL_law_254 rfl rfl ?_
  refine yw_cV (As := []) (b := 0) (st := []) dL_law_255 lL_22 kiX9_text kvX9_text rfl rfl rfl (la_0 h.lay) rfl (Nat.le_of_ble_eq_true rfl) rfl (xk_I (k_text h (fun I1 R1 h1 f1 => ?_)))
  refine xw_aload_n dL_law_258 rfl rfl ?_
  refine yw_cV (As := []) (b := 209) (st := [.int (textA σ).1]) dL_law_259 lL_26 kiX10_text kvX10_text rfl rfl rfl (la_209 h1.lay) rfl (Nat.le_of_ble_eq_true rfl) rfl (xk_I (w_text h1.lay (hm.cf f1) (fun I2 m2 f2 => ?_)))
  exact xw_iceq (tgt := 1269) dL_law_262 (by decide) (fun _ => nx sh I2 R1 _ (h1.mf f2) m2 (by omega)) (fun z => absurd rfl z)
theorem lc_3 (hi : i + 5 ≤ L) (hL : L ≤ 2560) (h : clR sh I R σ) (hm : mdR I σ) (hl : sh.length + 4 ≤ 1000000) (nx : lwN L xs i sh mc ms) : Ex (mL_law L xs) 267 (lwL i) [] (sh, I, R) (4 + mc) (100 + ms) (xqI lwQ) := by
  refine Ex.up (mc := mc) (ms := ms) ?_ (by omega) (by omega)
  refine xw_aload_n dL_law_267 rfl rfl ?_
  refine yw_cV (As := []) (b := 0) (st := []) dL_law_268 lL_27 kiX9_fault kvX9_fault rfl rfl rfl (la_0 h.lay) rfl (Nat.le_of_ble_eq_true rfl) rfl (xk_I (k_fault h ?_))
  refine xw_aload_n dL_law_271 rfl rfl ?_
  refine yw_cV (As := []) (b := 209) (st := [.int (σ.fault)]) dL_law_272 lL_30 kiX10_fault kvX10_fault rfl rfl rfl (la_209 h.lay) rfl (Nat.le_of_ble_eq_true rfl) rfl (xk_I (w_fault h.lay hm ?_))
  exact xw_iceq (tgt := 1269) dL_law_275 (by decide) (fun _ => nx sh I R σ h hm (by omega)) (fun z => absurd rfl z)
theorem lc_4 (hi : i + 5 ≤ L) (hL : L ≤ 2560) (h : clR sh I R σ) (hm : mdR I σ) (hl : sh.length + 4 ≤ 1000000) (nx : lwN L xs i sh mc ms) : Ex (mL_law L xs) 280 (lwL i) [] (sh, I, R) (4 + mc) (100 + ms) (xqI lwQ) := by
  refine Ex.up (mc := mc) (ms := ms) ?_ (by omega) (by omega)
  have hz : NeZero σ.p := h.ok.nz
  refine xw_aload_n dL_law_280 rfl rfl ?_
  refine xw_aload_n dL_law_281 rfl rfl ?_
  refine xw_iload_n dL_law_282 rfl rfl ?_
  refine xw_iconst (v := nI 1) dL_law_283 rfl ?_
  refine xw_iadd dL_law_284 ?_
  refine xw_sld (L := L) (xs := xs) rfl dL_law_285 (lw_in (k := 1) (by omega) (by omega)) ?_
  refine yw_cV (As := [.int (xs (nI i + nI 1).toNatClampNeg)]) (b := 0) (st := []) dL_law_286 lL_31 kiX9_rule kvX9_rule rfl rfl rfl (la_0 h.lay) rfl (Nat.le_of_ble_eq_true rfl) rfl (xk_I (k_rule h (fun I1 R1 h1 f1 => ?_)))
  refine xw_aload_n dL_law_289 rfl rfl ?_
  refine xw_aload_n dL_law_290 rfl rfl ?_
  refine xw_iload_n dL_law_291 rfl rfl ?_
  refine xw_iconst (v := nI 1) dL_law_292 rfl ?_
  refine xw_iadd dL_law_293 ?_
  refine xw_sld (L := L) (xs := xs) rfl dL_law_294 (lw_in (k := 1) (by omega) (by omega)) ?_
  refine yw_cV (As := [.int (xs (nI i + nI 1).toNatClampNeg)]) (b := 209) (st := [.int (ruleA σ (xs (nI i + nI 1).toNatClampNeg))]) dL_law_295 lL_34 kiX10_rule kvX10_rule rfl rfl rfl (la_209 h1.lay) rfl (Nat.le_of_ble_eq_true rfl) rfl (xk_I (w_rule h1.lay (hm.cf f1) (fun I2 m2 f2 => ?_)))
  exact xw_iceq (tgt := 1269) dL_law_298 (by decide) (fun _ => nx sh I2 R1 _ (h1.mf f2) m2 (by omega)) (fun z => absurd rfl z)
theorem lc_5 (hi : i + 5 ≤ L) (hL : L ≤ 2560) (h : clR sh I R σ) (hm : mdR I σ) (hl : sh.length + 4 ≤ 1000000) (nx : lwN L xs i sh mc ms) : Ex (mL_law L xs) 303 (lwL i) [] (sh, I, R) (4 + mc) (100 + ms) (xqI lwQ) := by
  refine Ex.up (mc := mc) (ms := ms) ?_ (by omega) (by omega)
  have hz : NeZero σ.p := h.ok.nz
  refine xw_aload_n dL_law_303 rfl rfl ?_
  refine xw_aload_n dL_law_304 rfl rfl ?_
  refine xw_iload_n dL_law_305 rfl rfl ?_
  refine xw_iconst (v := nI 1) dL_law_306 rfl ?_
  refine xw_iadd dL_law_307 ?_
  refine xw_sld (L := L) (xs := xs) rfl dL_law_308 (lw_in (k := 1) (by omega) (by omega)) ?_
  refine xw_aload_n dL_law_309 rfl rfl ?_
  refine xw_iload_n dL_law_310 rfl rfl ?_
  refine xw_iconst (v := nI 2) dL_law_311 rfl ?_
  refine xw_iadd dL_law_312 ?_
  refine xw_sld (L := L) (xs := xs) rfl dL_law_313 (lw_in (k := 2) (by omega) (by omega)) ?_
  refine yw_cV (As := [.int (xs (nI i + nI 1).toNatClampNeg), .int (xs (nI i + nI 2).toNatClampNeg)]) (b := 0) (st := []) dL_law_314 lL_35 kiX9_start kvX9_start rfl rfl rfl (la_0 h.lay) rfl (Nat.le_of_ble_eq_true rfl) rfl (xk_I (k_start h (fun I1 R1 h1 f1 => ?_)))
  refine xw_aload_n dL_law_317 rfl rfl ?_
  refine xw_aload_n dL_law_318 rfl rfl ?_
  refine xw_iload_n dL_law_319 rfl rfl ?_
  refine xw_iconst (v := nI 1) dL_law_320 rfl ?_
  refine xw_iadd dL_law_321 ?_
  refine xw_sld (L := L) (xs := xs) rfl dL_law_322 (lw_in (k := 1) (by omega) (by omega)) ?_
  refine xw_aload_n dL_law_323 rfl rfl ?_
  refine xw_iload_n dL_law_324 rfl rfl ?_
  refine xw_iconst (v := nI 2) dL_law_325 rfl ?_
  refine xw_iadd dL_law_326 ?_
  refine xw_sld (L := L) (xs := xs) rfl dL_law_327 (lw_in (k := 2) (by omega) (by omega)) ?_
  refine yw_cV (As := [.int (xs (nI i + nI 1).toNatClampNeg), .int (xs (nI i + nI 2).toNatClampNeg)]) (b := 209) (st := [.int (startA σ (xs (nI i + nI 1).toNatClampNeg) (xs (nI i + nI 2).toNatClampNeg))]) dL_law_328 lL_39 kiX10_start kvX10_start rfl rfl rfl (la_209 h1.lay) rfl (Nat.le_of_ble_eq_true rfl) rfl (xk_I (w_start h1.lay (hm.cf f1) (fun I2 m2 f2 => ?_)))
  exact xw_iceq (tgt := 1269) dL_law_331 (by decide) (fun _ => nx sh I2 R1 _ (h1.mf f2) m2 (by omega)) (fun z => absurd rfl z)
theorem lc_6 (hi : i + 5 ≤ L) (hL : L ≤ 2560) (h : clR sh I R σ) (hm : mdR I σ) (hl : sh.length + 4 ≤ 1000000) (nx : lwN L xs i sh mc ms) : Ex (mL_law L xs) 336 (lwL i) [] (sh, I, R) (4 + mc) (100 + ms) (xqI lwQ) := by
  refine Ex.up (mc := mc) (ms := ms) ?_ (by omega) (by omega)
  have hz : NeZero σ.p := h.ok.nz
  refine xw_aload_n dL_law_336 rfl rfl ?_
  refine xw_aload_n dL_law_337 rfl rfl ?_
  refine xw_iload_n dL_law_338 rfl rfl ?_
  refine xw_iconst (v := nI 1) dL_law_339 rfl ?_
  refine xw_iadd dL_law_340 ?_
  refine xw_sld (L := L) (xs := xs) rfl dL_law_341 (lw_in (k := 1) (by omega) (by omega)) ?_
  refine xw_aload_n dL_law_342 rfl rfl ?_
  refine xw_iload_n dL_law_343 rfl rfl ?_
  refine xw_iconst (v := nI 2) dL_law_344 rfl ?_
  refine xw_iadd dL_law_345 ?_
  refine xw_sld (L := L) (xs := xs) rfl dL_law_346 (lw_in (k := 2) (by omega) (by omega)) ?_
  refine yw_cV (As := [.int (xs (nI i + nI 1).toNatClampNeg), .int (xs (nI i + nI 2).toNatClampNeg)]) (b := 0) (st := []) dL_law_347 lL_40 kiX9_finish kvX9_finish rfl rfl rfl (la_0 h.lay) rfl (Nat.le_of_ble_eq_true rfl) rfl (xk_I (k_finish h (fun I1 R1 h1 f1 => ?_)))
  refine xw_aload_n dL_law_350 rfl rfl ?_
  refine xw_aload_n dL_law_351 rfl rfl ?_
  refine xw_iload_n dL_law_352 rfl rfl ?_
  refine xw_iconst (v := nI 1) dL_law_353 rfl ?_
  refine xw_iadd dL_law_354 ?_
  refine xw_sld (L := L) (xs := xs) rfl dL_law_355 (lw_in (k := 1) (by omega) (by omega)) ?_
  refine xw_aload_n dL_law_356 rfl rfl ?_
  refine xw_iload_n dL_law_357 rfl rfl ?_
  refine xw_iconst (v := nI 2) dL_law_358 rfl ?_
  refine xw_iadd dL_law_359 ?_
  refine xw_sld (L := L) (xs := xs) rfl dL_law_360 (lw_in (k := 2) (by omega) (by omega)) ?_
  refine yw_cV (As := [.int (xs (nI i + nI 1).toNatClampNeg), .int (xs (nI i + nI 2).toNatClampNeg)]) (b := 209) (st := [.int (finishA σ (xs (nI i + nI 1).toNatClampNeg) (xs (nI i + nI 2).toNatClampNeg))]) dL_law_361 lL_43 kiX10_finish kvX10_finish rfl rfl rfl (la_209 h1.lay) rfl (Nat.le_of_ble_eq_true rfl) rfl (xk_I (w_finish h1.lay (hm.cf f1) (fun I2 m2 f2 => ?_)))
  exact xw_iceq (tgt := 1269) dL_law_364 (by decide) (fun _ => nx sh I2 R1 _ (h1.mf f2) m2 (by omega)) (fun z => absurd rfl z)
theorem lc_7 (hi : i + 5 ≤ L) (hL : L ≤ 2560) (h : clR sh I R σ) (hm : mdR I σ) (hl : sh.length + 4 ≤ 1000000) (nx : lwN L xs i sh mc ms) : Ex (mL_law L xs) 369 (lwL i) [] (sh, I, R) (4 + mc) (100 + ms) (xqI lwQ) := by
  refine Ex.up (mc := mc) (ms := ms) ?_ (by omega) (by omega)
  have hz : NeZero σ.p := h.ok.nz
  refine xw_aload_n dL_law_369 rfl rfl ?_
  refine xw_aload_n dL_law_370 rfl rfl ?_
  refine xw_iload_n dL_law_371 rfl rfl ?_
  refine xw_iconst (v := nI 1) dL_law_372 rfl ?_
  refine xw_iadd dL_law_373 ?_
  refine xw_sld (L := L) (xs := xs) rfl dL_law_374 (lw_in (k := 1) (by omega) (by omega)) ?_
  refine xw_aload_n dL_law_375 rfl rfl ?_
  refine xw_iload_n dL_law_376 rfl rfl ?_
  refine xw_iconst (v := nI 2) dL_law_377 rfl ?_
  refine xw_iadd dL_law_378 ?_
  refine xw_sld (L := L) (xs := xs) rfl dL_law_379 (lw_in (k := 2) (by omega) (by omega)) ?_
  refine xw_aload_n dL_law_380 rfl rfl ?_
  refine xw_iload_n dL_law_381 rfl rfl ?_
  refine xw_iconst (v := nI 3) dL_law_382 rfl ?_
  refine xw_iadd dL_law_383 ?_
  refine xw_sld (L := L) (xs := xs) rfl dL_law_384 (lw_in (k := 3) (by omega) (by omega)) ?_
  refine xw_aload_n dL_law_385 rfl rfl ?_
  refine xw_iload_n dL_law_386 rfl rfl ?_
  refine xw_iconst (v := nI 4) dL_law_387 rfl ?_
  refine xw_iadd dL_law_388 ?_
  refine xw_sld (L := L) (xs := xs) rfl dL_law_389 (lw_in (k := 4) (by omega) (by omega)) ?_
  refine yw_cV (As := [.int (xs (nI i + nI 1).toNatClampNeg), .int (xs (nI i + nI 2).toNatClampNeg), .int (xs (nI i + nI 3).toNatClampNeg), .int (xs (nI i + nI 4).toNatClampNeg)]) (b := 0) (st := []) dL_law_390 lL_44 kiX9_edge kvX9_edge rfl rfl rfl (la_0 h.lay) rfl (Nat.le_of_ble_eq_true rfl) rfl (xk_I (k_edge h (fun I1 R1 h1 f1 => ?_)))
  refine xw_aload_n dL_law_393 rfl rfl ?_
  refine xw_aload_n dL_law_394 rfl rfl ?_
  refine xw_iload_n dL_law_395 rfl rfl ?_
  refine xw_iconst (v := nI 1) dL_law_396 rfl ?_
  refine xw_iadd dL_law_397 ?_
  refine xw_sld (L := L) (xs := xs) rfl dL_law_398 (lw_in (k := 1) (by omega) (by omega)) ?_
  refine xw_aload_n dL_law_399 rfl rfl ?_
  refine xw_iload_n dL_law_400 rfl rfl ?_
  refine xw_iconst (v := nI 2) dL_law_401 rfl ?_
  refine xw_iadd dL_law_402 ?_
  refine xw_sld (L := L) (xs := xs) rfl dL_law_403 (lw_in (k := 2) (by omega) (by omega)) ?_
  refine xw_aload_n dL_law_404 rfl rfl ?_
  refine xw_iload_n dL_law_405 rfl rfl ?_
  refine xw_iconst (v := nI 3) dL_law_406 rfl ?_
  refine xw_iadd dL_law_407 ?_
  refine xw_sld (L := L) (xs := xs) rfl dL_law_408 (lw_in (k := 3) (by omega) (by omega)) ?_
  refine xw_aload_n dL_law_409 rfl rfl ?_
  refine xw_iload_n dL_law_410 rfl rfl ?_
  refine xw_iconst (v := nI 4) dL_law_411 rfl ?_
  refine xw_iadd dL_law_412 ?_
  refine xw_sld (L := L) (xs := xs) rfl dL_law_413 (lw_in (k := 4) (by omega) (by omega)) ?_
  refine yw_cV (As := [.int (xs (nI i + nI 1).toNatClampNeg), .int (xs (nI i + nI 2).toNatClampNeg), .int (xs (nI i + nI 3).toNatClampNeg), .int (xs (nI i + nI 4).toNatClampNeg)]) (b := 209) (st := [.int (edgeA σ (xs (nI i + nI 1).toNatClampNeg) (xs (nI i + nI 2).toNatClampNeg) (xs (nI i + nI 3).toNatClampNeg) (xs (nI i + nI 4).toNatClampNeg))]) dL_law_414 lL_48 kiX10_edge kvX10_edge rfl rfl rfl (la_209 h1.lay) rfl (Nat.le_of_ble_eq_true rfl) rfl (xk_I (w_edge h1.lay (hm.cf f1) (fun I2 m2 f2 => ?_)))
  exact xw_iceq (tgt := 1269) dL_law_417 (by decide) (fun _ => nx sh I2 R1 _ (h1.mf f2) m2 (by omega)) (fun z => absurd rfl z)
theorem lc_8 (hi : i + 5 ≤ L) (hL : L ≤ 2560) (h : clR sh I R σ) (hm : mdR I σ) (hl : sh.length + 4 ≤ 1000000) (nx : lwN L xs i sh mc ms) : Ex (mL_law L xs) 422 (lwL i) [] (sh, I, R) (4 + mc) (100 + ms) (xqI lwQ) := by
  refine Ex.up (mc := mc) (ms := ms) ?_ (by omega) (by omega)
  refine xw_aload_n dL_law_422 rfl rfl ?_
  refine xw_aload_n dL_law_423 rfl rfl ?_
  refine xw_iload_n dL_law_424 rfl rfl ?_
  refine xw_iconst (v := nI 1) dL_law_425 rfl ?_
  refine xw_iadd dL_law_426 ?_
  refine xw_sld (L := L) (xs := xs) rfl dL_law_427 (lw_in (k := 1) (by omega) (by omega)) ?_
  refine yw_cV (As := [.int (xs (nI i + nI 1).toNatClampNeg)]) (b := 0) (st := []) dL_law_428 lL_49 kiX9_letter kvX9_letter rfl rfl rfl (la_0 h.lay) rfl (Nat.le_of_ble_eq_true rfl) rfl (xk_I (k_letter h (fun I1 R1 h1 f1 => ?_)))
  refine xw_aload_n dL_law_431 rfl rfl ?_
  refine xw_aload_n dL_law_432 rfl rfl ?_
  refine xw_iload_n dL_law_433 rfl rfl ?_
  refine xw_iconst (v := nI 1) dL_law_434 rfl ?_
  refine xw_iadd dL_law_435 ?_
  refine xw_sld (L := L) (xs := xs) rfl dL_law_436 (lw_in (k := 1) (by omega) (by omega)) ?_
  refine yw_cV (As := [.int (xs (nI i + nI 1).toNatClampNeg)]) (b := 209) (st := [.int (letterA σ (xs (nI i + nI 1).toNatClampNeg)).1]) dL_law_437 lL_52 kiX10_letter kvX10_letter rfl rfl rfl (la_209 h1.lay) rfl (Nat.le_of_ble_eq_true rfl) rfl (xk_I (w_letter h1.lay (hm.cf f1) (fun I2 m2 f2 => ?_)))
  exact xw_iceq (tgt := 1269) dL_law_440 (by decide) (fun _ => nx sh I2 R1 _ (h1.mf f2) m2 (by omega)) (fun z => absurd rfl z)
theorem lc_9 (hi : i + 5 ≤ L) (hL : L ≤ 2560) (h : clR sh I R σ) (hm : mdR I σ) (hl : sh.length + 4 ≤ 1000000) (nx : lwN L xs i sh mc ms) : Ex (mL_law L xs) 445 (lwL i) [] (sh, I, R) (4 + mc) (100 + ms) (xqI lwQ) := by
  refine Ex.up (mc := mc) (ms := ms) ?_ (by omega) (by omega)
  refine xw_aload_n dL_law_445 rfl rfl ?_
  refine yw_cV (As := []) (b := 0) (st := []) dL_law_446 lL_53 kiX9_wipe kvX9_wipe rfl rfl rfl (la_0 h.lay) rfl (Nat.le_of_ble_eq_true rfl) rfl (xk_I (k_wipe h (fun I1 R1 h1 f1 => ?_)))
  refine xw_aload_n dL_law_449 rfl rfl ?_
  refine yw_cV (As := []) (b := 209) (st := [.int (wipeA σ).1]) dL_law_450 lL_56 kiX10_wipe kvX10_wipe rfl rfl rfl (la_209 h1.lay) rfl (Nat.le_of_ble_eq_true rfl) rfl (xk_I (w_wipe h1.lay (hm.cf f1) (fun I2 m2 f2 => ?_)))
  exact xw_iceq (tgt := 1269) dL_law_453 (by decide) (fun _ => nx sh I2 R1 _ (h1.mf f2) m2 (by omega)) (fun z => absurd rfl z)
theorem lc_10 (hi : i + 5 ≤ L) (hL : L ≤ 2560) (h : clR sh I R σ) (hm : mdR I σ) (hl : sh.length + 4 ≤ 1000000) (nx : lwN L xs i sh mc ms) : Ex (mL_law L xs) 458 (lwL i) [] (sh, I, R) (4 + mc) (100 + ms) (xqI lwQ) := by
  refine Ex.up (mc := mc) (ms := ms) ?_ (by omega) (by omega)
  have hz : NeZero σ.p := h.ok.nz
  refine xw_aload_n dL_law_458 rfl rfl ?_
  refine xw_aload_n dL_law_459 rfl rfl ?_
  refine xw_iload_n dL_law_460 rfl rfl ?_
  refine xw_iconst (v := nI 1) dL_law_461 rfl ?_
  refine xw_iadd dL_law_462 ?_
  refine xw_sld (L := L) (xs := xs) rfl dL_law_463 (lw_in (k := 1) (by omega) (by omega)) ?_
  refine yw_cV (As := [.int (xs (nI i + nI 1).toNatClampNeg)]) (b := 0) (st := []) dL_law_464 lL_57 kiX9_value kvX9_value rfl rfl rfl (la_0 h.lay) rfl (Nat.le_of_ble_eq_true rfl) rfl (xk_I (k_value h (fun I1 R1 h1 f1 => ?_)))
  refine xw_aload_n dL_law_467 rfl rfl ?_
  refine xw_aload_n dL_law_468 rfl rfl ?_
  refine xw_iload_n dL_law_469 rfl rfl ?_
  refine xw_iconst (v := nI 1) dL_law_470 rfl ?_
  refine xw_iadd dL_law_471 ?_
  refine xw_sld (L := L) (xs := xs) rfl dL_law_472 (lw_in (k := 1) (by omega) (by omega)) ?_
  refine yw_cV (As := [.int (xs (nI i + nI 1).toNatClampNeg)]) (b := 209) (st := [.int (valueA σ (xs (nI i + nI 1).toNatClampNeg))]) dL_law_473 lL_60 kiX10_value kvX10_value rfl rfl rfl (la_209 h1.lay) rfl (Nat.le_of_ble_eq_true rfl) rfl (xk_I (w_value h1.lay (hm.cf f1) (fun I2 m2 f2 => ?_)))
  exact xw_iceq (tgt := 1269) dL_law_476 (by decide) (fun _ => nx sh I2 R1 _ (h1.mf f2) m2 (by omega)) (fun z => absurd rfl z)
theorem lc_11 (hi : i + 5 ≤ L) (hL : L ≤ 2560) (h : clR sh I R σ) (hm : mdR I σ) (hl : sh.length + 4 ≤ 1000000) (nx : lwN L xs i sh mc ms) : Ex (mL_law L xs) 481 (lwL i) [] (sh, I, R) (4 + mc) (100 + ms) (xqI lwQ) := by
  refine Ex.up (mc := mc) (ms := ms) ?_ (by omega) (by omega)
  have hz : NeZero σ.p := h.ok.nz
  refine xw_aload_n dL_law_481 rfl rfl ?_
  refine xw_aload_n dL_law_482 rfl rfl ?_
  refine xw_iload_n dL_law_483 rfl rfl ?_
  refine xw_iconst (v := nI 1) dL_law_484 rfl ?_
  refine xw_iadd dL_law_485 ?_
  refine xw_sld (L := L) (xs := xs) rfl dL_law_486 (lw_in (k := 1) (by omega) (by omega)) ?_
  refine xw_aload_n dL_law_487 rfl rfl ?_
  refine xw_iload_n dL_law_488 rfl rfl ?_
  refine xw_iconst (v := nI 2) dL_law_489 rfl ?_
  refine xw_iadd dL_law_490 ?_
  refine xw_sld (L := L) (xs := xs) rfl dL_law_491 (lw_in (k := 2) (by omega) (by omega)) ?_
  refine yw_cV (As := [.int (xs (nI i + nI 1).toNatClampNeg), .int (xs (nI i + nI 2).toNatClampNeg)]) (b := 0) (st := []) dL_law_492 lL_61 kiX9_space kvX9_space rfl rfl rfl (la_0 h.lay) rfl (Nat.le_of_ble_eq_true rfl) rfl (xk_I (k_space h (fun I1 R1 h1 f1 => ?_)))
  refine xw_aload_n dL_law_495 rfl rfl ?_
  refine xw_aload_n dL_law_496 rfl rfl ?_
  refine xw_iload_n dL_law_497 rfl rfl ?_
  refine xw_iconst (v := nI 1) dL_law_498 rfl ?_
  refine xw_iadd dL_law_499 ?_
  refine xw_sld (L := L) (xs := xs) rfl dL_law_500 (lw_in (k := 1) (by omega) (by omega)) ?_
  refine xw_aload_n dL_law_501 rfl rfl ?_
  refine xw_iload_n dL_law_502 rfl rfl ?_
  refine xw_iconst (v := nI 2) dL_law_503 rfl ?_
  refine xw_iadd dL_law_504 ?_
  refine xw_sld (L := L) (xs := xs) rfl dL_law_505 (lw_in (k := 2) (by omega) (by omega)) ?_
  refine yw_cV (As := [.int (xs (nI i + nI 1).toNatClampNeg), .int (xs (nI i + nI 2).toNatClampNeg)]) (b := 209) (st := [.int (spaceA σ (xs (nI i + nI 1).toNatClampNeg) (xs (nI i + nI 2).toNatClampNeg))]) dL_law_506 lL_64 kiX10_space kvX10_space rfl rfl rfl (la_209 h1.lay) rfl (Nat.le_of_ble_eq_true rfl) rfl (xk_I (w_space h1.lay (hm.cf f1) (fun I2 m2 f2 => ?_)))
  exact xw_iceq (tgt := 1269) dL_law_509 (by decide) (fun _ => nx sh I2 R1 _ (h1.mf f2) m2 (by omega)) (fun z => absurd rfl z)
theorem lc_12 (hi : i + 5 ≤ L) (hL : L ≤ 2560) (h : clR sh I R σ) (hm : mdR I σ) (hl : sh.length + 4 ≤ 1000000) (nx : lwN L xs i sh mc ms) : Ex (mL_law L xs) 514 (lwL i) [] (sh, I, R) (4 + mc) (100 + ms) (xqI lwQ) := by
  refine Ex.up (mc := mc) (ms := ms) ?_ (by omega) (by omega)
  have hz : NeZero σ.p := h.ok.nz
  refine xw_aload_n dL_law_514 rfl rfl ?_
  refine xw_aload_n dL_law_515 rfl rfl ?_
  refine xw_iload_n dL_law_516 rfl rfl ?_
  refine xw_iconst (v := nI 1) dL_law_517 rfl ?_
  refine xw_iadd dL_law_518 ?_
  refine xw_sld (L := L) (xs := xs) rfl dL_law_519 (lw_in (k := 1) (by omega) (by omega)) ?_
  refine xw_aload_n dL_law_520 rfl rfl ?_
  refine xw_iload_n dL_law_521 rfl rfl ?_
  refine xw_iconst (v := nI 2) dL_law_522 rfl ?_
  refine xw_iadd dL_law_523 ?_
  refine xw_sld (L := L) (xs := xs) rfl dL_law_524 (lw_in (k := 2) (by omega) (by omega)) ?_
  refine yw_cV (As := [.int (xs (nI i + nI 1).toNatClampNeg), .int (xs (nI i + nI 2).toNatClampNeg)]) (b := 0) (st := []) dL_law_525 lL_65 kiX9_share kvX9_share rfl rfl rfl (la_0 h.lay) rfl (Nat.le_of_ble_eq_true rfl) rfl (xk_I (k_share h (fun I1 R1 h1 f1 => ?_)))
  refine xw_aload_n dL_law_528 rfl rfl ?_
  refine xw_aload_n dL_law_529 rfl rfl ?_
  refine xw_iload_n dL_law_530 rfl rfl ?_
  refine xw_iconst (v := nI 1) dL_law_531 rfl ?_
  refine xw_iadd dL_law_532 ?_
  refine xw_sld (L := L) (xs := xs) rfl dL_law_533 (lw_in (k := 1) (by omega) (by omega)) ?_
  refine xw_aload_n dL_law_534 rfl rfl ?_
  refine xw_iload_n dL_law_535 rfl rfl ?_
  refine xw_iconst (v := nI 2) dL_law_536 rfl ?_
  refine xw_iadd dL_law_537 ?_
  refine xw_sld (L := L) (xs := xs) rfl dL_law_538 (lw_in (k := 2) (by omega) (by omega)) ?_
  refine yw_cV (As := [.int (xs (nI i + nI 1).toNatClampNeg), .int (xs (nI i + nI 2).toNatClampNeg)]) (b := 209) (st := [.int (shareA σ (xs (nI i + nI 1).toNatClampNeg) (xs (nI i + nI 2).toNatClampNeg))]) dL_law_539 lL_68 kiX10_share kvX10_share rfl rfl rfl (la_209 h1.lay) rfl (Nat.le_of_ble_eq_true rfl) rfl (xk_I (w_share h1.lay (hm.cf f1) (fun I2 m2 f2 => ?_)))
  exact xw_iceq (tgt := 1269) dL_law_542 (by decide) (fun _ => nx sh I2 R1 _ (h1.mf f2) m2 (by omega)) (fun z => absurd rfl z)
theorem lc_13 (hi : i + 5 ≤ L) (hL : L ≤ 2560) (h : clR sh I R σ) (hm : mdR I σ) (hl : sh.length + 4 ≤ 1000000) (nx : lwN L xs i sh mc ms) : Ex (mL_law L xs) 547 (lwL i) [] (sh, I, R) (4 + mc) (100 + ms) (xqI lwQ) := by
  refine Ex.up (mc := mc) (ms := ms) ?_ (by omega) (by omega)
  have hz : NeZero σ.p := h.ok.nz
  refine xw_aload_n dL_law_547 rfl rfl ?_
  refine xw_aload_n dL_law_548 rfl rfl ?_
  refine xw_iload_n dL_law_549 rfl rfl ?_
  refine xw_iconst (v := nI 1) dL_law_550 rfl ?_
  refine xw_iadd dL_law_551 ?_
  refine xw_sld (L := L) (xs := xs) rfl dL_law_552 (lw_in (k := 1) (by omega) (by omega)) ?_
  refine xw_aload_n dL_law_553 rfl rfl ?_
  refine xw_iload_n dL_law_554 rfl rfl ?_
  refine xw_iconst (v := nI 2) dL_law_555 rfl ?_
  refine xw_iadd dL_law_556 ?_
  refine xw_sld (L := L) (xs := xs) rfl dL_law_557 (lw_in (k := 2) (by omega) (by omega)) ?_
  refine yw_cV (As := [.int (xs (nI i + nI 1).toNatClampNeg), .int (xs (nI i + nI 2).toNatClampNeg)]) (b := 0) (st := []) dL_law_558 lL_69 kiX9_mean kvX9_mean rfl rfl rfl (la_0 h.lay) rfl (Nat.le_of_ble_eq_true rfl) rfl (xk_J (k_mean h (fun I1 R1 h1 f1 => ?_)))
  refine xw_aload_n dL_law_561 rfl rfl ?_
  refine xw_aload_n dL_law_562 rfl rfl ?_
  refine xw_iload_n dL_law_563 rfl rfl ?_
  refine xw_iconst (v := nI 1) dL_law_564 rfl ?_
  refine xw_iadd dL_law_565 ?_
  refine xw_sld (L := L) (xs := xs) rfl dL_law_566 (lw_in (k := 1) (by omega) (by omega)) ?_
  refine xw_aload_n dL_law_567 rfl rfl ?_
  refine xw_iload_n dL_law_568 rfl rfl ?_
  refine xw_iconst (v := nI 2) dL_law_569 rfl ?_
  refine xw_iadd dL_law_570 ?_
  refine xw_sld (L := L) (xs := xs) rfl dL_law_571 (lw_in (k := 2) (by omega) (by omega)) ?_
  refine yw_cV (As := [.int (xs (nI i + nI 1).toNatClampNeg), .int (xs (nI i + nI 2).toNatClampNeg)]) (b := 209) (st := [.long (meanA σ (xs (nI i + nI 1).toNatClampNeg) (xs (nI i + nI 2).toNatClampNeg))]) dL_law_572 lL_73 kiX10_mean kvX10_mean rfl rfl rfl (la_209 h1.lay) rfl (Nat.le_of_ble_eq_true rfl) rfl (xk_J (w_mean h1.lay (hm.cf f1) (fun I2 m2 f2 => ?_)))
  refine xw_lcmp dL_law_575 ?_
  exact xw_ifeq (tgt := 1269) dL_law_576 (by decide) (fun _ => nx sh I2 R1 _ (h1.mf f2) m2 (by omega)) (fun z => absurd ((lg_cmp_eq _ _).mpr rfl) z)
theorem lc_14 (hi : i + 5 ≤ L) (hL : L ≤ 2560) (h : clR sh I R σ) (hm : mdR I σ) (hl : sh.length + 4 ≤ 1000000) (nx : lwN L xs i sh mc ms) : Ex (mL_law L xs) 581 (lwL i) [] (sh, I, R) (4 + mc) (100 + ms) (xqI lwQ) := by
  refine Ex.up (mc := mc) (ms := ms) ?_ (by omega) (by omega)
  refine xw_aload_n dL_law_581 rfl rfl ?_
  refine xw_aload_n dL_law_582 rfl rfl ?_
  refine xw_iload_n dL_law_583 rfl rfl ?_
  refine xw_iconst (v := nI 1) dL_law_584 rfl ?_
  refine xw_iadd dL_law_585 ?_
  refine xw_sld (L := L) (xs := xs) rfl dL_law_586 (lw_in (k := 1) (by omega) (by omega)) ?_
  refine yw_cV (As := [.int (xs (nI i + nI 1).toNatClampNeg)]) (b := 0) (st := []) dL_law_587 lL_74 kiX9_prefix kvX9_prefix rfl rfl rfl (la_0 h.lay) rfl (Nat.le_of_ble_eq_true rfl) rfl (xk_I (k_prefix h ?_))
  refine xw_aload_n dL_law_590 rfl rfl ?_
  refine xw_aload_n dL_law_591 rfl rfl ?_
  refine xw_iload_n dL_law_592 rfl rfl ?_
  refine xw_iconst (v := nI 1) dL_law_593 rfl ?_
  refine xw_iadd dL_law_594 ?_
  refine xw_sld (L := L) (xs := xs) rfl dL_law_595 (lw_in (k := 1) (by omega) (by omega)) ?_
  refine yw_cV (As := [.int (xs (nI i + nI 1).toNatClampNeg)]) (b := 209) (st := [.int (prefixA σ (xs (nI i + nI 1).toNatClampNeg))]) dL_law_596 lL_77 kiX10_prefix kvX10_prefix rfl rfl rfl (la_209 h.lay) rfl (Nat.le_of_ble_eq_true rfl) rfl (xk_I (w_prefix h.lay hm ?_))
  exact xw_iceq (tgt := 1269) dL_law_599 (by decide) (fun _ => nx sh I R σ h hm (by omega)) (fun z => absurd rfl z)
theorem lc_15 (hi : i + 5 ≤ L) (hL : L ≤ 2560) (h : clR sh I R σ) (hm : mdR I σ) (hl : sh.length + 4 ≤ 1000000) (nx : lwN L xs i sh mc ms) : Ex (mL_law L xs) 604 (lwL i) [] (sh, I, R) (4 + mc) (100 + ms) (xqI lwQ) := by
  refine Ex.up (mc := mc) (ms := ms) ?_ (by omega) (by omega)
  refine xw_aload_n dL_law_604 rfl rfl ?_
  refine xw_aload_n dL_law_605 rfl rfl ?_
  refine xw_iload_n dL_law_606 rfl rfl ?_
  refine xw_iconst (v := nI 1) dL_law_607 rfl ?_
  refine xw_iadd dL_law_608 ?_
  refine xw_sld (L := L) (xs := xs) rfl dL_law_609 (lw_in (k := 1) (by omega) (by omega)) ?_
  refine yw_cV (As := [.int (xs (nI i + nI 1).toNatClampNeg)]) (b := 0) (st := []) dL_law_610 lL_78 kiX9_suffix kvX9_suffix rfl rfl rfl (la_0 h.lay) rfl (Nat.le_of_ble_eq_true rfl) rfl (xk_I (k_suffix h ?_))
  refine xw_aload_n dL_law_613 rfl rfl ?_
  refine xw_aload_n dL_law_614 rfl rfl ?_
  refine xw_iload_n dL_law_615 rfl rfl ?_
  refine xw_iconst (v := nI 1) dL_law_616 rfl ?_
  refine xw_iadd dL_law_617 ?_
  refine xw_sld (L := L) (xs := xs) rfl dL_law_618 (lw_in (k := 1) (by omega) (by omega)) ?_
  refine yw_cV (As := [.int (xs (nI i + nI 1).toNatClampNeg)]) (b := 209) (st := [.int (suffixA σ (xs (nI i + nI 1).toNatClampNeg))]) dL_law_619 lL_81 kiX10_suffix kvX10_suffix rfl rfl rfl (la_209 h.lay) rfl (Nat.le_of_ble_eq_true rfl) rfl (xk_I (w_suffix h.lay hm ?_))
  exact xw_iceq (tgt := 1269) dL_law_622 (by decide) (fun _ => nx sh I R σ h hm (by omega)) (fun z => absurd rfl z)
theorem lc_16 (hi : i + 5 ≤ L) (hL : L ≤ 2560) (h : clR sh I R σ) (hm : mdR I σ) (hl : sh.length + 4 ≤ 1000000) (nx : lwN L xs i sh mc ms) : Ex (mL_law L xs) 627 (lwL i) [] (sh, I, R) (4 + mc) (100 + ms) (xqI lwQ) := by
  refine Ex.up (mc := mc) (ms := ms) ?_ (by omega) (by omega)
  have hz : NeZero σ.p := h.ok.nz
  refine xw_aload_n dL_law_627 rfl rfl ?_
  refine xw_aload_n dL_law_628 rfl rfl ?_
  refine xw_iload_n dL_law_629 rfl rfl ?_
  refine xw_iconst (v := nI 1) dL_law_630 rfl ?_
  refine xw_iadd dL_law_631 ?_
  refine xw_sld (L := L) (xs := xs) rfl dL_law_632 (lw_in (k := 1) (by omega) (by omega)) ?_
  refine xw_aload_n dL_law_633 rfl rfl ?_
  refine xw_iload_n dL_law_634 rfl rfl ?_
  refine xw_iconst (v := nI 2) dL_law_635 rfl ?_
  refine xw_iadd dL_law_636 ?_
  refine xw_sld (L := L) (xs := xs) rfl dL_law_637 (lw_in (k := 2) (by omega) (by omega)) ?_
  refine yw_cV (As := [.int (xs (nI i + nI 1).toNatClampNeg), .int (xs (nI i + nI 2).toNatClampNeg)]) (b := 0) (st := []) dL_law_638 lL_82 kiX9_cell kvX9_cell rfl rfl rfl (la_0 h.lay) rfl (Nat.le_of_ble_eq_true rfl) rfl (xk_I (k_cell h (fun I1 R1 h1 f1 => ?_)))
  refine xw_aload_n dL_law_641 rfl rfl ?_
  refine xw_aload_n dL_law_642 rfl rfl ?_
  refine xw_iload_n dL_law_643 rfl rfl ?_
  refine xw_iconst (v := nI 1) dL_law_644 rfl ?_
  refine xw_iadd dL_law_645 ?_
  refine xw_sld (L := L) (xs := xs) rfl dL_law_646 (lw_in (k := 1) (by omega) (by omega)) ?_
  refine xw_aload_n dL_law_647 rfl rfl ?_
  refine xw_iload_n dL_law_648 rfl rfl ?_
  refine xw_iconst (v := nI 2) dL_law_649 rfl ?_
  refine xw_iadd dL_law_650 ?_
  refine xw_sld (L := L) (xs := xs) rfl dL_law_651 (lw_in (k := 2) (by omega) (by omega)) ?_
  refine yw_cV (As := [.int (xs (nI i + nI 1).toNatClampNeg), .int (xs (nI i + nI 2).toNatClampNeg)]) (b := 209) (st := [.int (cellA σ (xs (nI i + nI 1).toNatClampNeg) (xs (nI i + nI 2).toNatClampNeg))]) dL_law_652 lL_85 kiX10_cell kvX10_cell rfl rfl rfl (la_209 h1.lay) rfl (Nat.le_of_ble_eq_true rfl) rfl (xk_I (w_cell h1.lay (hm.cf f1) (fun I2 m2 f2 => ?_)))
  exact xw_iceq (tgt := 1269) dL_law_655 (by decide) (fun _ => nx sh I2 R1 _ (h1.mf f2) m2 (by omega)) (fun z => absurd rfl z)
theorem lc_17 (hi : i + 5 ≤ L) (hL : L ≤ 2560) (h : clR sh I R σ) (hm : mdR I σ) (hl : sh.length + 4 ≤ 1000000) (nx : lwN L xs i sh mc ms) : Ex (mL_law L xs) 660 (lwL i) [] (sh, I, R) (4 + mc) (100 + ms) (xqI lwQ) := by
  refine Ex.up (mc := mc) (ms := ms) ?_ (by omega) (by omega)
  have hz : NeZero σ.p := h.ok.nz
  refine xw_aload_n dL_law_660 rfl rfl ?_
  refine xw_aload_n dL_law_661 rfl rfl ?_
  refine xw_iload_n dL_law_662 rfl rfl ?_
  refine xw_iconst (v := nI 1) dL_law_663 rfl ?_
  refine xw_iadd dL_law_664 ?_
  refine xw_sld (L := L) (xs := xs) rfl dL_law_665 (lw_in (k := 1) (by omega) (by omega)) ?_
  refine xw_aload_n dL_law_666 rfl rfl ?_
  refine xw_iload_n dL_law_667 rfl rfl ?_
  refine xw_iconst (v := nI 2) dL_law_668 rfl ?_
  refine xw_iadd dL_law_669 ?_
  refine xw_sld (L := L) (xs := xs) rfl dL_law_670 (lw_in (k := 2) (by omega) (by omega)) ?_
  refine yw_cV (As := [.int (xs (nI i + nI 1).toNatClampNeg), .int (xs (nI i + nI 2).toNatClampNeg)]) (b := 0) (st := []) dL_law_671 lL_86 kiX9_part kvX9_part rfl rfl rfl (la_0 h.lay) rfl (Nat.le_of_ble_eq_true rfl) rfl (xk_I (k_part h (fun I1 R1 h1 f1 => ?_)))
  refine xw_aload_n dL_law_674 rfl rfl ?_
  refine xw_aload_n dL_law_675 rfl rfl ?_
  refine xw_iload_n dL_law_676 rfl rfl ?_
  refine xw_iconst (v := nI 1) dL_law_677 rfl ?_
  refine xw_iadd dL_law_678 ?_
  refine xw_sld (L := L) (xs := xs) rfl dL_law_679 (lw_in (k := 1) (by omega) (by omega)) ?_
  refine xw_aload_n dL_law_680 rfl rfl ?_
  refine xw_iload_n dL_law_681 rfl rfl ?_
  refine xw_iconst (v := nI 2) dL_law_682 rfl ?_
  refine xw_iadd dL_law_683 ?_
  refine xw_sld (L := L) (xs := xs) rfl dL_law_684 (lw_in (k := 2) (by omega) (by omega)) ?_
  refine yw_cV (As := [.int (xs (nI i + nI 1).toNatClampNeg), .int (xs (nI i + nI 2).toNatClampNeg)]) (b := 209) (st := [.int (partA σ (xs (nI i + nI 1).toNatClampNeg) (xs (nI i + nI 2).toNatClampNeg))]) dL_law_685 lL_89 kiX10_part kvX10_part rfl rfl rfl (la_209 h1.lay) rfl (Nat.le_of_ble_eq_true rfl) rfl (xk_I (w_part h1.lay (hm.cf f1) (fun I2 m2 f2 => ?_)))
  exact xw_iceq (tgt := 1269) dL_law_688 (by decide) (fun _ => nx sh I2 R1 _ (h1.mf f2) m2 (by omega)) (fun z => absurd rfl z)
theorem lc_18 (hi : i + 5 ≤ L) (hL : L ≤ 2560) (h : clR sh I R σ) (hm : mdR I σ) (hl : sh.length + 4 ≤ 1000000) (nx : lwN L xs i sh mc ms) : Ex (mL_law L xs) 693 (lwL i) [] (sh, I, R) (4 + mc) (100 + ms) (xqI lwQ) := by
  refine Ex.up (mc := mc) (ms := ms) ?_ (by omega) (by omega)
  have hz : NeZero σ.p := h.ok.nz
  refine xw_aload_n dL_law_693 rfl rfl ?_
  refine yw_cV (As := []) (b := 0) (st := []) dL_law_694 lL_90 kiX9_close kvX9_close rfl rfl rfl (la_0 h.lay) rfl (Nat.le_of_ble_eq_true rfl) rfl (xk_I (k_close h (fun I1 R1 h1 f1 => ?_)))
  refine xw_aload_n dL_law_697 rfl rfl ?_
  refine yw_cV (As := []) (b := 209) (st := [.int (closeA σ).1]) dL_law_698 lL_93 kiX10_close kvX10_close rfl rfl rfl (la_209 h1.lay) rfl (Nat.le_of_ble_eq_true rfl) rfl (xk_I (w_close h1.lay (hm.cf f1) (fun I2 m2 f2 => ?_)))
  exact xw_iceq (tgt := 1269) dL_law_701 (by decide) (fun _ => nx sh I2 R1 _ (h1.mf f2) m2 (by omega)) (fun z => absurd rfl z)
theorem lc_19 (hi : i + 5 ≤ L) (hL : L ≤ 2560) (h : clR sh I R σ) (hm : mdR I σ) (hl : sh.length + 4 ≤ 1000000) (nx : lwN L xs i sh mc ms) : Ex (mL_law L xs) 706 (lwL i) [] (sh, I, R) (4 + mc) (100 + ms) (xqI lwQ) := by
  refine Ex.up (mc := mc) (ms := ms) ?_ (by omega) (by omega)
  have hz : NeZero σ.p := h.ok.nz
  refine xw_aload_n dL_law_706 rfl rfl ?_
  refine yw_cV (As := []) (b := 0) (st := []) dL_law_707 lL_94 kiX9_learn kvX9_learn rfl rfl rfl (la_0 h.lay) rfl (Nat.le_of_ble_eq_true rfl) rfl (xk_I (k_learn h (fun I1 R1 h1 f1 => ?_)))
  refine xw_aload_n dL_law_710 rfl rfl ?_
  refine yw_cV (As := []) (b := 209) (st := [.int (learnA σ).1]) dL_law_711 lL_97 kiX10_learn kvX10_learn rfl rfl rfl (la_209 h1.lay) rfl (Nat.le_of_ble_eq_true rfl) rfl (xk_I (w_learn h1.lay (hm.cf f1) (fun I2 m2 f2 => ?_)))
  exact xw_iceq (tgt := 1269) dL_law_714 (by decide) (fun _ => nx sh I2 R1 _ (h1.mf f2) m2 (by omega)) (fun z => absurd rfl z)
end LAWC
