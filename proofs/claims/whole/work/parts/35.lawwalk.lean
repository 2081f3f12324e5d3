theorem lw_inc {M : am_M} {D : va_G} {cT : Nat → ClassId} {adX adM : Nat → Nat} {b L : Nat} {xs : Nat → Int32} (X : lw_X M (D, cT, adX, NX, LX) (D, cT, adM, NM, LM) b L xs) {k : Sg → Sg → Int32 → Option Unit} (hk : ∀ (σ τ : Sg) (x3 : Int32), k σ τ x3 = some () → lw_J M (D, cT, adX, NX, LX) (D, cT, adM, NM, LM) b 18 [(0, .ref b), (1, .ref (adX 0)), (2, .ref (adM 0)), (3, .int x3)] [] σ τ) (σ τ : Sg) (x3 : Int32) (h : k σ τ (x3 + (6 : Int32)) = some ()) : lw_J M (D, cT, adX, NX, LX) (D, cT, adM, NM, LM) b 1299 [(0, .ref b), (1, .ref (adX 0)), (2, .ref (adM 0)), (3, .int x3)] [] σ τ := by
  refine lw_iinc X [(3, .int (x3 + (6 : Int32))), (0, .ref b), (1, .ref (adX 0)), (2, .ref (adM 0))] dL_law_1299 3 rfl (v := x3 + (6 : Int32)) (by rfl) (by decide) rfl ?_
  refine lw_goto X 18 dL_law_1302 (by decide) ?_
  intro H locs ls hP hM hS hl
  exact hk σ τ _ h H locs ls hP hM hS (lv_sub hl [1, 2, 3, 0] rfl)
set_option maxRecDepth 100000 in
set_option maxHeartbeats 4000000 in
theorem t_law_0 {M : am_M} {D : va_G} {cT : Nat → ClassId} {adX adM : Nat → Nat} {b L : Nat} {xs : Nat → Int32} (X : lw_X M (D, cT, adX, NX, LX) (D, cT, adM, NM, LM) b L xs) {k : Sg → Sg → Int32 → Option Unit} (hk : ∀ (σ τ : Sg) (x3 : Int32), k σ τ x3 = some () → lw_J M (D, cT, adX, NX, LX) (D, cT, adM, NM, LM) b 18 [(0, .ref b), (1, .ref (adX 0)), (2, .ref (adM 0)), (3, .int x3)] [] σ τ) (σ τ : Sg) (x3 : Int32) (h : f_law_0 xs L k σ τ x3 = some ()) : lw_J M (D, cT, adX, NX, LX) (D, cT, adM, NM, LM) b 196 [(0, .ref b), (1, .ref (adX 0)), (2, .ref (adM 0)), (3, .int x3)] [] σ τ := by
  unfold f_law_0 at h
  refine lw_aload_n X dL_law_196 rfl 1 rfl ?_
  refine lw_aload_n X dL_law_197 rfl 0 rfl ?_
  refine lw_iload_n X dL_law_198 rfl 3 rfl ?_
  refine lw_iconst (v := 1) X dL_law_199 (by decide) ?_
  refine lw_iadd X dL_law_200 ?_
  refine lw_sld X dL_law_201 h (fun h => ?_)
  refine lw_aload_n X dL_law_202 rfl 0 rfl ?_
  refine lw_iload_n X dL_law_203 rfl 3 rfl ?_
  refine lw_iconst (v := 2) X dL_law_204 (by decide) ?_
  refine lw_iadd X dL_law_205 ?_
  refine lw_sld X dL_law_206 h (fun h => ?_)
  obtain ⟨r1, σ2, hc_3, h⟩ := bnd_of h
  refine lw_callX (c := 0) (As := [.int (xs ((x3 + (1 : Int32))).toNatClampNeg), .int (xs ((x3 + (2 : Int32))).toNatClampNeg)]) (rest := []) (st2 := [.int r1]) X cv_L_13 (c_X9_type M.2.1 hc_3) rfl fX_0 rfl rfl (Nat.le_of_ble_eq_true rfl) ⟨⟨rfl, rfl⟩, by decide, by decide⟩ dL_law_207 rfl ?_
  refine lw_aload_n X dL_law_210 rfl 2 rfl ?_
  refine lw_aload_n X dL_law_211 rfl 0 rfl ?_
  refine lw_iload_n X dL_law_212 rfl 3 rfl ?_
  refine lw_iconst (v := 1) X dL_law_213 (by decide) ?_
  refine lw_iadd X dL_law_214 ?_
  refine lw_sld X dL_law_215 h (fun h => ?_)
  refine lw_aload_n X dL_law_216 rfl 0 rfl ?_
  refine lw_iload_n X dL_law_217 rfl 3 rfl ?_
  refine lw_iconst (v := 2) X dL_law_218 (by decide) ?_
  refine lw_iadd X dL_law_219 ?_
  refine lw_sld X dL_law_220 h (fun h => ?_)
  obtain ⟨r4, τ5, hc_6, h⟩ := bnd_of h
  refine lw_callM (c := 0) (As := [.int (xs ((x3 + (1 : Int32))).toNatClampNeg), .int (xs ((x3 + (2 : Int32))).toNatClampNeg)]) (rest := [.int r1]) (st2 := [.int r4, .int r1]) X cv_L_17 (c_X10_type M.2.1 hc_6) rfl fM_0 rfl rfl (Nat.le_of_ble_eq_true rfl) ⟨⟨rfl, rfl⟩, by decide, by decide⟩ dL_law_221 rfl ?_
  refine lw_eq X 1299 dL_law_224 (by decide) h (fun h => ?_)
  exact lw_inc X hk σ2 τ5 x3 h
set_option maxRecDepth 100000 in
set_option maxHeartbeats 4000000 in
theorem t_law_1 {M : am_M} {D : va_G} {cT : Nat → ClassId} {adX adM : Nat → Nat} {b L : Nat} {xs : Nat → Int32} (X : lw_X M (D, cT, adX, NX, LX) (D, cT, adM, NM, LM) b L xs) {k : Sg → Sg → Int32 → Option Unit} (hk : ∀ (σ τ : Sg) (x3 : Int32), k σ τ x3 = some () → lw_J M (D, cT, adX, NX, LX) (D, cT, adM, NM, LM) b 18 [(0, .ref b), (1, .ref (adX 0)), (2, .ref (adM 0)), (3, .int x3)] [] σ τ) (σ τ : Sg) (x3 : Int32) (h : f_law_1 xs L k σ τ x3 = some ()) : lw_J M (D, cT, adX, NX, LX) (D, cT, adM, NM, LM) b 229 [(0, .ref b), (1, .ref (adX 0)), (2, .ref (adM 0)), (3, .int x3)] [] σ τ := by
  unfold f_law_1 at h
  refine lw_aload_n X dL_law_229 rfl 1 rfl ?_
  refine lw_aload_n X dL_law_230 rfl 0 rfl ?_
  refine lw_iload_n X dL_law_231 rfl 3 rfl ?_
  refine lw_iconst (v := 1) X dL_law_232 (by decide) ?_
  refine lw_iadd X dL_law_233 ?_
  refine lw_sld X dL_law_234 h (fun h => ?_)
  obtain ⟨r1, σ2, hc_3, h⟩ := bnd_of h
  refine lw_callX (c := 0) (As := [.int (xs ((x3 + (1 : Int32))).toNatClampNeg)]) (rest := []) (st2 := [.int r1]) X cv_L_18 (c_X9_wipe M.2.1 hc_3) rfl fX_0 rfl rfl (Nat.le_of_ble_eq_true rfl) ⟨⟨rfl, rfl⟩, by decide, by decide⟩ dL_law_235 rfl ?_
  refine lw_aload_n X dL_law_238 rfl 2 rfl ?_
  refine lw_aload_n X dL_law_239 rfl 0 rfl ?_
  refine lw_iload_n X dL_law_240 rfl 3 rfl ?_
  refine lw_iconst (v := 1) X dL_law_241 (by decide) ?_
  refine lw_iadd X dL_law_242 ?_
  refine lw_sld X dL_law_243 h (fun h => ?_)
  obtain ⟨r4, τ5, hc_6, h⟩ := bnd_of h
  refine lw_callM (c := 0) (As := [.int (xs ((x3 + (1 : Int32))).toNatClampNeg)]) (rest := [.int r1]) (st2 := [.int r4, .int r1]) X cv_L_22 (c_X10_wipe M.2.1 hc_6) rfl fM_0 rfl rfl (Nat.le_of_ble_eq_true rfl) ⟨⟨rfl, rfl⟩, by decide, by decide⟩ dL_law_244 rfl ?_
  refine lw_eq X 1299 dL_law_247 (by decide) h (fun h => ?_)
  exact lw_inc X hk σ2 τ5 x3 h
set_option maxRecDepth 100000 in
set_option maxHeartbeats 4000000 in
theorem t_law_2 {M : am_M} {D : va_G} {cT : Nat → ClassId} {adX adM : Nat → Nat} {b L : Nat} {xs : Nat → Int32} (X : lw_X M (D, cT, adX, NX, LX) (D, cT, adM, NM, LM) b L xs) {k : Sg → Sg → Int32 → Option Unit} (hk : ∀ (σ τ : Sg) (x3 : Int32), k σ τ x3 = some () → lw_J M (D, cT, adX, NX, LX) (D, cT, adM, NM, LM) b 18 [(0, .ref b), (1, .ref (adX 0)), (2, .ref (adM 0)), (3, .int x3)] [] σ τ) (σ τ : Sg) (x3 : Int32) (h : f_law_2 xs L k σ τ x3 = some ()) : lw_J M (D, cT, adX, NX, LX) (D, cT, adM, NM, LM) b 252 [(0, .ref b), (1, .ref (adX 0)), (2, .ref (adM 0)), (3, .int x3)] [] σ τ := by
  unfold f_law_2 at h
  refine lw_aload_n X dL_law_252 rfl 1 rfl ?_
  refine lw_aload_n X dL_law_253 rfl 0 rfl ?_
  refine lw_iload_n X dL_law_254 rfl 3 rfl ?_
  refine lw_iconst (v := 1) X dL_law_255 (by decide) ?_
  refine lw_iadd X dL_law_256 ?_
  refine lw_sld X dL_law_257 h (fun h => ?_)
  obtain ⟨r1, σ2, hc_3, h⟩ := bnd_of h
  refine lw_callX (c := 0) (As := [.int (xs ((x3 + (1 : Int32))).toNatClampNeg)]) (rest := []) (st2 := [.int r1]) X cv_L_23 (c_X9_undo M.2.1 hc_3) rfl fX_0 rfl rfl (Nat.le_of_ble_eq_true rfl) ⟨⟨rfl, rfl⟩, by decide, by decide⟩ dL_law_258 rfl ?_
  refine lw_aload_n X dL_law_261 rfl 2 rfl ?_
  refine lw_aload_n X dL_law_262 rfl 0 rfl ?_
  refine lw_iload_n X dL_law_263 rfl 3 rfl ?_
  refine lw_iconst (v := 1) X dL_law_264 (by decide) ?_
  refine lw_iadd X dL_law_265 ?_
  refine lw_sld X dL_law_266 h (fun h => ?_)
  obtain ⟨r4, τ5, hc_6, h⟩ := bnd_of h
  refine lw_callM (c := 0) (As := [.int (xs ((x3 + (1 : Int32))).toNatClampNeg)]) (rest := [.int r1]) (st2 := [.int r4, .int r1]) X cv_L_26 (c_X10_undo M.2.1 hc_6) rfl fM_0 rfl rfl (Nat.le_of_ble_eq_true rfl) ⟨⟨rfl, rfl⟩, by decide, by decide⟩ dL_law_267 rfl ?_
  refine lw_eq X 1299 dL_law_270 (by decide) h (fun h => ?_)
  exact lw_inc X hk σ2 τ5 x3 h
set_option maxRecDepth 100000 in
set_option maxHeartbeats 4000000 in
theorem t_law_3 {M : am_M} {D : va_G} {cT : Nat → ClassId} {adX adM : Nat → Nat} {b L : Nat} {xs : Nat → Int32} (X : lw_X M (D, cT, adX, NX, LX) (D, cT, adM, NM, LM) b L xs) {k : Sg → Sg → Int32 → Option Unit} (hk : ∀ (σ τ : Sg) (x3 : Int32), k σ τ x3 = some () → lw_J M (D, cT, adX, NX, LX) (D, cT, adM, NM, LM) b 18 [(0, .ref b), (1, .ref (adX 0)), (2, .ref (adM 0)), (3, .int x3)] [] σ τ) (σ τ : Sg) (x3 : Int32) (h : f_law_3 xs L k σ τ x3 = some ()) : lw_J M (D, cT, adX, NX, LX) (D, cT, adM, NM, LM) b 275 [(0, .ref b), (1, .ref (adX 0)), (2, .ref (adM 0)), (3, .int x3)] [] σ τ := by
  unfold f_law_3 at h
  refine lw_aload_n X dL_law_275 rfl 1 rfl ?_
  refine lw_aload_n X dL_law_276 rfl 0 rfl ?_
  refine lw_iload_n X dL_law_277 rfl 3 rfl ?_
  refine lw_iconst (v := 1) X dL_law_278 (by decide) ?_
  refine lw_iadd X dL_law_279 ?_
  refine lw_sld X dL_law_280 h (fun h => ?_)
  obtain ⟨r1, σ2, hc_3, h⟩ := bnd_of h
  refine lw_callX (c := 0) (As := [.int (xs ((x3 + (1 : Int32))).toNatClampNeg)]) (rest := []) (st2 := [.int r1]) X cv_L_27 (c_X9_fault M.2.1 hc_3) rfl fX_0 rfl rfl (Nat.le_of_ble_eq_true rfl) ⟨⟨rfl, rfl⟩, by decide, by decide⟩ dL_law_281 rfl ?_
  refine lw_aload_n X dL_law_284 rfl 2 rfl ?_
  refine lw_aload_n X dL_law_285 rfl 0 rfl ?_
  refine lw_iload_n X dL_law_286 rfl 3 rfl ?_
  refine lw_iconst (v := 1) X dL_law_287 (by decide) ?_
  refine lw_iadd X dL_law_288 ?_
  refine lw_sld X dL_law_289 h (fun h => ?_)
  obtain ⟨r4, τ5, hc_6, h⟩ := bnd_of h
  refine lw_callM (c := 0) (As := [.int (xs ((x3 + (1 : Int32))).toNatClampNeg)]) (rest := [.int r1]) (st2 := [.int r4, .int r1]) X cv_L_30 (c_X10_fault M.2.1 hc_6) rfl fM_0 rfl rfl (Nat.le_of_ble_eq_true rfl) ⟨⟨rfl, rfl⟩, by decide, by decide⟩ dL_law_290 rfl ?_
  refine lw_eq X 1299 dL_law_293 (by decide) h (fun h => ?_)
  exact lw_inc X hk σ2 τ5 x3 h
set_option maxRecDepth 100000 in
set_option maxHeartbeats 4000000 in
theorem t_law_4 {M : am_M} {D : va_G} {cT : Nat → ClassId} {adX adM : Nat → Nat} {b L : Nat} {xs : Nat → Int32} (X : lw_X M (D, cT, adX, NX, LX) (D, cT, adM, NM, LM) b L xs) {k : Sg → Sg → Int32 → Option Unit} (hk : ∀ (σ τ : Sg) (x3 : Int32), k σ τ x3 = some () → lw_J M (D, cT, adX, NX, LX) (D, cT, adM, NM, LM) b 18 [(0, .ref b), (1, .ref (adX 0)), (2, .ref (adM 0)), (3, .int x3)] [] σ τ) (σ τ : Sg) (x3 : Int32) (h : f_law_4 xs L k σ τ x3 = some ()) : lw_J M (D, cT, adX, NX, LX) (D, cT, adM, NM, LM) b 298 [(0, .ref b), (1, .ref (adX 0)), (2, .ref (adM 0)), (3, .int x3)] [] σ τ := by
  unfold f_law_4 at h
  refine lw_aload_n X dL_law_298 rfl 1 rfl ?_
  refine lw_aload_n X dL_law_299 rfl 0 rfl ?_
  refine lw_iload_n X dL_law_300 rfl 3 rfl ?_
  refine lw_iconst (v := 1) X dL_law_301 (by decide) ?_
  refine lw_iadd X dL_law_302 ?_
  refine lw_sld X dL_law_303 h (fun h => ?_)
  refine lw_aload_n X dL_law_304 rfl 0 rfl ?_
  refine lw_iload_n X dL_law_305 rfl 3 rfl ?_
  refine lw_iconst (v := 2) X dL_law_306 (by decide) ?_
  refine lw_iadd X dL_law_307 ?_
  refine lw_sld X dL_law_308 h (fun h => ?_)
  obtain ⟨r1, σ2, hc_3, h⟩ := bnd_of h
  refine lw_callX (c := 0) (As := [.int (xs ((x3 + (1 : Int32))).toNatClampNeg), .int (xs ((x3 + (2 : Int32))).toNatClampNeg)]) (rest := []) (st2 := [.int r1]) X cv_L_31 (c_X9_gone M.2.1 hc_3) rfl fX_0 rfl rfl (Nat.le_of_ble_eq_true rfl) ⟨⟨rfl, rfl⟩, by decide, by decide⟩ dL_law_309 rfl ?_
  refine lw_aload_n X dL_law_312 rfl 2 rfl ?_
  refine lw_aload_n X dL_law_313 rfl 0 rfl ?_
  refine lw_iload_n X dL_law_314 rfl 3 rfl ?_
  refine lw_iconst (v := 1) X dL_law_315 (by decide) ?_
  refine lw_iadd X dL_law_316 ?_
  refine lw_sld X dL_law_317 h (fun h => ?_)
  refine lw_aload_n X dL_law_318 rfl 0 rfl ?_
  refine lw_iload_n X dL_law_319 rfl 3 rfl ?_
  refine lw_iconst (v := 2) X dL_law_320 (by decide) ?_
  refine lw_iadd X dL_law_321 ?_
  refine lw_sld X dL_law_322 h (fun h => ?_)
  obtain ⟨r4, τ5, hc_6, h⟩ := bnd_of h
  refine lw_callM (c := 0) (As := [.int (xs ((x3 + (1 : Int32))).toNatClampNeg), .int (xs ((x3 + (2 : Int32))).toNatClampNeg)]) (rest := [.int r1]) (st2 := [.int r4, .int r1]) X cv_L_34 (c_X10_gone M.2.1 hc_6) rfl fM_0 rfl rfl (Nat.le_of_ble_eq_true rfl) ⟨⟨rfl, rfl⟩, by decide, by decide⟩ dL_law_323 rfl ?_
  refine lw_eq X 1299 dL_law_326 (by decide) h (fun h => ?_)
  exact lw_inc X hk σ2 τ5 x3 h
set_option maxRecDepth 100000 in
set_option maxHeartbeats 4000000 in
theorem t_law_5 {M : am_M} {D : va_G} {cT : Nat → ClassId} {adX adM : Nat → Nat} {b L : Nat} {xs : Nat → Int32} (X : lw_X M (D, cT, adX, NX, LX) (D, cT, adM, NM, LM) b L xs) {k : Sg → Sg → Int32 → Option Unit} (hk : ∀ (σ τ : Sg) (x3 : Int32), k σ τ x3 = some () → lw_J M (D, cT, adX, NX, LX) (D, cT, adM, NM, LM) b 18 [(0, .ref b), (1, .ref (adX 0)), (2, .ref (adM 0)), (3, .int x3)] [] σ τ) (σ τ : Sg) (x3 : Int32) (h : f_law_5 xs L k σ τ x3 = some ()) : lw_J M (D, cT, adX, NX, LX) (D, cT, adM, NM, LM) b 331 [(0, .ref b), (1, .ref (adX 0)), (2, .ref (adM 0)), (3, .int x3)] [] σ τ := by
  unfold f_law_5 at h
  refine lw_aload_n X dL_law_331 rfl 1 rfl ?_
  refine lw_aload_n X dL_law_332 rfl 0 rfl ?_
  refine lw_iload_n X dL_law_333 rfl 3 rfl ?_
  refine lw_iconst (v := 1) X dL_law_334 (by decide) ?_
  refine lw_iadd X dL_law_335 ?_
  refine lw_sld X dL_law_336 h (fun h => ?_)
  refine lw_aload_n X dL_law_337 rfl 0 rfl ?_
  refine lw_iload_n X dL_law_338 rfl 3 rfl ?_
  refine lw_iconst (v := 2) X dL_law_339 (by decide) ?_
  refine lw_iadd X dL_law_340 ?_
  refine lw_sld X dL_law_341 h (fun h => ?_)
  obtain ⟨r1, σ2, hc_3, h⟩ := bnd_of h
  refine lw_callX (c := 0) (As := [.int (xs ((x3 + (1 : Int32))).toNatClampNeg), .int (xs ((x3 + (2 : Int32))).toNatClampNeg)]) (rest := []) (st2 := [.int r1]) X cv_L_35 (c_X9_need M.2.1 hc_3) rfl fX_0 rfl rfl (Nat.le_of_ble_eq_true rfl) ⟨⟨rfl, rfl⟩, by decide, by decide⟩ dL_law_342 rfl ?_
  refine lw_aload_n X dL_law_345 rfl 2 rfl ?_
  refine lw_aload_n X dL_law_346 rfl 0 rfl ?_
  refine lw_iload_n X dL_law_347 rfl 3 rfl ?_
  refine lw_iconst (v := 1) X dL_law_348 (by decide) ?_
  refine lw_iadd X dL_law_349 ?_
  refine lw_sld X dL_law_350 h (fun h => ?_)
  refine lw_aload_n X dL_law_351 rfl 0 rfl ?_
  refine lw_iload_n X dL_law_352 rfl 3 rfl ?_
  refine lw_iconst (v := 2) X dL_law_353 (by decide) ?_
  refine lw_iadd X dL_law_354 ?_
  refine lw_sld X dL_law_355 h (fun h => ?_)
  obtain ⟨r4, τ5, hc_6, h⟩ := bnd_of h
  refine lw_callM (c := 0) (As := [.int (xs ((x3 + (1 : Int32))).toNatClampNeg), .int (xs ((x3 + (2 : Int32))).toNatClampNeg)]) (rest := [.int r1]) (st2 := [.int r4, .int r1]) X cv_L_38 (c_X10_need M.2.1 hc_6) rfl fM_0 rfl rfl (Nat.le_of_ble_eq_true rfl) ⟨⟨rfl, rfl⟩, by decide, by decide⟩ dL_law_356 rfl ?_
  refine lw_eq X 1299 dL_law_359 (by decide) h (fun h => ?_)
  exact lw_inc X hk σ2 τ5 x3 h
set_option maxRecDepth 100000 in
set_option maxHeartbeats 4000000 in
theorem t_law_6 {M : am_M} {D : va_G} {cT : Nat → ClassId} {adX adM : Nat → Nat} {b L : Nat} {xs : Nat → Int32} (X : lw_X M (D, cT, adX, NX, LX) (D, cT, adM, NM, LM) b L xs) {k : Sg → Sg → Int32 → Option Unit} (hk : ∀ (σ τ : Sg) (x3 : Int32), k σ τ x3 = some () → lw_J M (D, cT, adX, NX, LX) (D, cT, adM, NM, LM) b 18 [(0, .ref b), (1, .ref (adX 0)), (2, .ref (adM 0)), (3, .int x3)] [] σ τ) (σ τ : Sg) (x3 : Int32) (h : f_law_6 xs L k σ τ x3 = some ()) : lw_J M (D, cT, adX, NX, LX) (D, cT, adM, NM, LM) b 364 [(0, .ref b), (1, .ref (adX 0)), (2, .ref (adM 0)), (3, .int x3)] [] σ τ := by
  unfold f_law_6 at h
  refine lw_aload_n X dL_law_364 rfl 1 rfl ?_
  refine lw_aload_n X dL_law_365 rfl 0 rfl ?_
  refine lw_iload_n X dL_law_366 rfl 3 rfl ?_
  refine lw_iconst (v := 1) X dL_law_367 (by decide) ?_
  refine lw_iadd X dL_law_368 ?_
  refine lw_sld X dL_law_369 h (fun h => ?_)
  refine lw_aload_n X dL_law_370 rfl 0 rfl ?_
  refine lw_iload_n X dL_law_371 rfl 3 rfl ?_
  refine lw_iconst (v := 2) X dL_law_372 (by decide) ?_
  refine lw_iadd X dL_law_373 ?_
  refine lw_sld X dL_law_374 h (fun h => ?_)
  refine lw_aload_n X dL_law_375 rfl 0 rfl ?_
  refine lw_iload_n X dL_law_376 rfl 3 rfl ?_
  refine lw_iconst (v := 3) X dL_law_377 (by decide) ?_
  refine lw_iadd X dL_law_378 ?_
  refine lw_sld X dL_law_379 h (fun h => ?_)
  obtain ⟨r1, σ2, hc_3, h⟩ := bnd_of h
  refine lw_callX (c := 0) (As := [.int (xs ((x3 + (1 : Int32))).toNatClampNeg), .int (xs ((x3 + (2 : Int32))).toNatClampNeg), .int (xs ((x3 + (3 : Int32))).toNatClampNeg)]) (rest := []) (st2 := [.int r1]) X cv_L_39 (c_X9_event M.2.1 hc_3) rfl fX_0 rfl rfl (Nat.le_of_ble_eq_true rfl) ⟨⟨rfl, rfl⟩, by decide, by decide⟩ dL_law_380 rfl ?_
  refine lw_aload_n X dL_law_383 rfl 2 rfl ?_
  refine lw_aload_n X dL_law_384 rfl 0 rfl ?_
  refine lw_iload_n X dL_law_385 rfl 3 rfl ?_
  refine lw_iconst (v := 1) X dL_law_386 (by decide) ?_
  refine lw_iadd X dL_law_387 ?_
  refine lw_sld X dL_law_388 h (fun h => ?_)
  refine lw_aload_n X dL_law_389 rfl 0 rfl ?_
  refine lw_iload_n X dL_law_390 rfl 3 rfl ?_
  refine lw_iconst (v := 2) X dL_law_391 (by decide) ?_
  refine lw_iadd X dL_law_392 ?_
  refine lw_sld X dL_law_393 h (fun h => ?_)
  refine lw_aload_n X dL_law_394 rfl 0 rfl ?_
  refine lw_iload_n X dL_law_395 rfl 3 rfl ?_
  refine lw_iconst (v := 3) X dL_law_396 (by decide) ?_
  refine lw_iadd X dL_law_397 ?_
  refine lw_sld X dL_law_398 h (fun h => ?_)
  obtain ⟨r4, τ5, hc_6, h⟩ := bnd_of h
  refine lw_callM (c := 0) (As := [.int (xs ((x3 + (1 : Int32))).toNatClampNeg), .int (xs ((x3 + (2 : Int32))).toNatClampNeg), .int (xs ((x3 + (3 : Int32))).toNatClampNeg)]) (rest := [.int r1]) (st2 := [.int r4, .int r1]) X cv_L_43 (c_X10_event M.2.1 hc_6) rfl fM_0 rfl rfl (Nat.le_of_ble_eq_true rfl) ⟨⟨rfl, rfl⟩, by decide, by decide⟩ dL_law_399 rfl ?_
  refine lw_eq X 1299 dL_law_402 (by decide) h (fun h => ?_)
  exact lw_inc X hk σ2 τ5 x3 h
set_option maxRecDepth 100000 in
set_option maxHeartbeats 4000000 in
theorem t_law_7 {M : am_M} {D : va_G} {cT : Nat → ClassId} {adX adM : Nat → Nat} {b L : Nat} {xs : Nat → Int32} (X : lw_X M (D, cT, adX, NX, LX) (D, cT, adM, NM, LM) b L xs) {k : Sg → Sg → Int32 → Option Unit} (hk : ∀ (σ τ : Sg) (x3 : Int32), k σ τ x3 = some () → lw_J M (D, cT, adX, NX, LX) (D, cT, adM, NM, LM) b 18 [(0, .ref b), (1, .ref (adX 0)), (2, .ref (adM 0)), (3, .int x3)] [] σ τ) (σ τ : Sg) (x3 : Int32) (h : f_law_7 xs L k σ τ x3 = some ()) : lw_J M (D, cT, adX, NX, LX) (D, cT, adM, NM, LM) b 407 [(0, .ref b), (1, .ref (adX 0)), (2, .ref (adM 0)), (3, .int x3)] [] σ τ := by
  unfold f_law_7 at h
  refine lw_aload_n X dL_law_407 rfl 1 rfl ?_
  obtain ⟨r1, σ2, hc_3, h⟩ := bnd_of h
  refine lw_callX (c := 0) (As := []) (rest := []) (st2 := [.int r1]) X cv_L_44 (c_X9_back M.2.1 hc_3) rfl fX_0 rfl rfl (Nat.le_of_ble_eq_true rfl) ⟨⟨rfl, rfl⟩, by decide, by decide⟩ dL_law_408 rfl ?_
  refine lw_aload_n X dL_law_411 rfl 2 rfl ?_
  obtain ⟨r4, τ5, hc_6, h⟩ := bnd_of h
  refine lw_callM (c := 0) (As := []) (rest := [.int r1]) (st2 := [.int r4, .int r1]) X cv_L_48 (c_X10_back M.2.1 hc_6) rfl fM_0 rfl rfl (Nat.le_of_ble_eq_true rfl) ⟨⟨rfl, rfl⟩, by decide, by decide⟩ dL_law_412 rfl ?_
  refine lw_eq X 1299 dL_law_415 (by decide) h (fun h => ?_)
  exact lw_inc X hk σ2 τ5 x3 h
set_option maxRecDepth 100000 in
set_option maxHeartbeats 4000000 in
theorem t_law_8 {M : am_M} {D : va_G} {cT : Nat → ClassId} {adX adM : Nat → Nat} {b L : Nat} {xs : Nat → Int32} (X : lw_X M (D, cT, adX, NX, LX) (D, cT, adM, NM, LM) b L xs) {k : Sg → Sg → Int32 → Option Unit} (hk : ∀ (σ τ : Sg) (x3 : Int32), k σ τ x3 = some () → lw_J M (D, cT, adX, NX, LX) (D, cT, adM, NM, LM) b 18 [(0, .ref b), (1, .ref (adX 0)), (2, .ref (adM 0)), (3, .int x3)] [] σ τ) (σ τ : Sg) (x3 : Int32) (h : f_law_8 xs L k σ τ x3 = some ()) : lw_J M (D, cT, adX, NX, LX) (D, cT, adM, NM, LM) b 420 [(0, .ref b), (1, .ref (adX 0)), (2, .ref (adM 0)), (3, .int x3)] [] σ τ := by
  unfold f_law_8 at h
  refine lw_aload_n X dL_law_420 rfl 1 rfl ?_
  refine lw_aload_n X dL_law_421 rfl 0 rfl ?_
  refine lw_iload_n X dL_law_422 rfl 3 rfl ?_
  refine lw_iconst (v := 1) X dL_law_423 (by decide) ?_
  refine lw_iadd X dL_law_424 ?_
  refine lw_sld X dL_law_425 h (fun h => ?_)
  obtain ⟨r1, σ2, hc_3, h⟩ := bnd_of h
  refine lw_callX (c := 0) (As := [.int (xs ((x3 + (1 : Int32))).toNatClampNeg)]) (rest := []) (st2 := [.int r1]) X cv_L_49 (c_X9_read M.2.1 hc_3) rfl fX_0 rfl rfl (Nat.le_of_ble_eq_true rfl) ⟨⟨rfl, rfl⟩, by decide, by decide⟩ dL_law_426 rfl ?_
  refine lw_aload_n X dL_law_429 rfl 2 rfl ?_
  refine lw_aload_n X dL_law_430 rfl 0 rfl ?_
  refine lw_iload_n X dL_law_431 rfl 3 rfl ?_
  refine lw_iconst (v := 1) X dL_law_432 (by decide) ?_
  refine lw_iadd X dL_law_433 ?_
  refine lw_sld X dL_law_434 h (fun h => ?_)
  obtain ⟨r4, τ5, hc_6, h⟩ := bnd_of h
  refine lw_callM (c := 0) (As := [.int (xs ((x3 + (1 : Int32))).toNatClampNeg)]) (rest := [.int r1]) (st2 := [.int r4, .int r1]) X cv_L_52 (c_X10_read M.2.1 hc_6) rfl fM_0 rfl rfl (Nat.le_of_ble_eq_true rfl) ⟨⟨rfl, rfl⟩, by decide, by decide⟩ dL_law_435 rfl ?_
  refine lw_eq X 1299 dL_law_438 (by decide) h (fun h => ?_)
  exact lw_inc X hk σ2 τ5 x3 h
set_option maxRecDepth 100000 in
set_option maxHeartbeats 4000000 in
theorem t_law_9 {M : am_M} {D : va_G} {cT : Nat → ClassId} {adX adM : Nat → Nat} {b L : Nat} {xs : Nat → Int32} (X : lw_X M (D, cT, adX, NX, LX) (D, cT, adM, NM, LM) b L xs) {k : Sg → Sg → Int32 → Option Unit} (hk : ∀ (σ τ : Sg) (x3 : Int32), k σ τ x3 = some () → lw_J M (D, cT, adX, NX, LX) (D, cT, adM, NM, LM) b 18 [(0, .ref b), (1, .ref (adX 0)), (2, .ref (adM 0)), (3, .int x3)] [] σ τ) (σ τ : Sg) (x3 : Int32) (h : f_law_9 xs L k σ τ x3 = some ()) : lw_J M (D, cT, adX, NX, LX) (D, cT, adM, NM, LM) b 443 [(0, .ref b), (1, .ref (adX 0)), (2, .ref (adM 0)), (3, .int x3)] [] σ τ := by
  unfold f_law_9 at h
  refine lw_aload_n X dL_law_443 rfl 1 rfl ?_
  refine lw_aload_n X dL_law_444 rfl 0 rfl ?_
  refine lw_iload_n X dL_law_445 rfl 3 rfl ?_
  refine lw_iconst (v := 1) X dL_law_446 (by decide) ?_
  refine lw_iadd X dL_law_447 ?_
  refine lw_sld X dL_law_448 h (fun h => ?_)
  refine lw_aload_n X dL_law_449 rfl 0 rfl ?_
  refine lw_iload_n X dL_law_450 rfl 3 rfl ?_
  refine lw_iconst (v := 2) X dL_law_451 (by decide) ?_
  refine lw_iadd X dL_law_452 ?_
  refine lw_sld X dL_law_453 h (fun h => ?_)
  refine lw_aload_n X dL_law_454 rfl 0 rfl ?_
  refine lw_iload_n X dL_law_455 rfl 3 rfl ?_
  refine lw_iconst (v := 3) X dL_law_456 (by decide) ?_
  refine lw_iadd X dL_law_457 ?_
  refine lw_sld X dL_law_458 h (fun h => ?_)
  obtain ⟨r1, σ2, hc_3, h⟩ := bnd_of h
  refine lw_callX (c := 0) (As := [.int (xs ((x3 + (1 : Int32))).toNatClampNeg), .int (xs ((x3 + (2 : Int32))).toNatClampNeg), .int (xs ((x3 + (3 : Int32))).toNatClampNeg)]) (rest := []) (st2 := [.int r1]) X cv_L_53 (c_X9_at M.2.1 hc_3) rfl fX_0 rfl rfl (Nat.le_of_ble_eq_true rfl) ⟨⟨rfl, rfl⟩, by decide, by decide⟩ dL_law_459 rfl ?_
  refine lw_aload_n X dL_law_462 rfl 2 rfl ?_
  refine lw_aload_n X dL_law_463 rfl 0 rfl ?_
  refine lw_iload_n X dL_law_464 rfl 3 rfl ?_
  refine lw_iconst (v := 1) X dL_law_465 (by decide) ?_
  refine lw_iadd X dL_law_466 ?_
  refine lw_sld X dL_law_467 h (fun h => ?_)
  refine lw_aload_n X dL_law_468 rfl 0 rfl ?_
  refine lw_iload_n X dL_law_469 rfl 3 rfl ?_
  refine lw_iconst (v := 2) X dL_law_470 (by decide) ?_
  refine lw_iadd X dL_law_471 ?_
  refine lw_sld X dL_law_472 h (fun h => ?_)
  refine lw_aload_n X dL_law_473 rfl 0 rfl ?_
  refine lw_iload_n X dL_law_474 rfl 3 rfl ?_
  refine lw_iconst (v := 3) X dL_law_475 (by decide) ?_
  refine lw_iadd X dL_law_476 ?_
  refine lw_sld X dL_law_477 h (fun h => ?_)
  obtain ⟨r4, τ5, hc_6, h⟩ := bnd_of h
  refine lw_callM (c := 0) (As := [.int (xs ((x3 + (1 : Int32))).toNatClampNeg), .int (xs ((x3 + (2 : Int32))).toNatClampNeg), .int (xs ((x3 + (3 : Int32))).toNatClampNeg)]) (rest := [.int r1]) (st2 := [.int r4, .int r1]) X cv_L_56 (c_X10_at M.2.1 hc_6) rfl fM_0 rfl rfl (Nat.le_of_ble_eq_true rfl) ⟨⟨rfl, rfl⟩, by decide, by decide⟩ dL_law_478 rfl ?_
  refine lw_eq X 1299 dL_law_481 (by decide) h (fun h => ?_)
  exact lw_inc X hk σ2 τ5 x3 h
set_option maxRecDepth 100000 in
set_option maxHeartbeats 4000000 in
theorem t_law_10 {M : am_M} {D : va_G} {cT : Nat → ClassId} {adX adM : Nat → Nat} {b L : Nat} {xs : Nat → Int32} (X : lw_X M (D, cT, adX, NX, LX) (D, cT, adM, NM, LM) b L xs) {k : Sg → Sg → Int32 → Option Unit} (hk : ∀ (σ τ : Sg) (x3 : Int32), k σ τ x3 = some () → lw_J M (D, cT, adX, NX, LX) (D, cT, adM, NM, LM) b 18 [(0, .ref b), (1, .ref (adX 0)), (2, .ref (adM 0)), (3, .int x3)] [] σ τ) (σ τ : Sg) (x3 : Int32) (h : f_law_10 xs L k σ τ x3 = some ()) : lw_J M (D, cT, adX, NX, LX) (D, cT, adM, NM, LM) b 486 [(0, .ref b), (1, .ref (adX 0)), (2, .ref (adM 0)), (3, .int x3)] [] σ τ := by
  unfold f_law_10 at h
  refine lw_aload_n X dL_law_486 rfl 1 rfl ?_
  refine lw_aload_n X dL_law_487 rfl 0 rfl ?_
  refine lw_iload_n X dL_law_488 rfl 3 rfl ?_
  refine lw_iconst (v := 1) X dL_law_489 (by decide) ?_
  refine lw_iadd X dL_law_490 ?_
  refine lw_sld X dL_law_491 h (fun h => ?_)
  refine lw_aload_n X dL_law_492 rfl 0 rfl ?_
  refine lw_iload_n X dL_law_493 rfl 3 rfl ?_
  refine lw_iconst (v := 2) X dL_law_494 (by decide) ?_
  refine lw_iadd X dL_law_495 ?_
  refine lw_sld X dL_law_496 h (fun h => ?_)
  refine lw_aload_n X dL_law_497 rfl 0 rfl ?_
  refine lw_iload_n X dL_law_498 rfl 3 rfl ?_
  refine lw_iconst (v := 3) X dL_law_499 (by decide) ?_
  refine lw_iadd X dL_law_500 ?_
  refine lw_sld X dL_law_501 h (fun h => ?_)
  obtain ⟨r1, σ2, hc_3, h⟩ := bnd_of h
  refine lw_callX (c := 0) (As := [.int (xs ((x3 + (1 : Int32))).toNatClampNeg), .int (xs ((x3 + (2 : Int32))).toNatClampNeg), .int (xs ((x3 + (3 : Int32))).toNatClampNeg)]) (rest := []) (st2 := [.int r1]) X cv_L_57 (c_X9_field M.2.1 hc_3) rfl fX_0 rfl rfl (Nat.le_of_ble_eq_true rfl) ⟨⟨rfl, rfl⟩, by decide, by decide⟩ dL_law_502 rfl ?_
  refine lw_aload_n X dL_law_505 rfl 2 rfl ?_
  refine lw_aload_n X dL_law_506 rfl 0 rfl ?_
  refine lw_iload_n X dL_law_507 rfl 3 rfl ?_
  refine lw_iconst (v := 1) X dL_law_508 (by decide) ?_
  refine lw_iadd X dL_law_509 ?_
  refine lw_sld X dL_law_510 h (fun h => ?_)
  refine lw_aload_n X dL_law_511 rfl 0 rfl ?_
  refine lw_iload_n X dL_law_512 rfl 3 rfl ?_
  refine lw_iconst (v := 2) X dL_law_513 (by decide) ?_
  refine lw_iadd X dL_law_514 ?_
  refine lw_sld X dL_law_515 h (fun h => ?_)
  refine lw_aload_n X dL_law_516 rfl 0 rfl ?_
  refine lw_iload_n X dL_law_517 rfl 3 rfl ?_
  refine lw_iconst (v := 3) X dL_law_518 (by decide) ?_
  refine lw_iadd X dL_law_519 ?_
  refine lw_sld X dL_law_520 h (fun h => ?_)
  obtain ⟨r4, τ5, hc_6, h⟩ := bnd_of h
  refine lw_callM (c := 0) (As := [.int (xs ((x3 + (1 : Int32))).toNatClampNeg), .int (xs ((x3 + (2 : Int32))).toNatClampNeg), .int (xs ((x3 + (3 : Int32))).toNatClampNeg)]) (rest := [.int r1]) (st2 := [.int r4, .int r1]) X cv_L_60 (c_X10_field M.2.1 hc_6) rfl fM_0 rfl rfl (Nat.le_of_ble_eq_true rfl) ⟨⟨rfl, rfl⟩, by decide, by decide⟩ dL_law_521 rfl ?_
  refine lw_eq X 1299 dL_law_524 (by decide) h (fun h => ?_)
  exact lw_inc X hk σ2 τ5 x3 h
set_option maxRecDepth 100000 in
set_option maxHeartbeats 4000000 in
theorem t_law_11 {M : am_M} {D : va_G} {cT : Nat → ClassId} {adX adM : Nat → Nat} {b L : Nat} {xs : Nat → Int32} (X : lw_X M (D, cT, adX, NX, LX) (D, cT, adM, NM, LM) b L xs) {k : Sg → Sg → Int32 → Option Unit} (hk : ∀ (σ τ : Sg) (x3 : Int32), k σ τ x3 = some () → lw_J M (D, cT, adX, NX, LX) (D, cT, adM, NM, LM) b 18 [(0, .ref b), (1, .ref (adX 0)), (2, .ref (adM 0)), (3, .int x3)] [] σ τ) (σ τ : Sg) (x3 : Int32) (h : f_law_11 xs L k σ τ x3 = some ()) : lw_J M (D, cT, adX, NX, LX) (D, cT, adM, NM, LM) b 529 [(0, .ref b), (1, .ref (adX 0)), (2, .ref (adM 0)), (3, .int x3)] [] σ τ := by
  unfold f_law_11 at h
  refine lw_aload_n X dL_law_529 rfl 1 rfl ?_
  refine lw_aload_n X dL_law_530 rfl 0 rfl ?_
  refine lw_iload_n X dL_law_531 rfl 3 rfl ?_
  refine lw_iconst (v := 1) X dL_law_532 (by decide) ?_
  refine lw_iadd X dL_law_533 ?_
  refine lw_sld X dL_law_534 h (fun h => ?_)
  refine lw_aload_n X dL_law_535 rfl 0 rfl ?_
  refine lw_iload_n X dL_law_536 rfl 3 rfl ?_
  refine lw_iconst (v := 2) X dL_law_537 (by decide) ?_
  refine lw_iadd X dL_law_538 ?_
  refine lw_sld X dL_law_539 h (fun h => ?_)
  obtain ⟨r1, σ2, hc_3, h⟩ := bnd_of h
  refine lw_callX (c := 0) (As := [.int (xs ((x3 + (1 : Int32))).toNatClampNeg), .int (xs ((x3 + (2 : Int32))).toNatClampNeg)]) (rest := []) (st2 := [.int r1]) X cv_L_61 (c_X9_up M.2.1 hc_3) rfl fX_0 rfl rfl (Nat.le_of_ble_eq_true rfl) ⟨⟨rfl, rfl⟩, by decide, by decide⟩ dL_law_540 rfl ?_
  refine lw_aload_n X dL_law_543 rfl 2 rfl ?_
  refine lw_aload_n X dL_law_544 rfl 0 rfl ?_
  refine lw_iload_n X dL_law_545 rfl 3 rfl ?_
  refine lw_iconst (v := 1) X dL_law_546 (by decide) ?_
  refine lw_iadd X dL_law_547 ?_
  refine lw_sld X dL_law_548 h (fun h => ?_)
  refine lw_aload_n X dL_law_549 rfl 0 rfl ?_
  refine lw_iload_n X dL_law_550 rfl 3 rfl ?_
  refine lw_iconst (v := 2) X dL_law_551 (by decide) ?_
  refine lw_iadd X dL_law_552 ?_
  refine lw_sld X dL_law_553 h (fun h => ?_)
  obtain ⟨r4, τ5, hc_6, h⟩ := bnd_of h
  refine lw_callM (c := 0) (As := [.int (xs ((x3 + (1 : Int32))).toNatClampNeg), .int (xs ((x3 + (2 : Int32))).toNatClampNeg)]) (rest := [.int r1]) (st2 := [.int r4, .int r1]) X cv_L_64 (c_X10_up M.2.1 hc_6) rfl fM_0 rfl rfl (Nat.le_of_ble_eq_true rfl) ⟨⟨rfl, rfl⟩, by decide, by decide⟩ dL_law_554 rfl ?_
  refine lw_eq X 1299 dL_law_557 (by decide) h (fun h => ?_)
  exact lw_inc X hk σ2 τ5 x3 h
set_option maxRecDepth 100000 in
set_option maxHeartbeats 4000000 in
theorem t_law_12 {M : am_M} {D : va_G} {cT : Nat → ClassId} {adX adM : Nat → Nat} {b L : Nat} {xs : Nat → Int32} (X : lw_X M (D, cT, adX, NX, LX) (D, cT, adM, NM, LM) b L xs) {k : Sg → Sg → Int32 → Option Unit} (hk : ∀ (σ τ : Sg) (x3 : Int32), k σ τ x3 = some () → lw_J M (D, cT, adX, NX, LX) (D, cT, adM, NM, LM) b 18 [(0, .ref b), (1, .ref (adX 0)), (2, .ref (adM 0)), (3, .int x3)] [] σ τ) (σ τ : Sg) (x3 : Int32) (h : f_law_12 xs L k σ τ x3 = some ()) : lw_J M (D, cT, adX, NX, LX) (D, cT, adM, NM, LM) b 562 [(0, .ref b), (1, .ref (adX 0)), (2, .ref (adM 0)), (3, .int x3)] [] σ τ := by
  unfold f_law_12 at h
  refine lw_aload_n X dL_law_562 rfl 1 rfl ?_
  refine lw_aload_n X dL_law_563 rfl 0 rfl ?_
  refine lw_iload_n X dL_law_564 rfl 3 rfl ?_
  refine lw_iconst (v := 1) X dL_law_565 (by decide) ?_
  refine lw_iadd X dL_law_566 ?_
  refine lw_sld X dL_law_567 h (fun h => ?_)
  obtain ⟨r1, σ2, hc_3, h⟩ := bnd_of h
  refine lw_callX (c := 0) (As := [.int (xs ((x3 + (1 : Int32))).toNatClampNeg)]) (rest := []) (st2 := [.int r1]) X cv_L_65 (c_X9_met M.2.1 hc_3) rfl fX_0 rfl rfl (Nat.le_of_ble_eq_true rfl) ⟨⟨rfl, rfl⟩, by decide, by decide⟩ dL_law_568 rfl ?_
  refine lw_aload_n X dL_law_571 rfl 2 rfl ?_
  refine lw_aload_n X dL_law_572 rfl 0 rfl ?_
  refine lw_iload_n X dL_law_573 rfl 3 rfl ?_
  refine lw_iconst (v := 1) X dL_law_574 (by decide) ?_
  refine lw_iadd X dL_law_575 ?_
  refine lw_sld X dL_law_576 h (fun h => ?_)
  obtain ⟨r4, τ5, hc_6, h⟩ := bnd_of h
  refine lw_callM (c := 0) (As := [.int (xs ((x3 + (1 : Int32))).toNatClampNeg)]) (rest := [.int r1]) (st2 := [.int r4, .int r1]) X cv_L_68 (c_X10_met M.2.1 hc_6) rfl fM_0 rfl rfl (Nat.le_of_ble_eq_true rfl) ⟨⟨rfl, rfl⟩, by decide, by decide⟩ dL_law_577 rfl ?_
  refine lw_eq X 1299 dL_law_580 (by decide) h (fun h => ?_)
  exact lw_inc X hk σ2 τ5 x3 h
set_option maxRecDepth 100000 in
set_option maxHeartbeats 4000000 in
theorem t_law_13 {M : am_M} {D : va_G} {cT : Nat → ClassId} {adX adM : Nat → Nat} {b L : Nat} {xs : Nat → Int32} (X : lw_X M (D, cT, adX, NX, LX) (D, cT, adM, NM, LM) b L xs) {k : Sg → Sg → Int32 → Option Unit} (hk : ∀ (σ τ : Sg) (x3 : Int32), k σ τ x3 = some () → lw_J M (D, cT, adX, NX, LX) (D, cT, adM, NM, LM) b 18 [(0, .ref b), (1, .ref (adX 0)), (2, .ref (adM 0)), (3, .int x3)] [] σ τ) (σ τ : Sg) (x3 : Int32) (h : f_law_13 xs L k σ τ x3 = some ()) : lw_J M (D, cT, adX, NX, LX) (D, cT, adM, NM, LM) b 585 [(0, .ref b), (1, .ref (adX 0)), (2, .ref (adM 0)), (3, .int x3)] [] σ τ := by
  unfold f_law_13 at h
  refine lw_aload_n X dL_law_585 rfl 1 rfl ?_
  refine lw_aload_n X dL_law_586 rfl 0 rfl ?_
  refine lw_iload_n X dL_law_587 rfl 3 rfl ?_
  refine lw_iconst (v := 1) X dL_law_588 (by decide) ?_
  refine lw_iadd X dL_law_589 ?_
  refine lw_sld X dL_law_590 h (fun h => ?_)
  obtain ⟨r1, σ2, hc_3, h⟩ := bnd_of h
  refine lw_callX (c := 0) (As := [.int (xs ((x3 + (1 : Int32))).toNatClampNeg)]) (rest := []) (st2 := [.int r1]) X cv_L_69 (c_X9_stood M.2.1 hc_3) rfl fX_0 rfl rfl (Nat.le_of_ble_eq_true rfl) ⟨⟨rfl, rfl⟩, by decide, by decide⟩ dL_law_591 rfl ?_
  refine lw_aload_n X dL_law_594 rfl 2 rfl ?_
  refine lw_aload_n X dL_law_595 rfl 0 rfl ?_
  refine lw_iload_n X dL_law_596 rfl 3 rfl ?_
  refine lw_iconst (v := 1) X dL_law_597 (by decide) ?_
  refine lw_iadd X dL_law_598 ?_
  refine lw_sld X dL_law_599 h (fun h => ?_)
  obtain ⟨r4, τ5, hc_6, h⟩ := bnd_of h
  refine lw_callM (c := 0) (As := [.int (xs ((x3 + (1 : Int32))).toNatClampNeg)]) (rest := [.int r1]) (st2 := [.int r4, .int r1]) X cv_L_72 (c_X10_stood M.2.1 hc_6) rfl fM_0 rfl rfl (Nat.le_of_ble_eq_true rfl) ⟨⟨rfl, rfl⟩, by decide, by decide⟩ dL_law_600 rfl ?_
  refine lw_eq X 1299 dL_law_603 (by decide) h (fun h => ?_)
  exact lw_inc X hk σ2 τ5 x3 h
set_option maxRecDepth 100000 in
set_option maxHeartbeats 4000000 in
theorem t_law_14 {M : am_M} {D : va_G} {cT : Nat → ClassId} {adX adM : Nat → Nat} {b L : Nat} {xs : Nat → Int32} (X : lw_X M (D, cT, adX, NX, LX) (D, cT, adM, NM, LM) b L xs) {k : Sg → Sg → Int32 → Option Unit} (hk : ∀ (σ τ : Sg) (x3 : Int32), k σ τ x3 = some () → lw_J M (D, cT, adX, NX, LX) (D, cT, adM, NM, LM) b 18 [(0, .ref b), (1, .ref (adX 0)), (2, .ref (adM 0)), (3, .int x3)] [] σ τ) (σ τ : Sg) (x3 : Int32) (h : f_law_14 xs L k σ τ x3 = some ()) : lw_J M (D, cT, adX, NX, LX) (D, cT, adM, NM, LM) b 608 [(0, .ref b), (1, .ref (adX 0)), (2, .ref (adM 0)), (3, .int x3)] [] σ τ := by
  unfold f_law_14 at h
  refine lw_aload_n X dL_law_608 rfl 1 rfl ?_
  obtain ⟨r1, σ2, hc_3, h⟩ := bnd_of h
  refine lw_callX (c := 0) (As := []) (rest := []) (st2 := [.int r1]) X cv_L_73 (c_X9_wrongly M.2.1 hc_3) rfl fX_0 rfl rfl (Nat.le_of_ble_eq_true rfl) ⟨⟨rfl, rfl⟩, by decide, by decide⟩ dL_law_609 rfl ?_
  refine lw_aload_n X dL_law_612 rfl 2 rfl ?_
  obtain ⟨r4, τ5, hc_6, h⟩ := bnd_of h
  refine lw_callM (c := 0) (As := []) (rest := [.int r1]) (st2 := [.int r4, .int r1]) X cv_L_76 (c_X10_wrongly M.2.1 hc_6) rfl fM_0 rfl rfl (Nat.le_of_ble_eq_true rfl) ⟨⟨rfl, rfl⟩, by decide, by decide⟩ dL_law_613 rfl ?_
  refine lw_eq X 1299 dL_law_616 (by decide) h (fun h => ?_)
  exact lw_inc X hk σ2 τ5 x3 h
set_option maxRecDepth 100000 in
set_option maxHeartbeats 4000000 in
theorem t_law_15 {M : am_M} {D : va_G} {cT : Nat → ClassId} {adX adM : Nat → Nat} {b L : Nat} {xs : Nat → Int32} (X : lw_X M (D, cT, adX, NX, LX) (D, cT, adM, NM, LM) b L xs) {k : Sg → Sg → Int32 → Option Unit} (hk : ∀ (σ τ : Sg) (x3 : Int32), k σ τ x3 = some () → lw_J M (D, cT, adX, NX, LX) (D, cT, adM, NM, LM) b 18 [(0, .ref b), (1, .ref (adX 0)), (2, .ref (adM 0)), (3, .int x3)] [] σ τ) (σ τ : Sg) (x3 : Int32) (h : f_law_15 xs L k σ τ x3 = some ()) : lw_J M (D, cT, adX, NX, LX) (D, cT, adM, NM, LM) b 621 [(0, .ref b), (1, .ref (adX 0)), (2, .ref (adM 0)), (3, .int x3)] [] σ τ := by
  unfold f_law_15 at h
  refine lw_aload_n X dL_law_621 rfl 1 rfl ?_
  refine lw_aload_n X dL_law_622 rfl 0 rfl ?_
  refine lw_iload_n X dL_law_623 rfl 3 rfl ?_
  refine lw_iconst (v := 1) X dL_law_624 (by decide) ?_
  refine lw_iadd X dL_law_625 ?_
  refine lw_sld X dL_law_626 h (fun h => ?_)
  obtain ⟨r1, σ2, hc_3, h⟩ := bnd_of h
  refine lw_callX (c := 0) (As := [.int (xs ((x3 + (1 : Int32))).toNatClampNeg)]) (rest := []) (st2 := [.int r1]) X cv_L_77 (c_X9_first M.2.1 hc_3) rfl fX_0 rfl rfl (Nat.le_of_ble_eq_true rfl) ⟨⟨rfl, rfl⟩, by decide, by decide⟩ dL_law_627 rfl ?_
  refine lw_aload_n X dL_law_630 rfl 2 rfl ?_
  refine lw_aload_n X dL_law_631 rfl 0 rfl ?_
  refine lw_iload_n X dL_law_632 rfl 3 rfl ?_
  refine lw_iconst (v := 1) X dL_law_633 (by decide) ?_
  refine lw_iadd X dL_law_634 ?_
  refine lw_sld X dL_law_635 h (fun h => ?_)
  obtain ⟨r4, τ5, hc_6, h⟩ := bnd_of h
  refine lw_callM (c := 0) (As := [.int (xs ((x3 + (1 : Int32))).toNatClampNeg)]) (rest := [.int r1]) (st2 := [.int r4, .int r1]) X cv_L_80 (c_X10_first M.2.1 hc_6) rfl fM_0 rfl rfl (Nat.le_of_ble_eq_true rfl) ⟨⟨rfl, rfl⟩, by decide, by decide⟩ dL_law_636 rfl ?_
  refine lw_eq X 1299 dL_law_639 (by decide) h (fun h => ?_)
  exact lw_inc X hk σ2 τ5 x3 h
set_option maxRecDepth 100000 in
set_option maxHeartbeats 4000000 in
theorem t_law_16 {M : am_M} {D : va_G} {cT : Nat → ClassId} {adX adM : Nat → Nat} {b L : Nat} {xs : Nat → Int32} (X : lw_X M (D, cT, adX, NX, LX) (D, cT, adM, NM, LM) b L xs) {k : Sg → Sg → Int32 → Option Unit} (hk : ∀ (σ τ : Sg) (x3 : Int32), k σ τ x3 = some () → lw_J M (D, cT, adX, NX, LX) (D, cT, adM, NM, LM) b 18 [(0, .ref b), (1, .ref (adX 0)), (2, .ref (adM 0)), (3, .int x3)] [] σ τ) (σ τ : Sg) (x3 : Int32) (h : f_law_16 xs L k σ τ x3 = some ()) : lw_J M (D, cT, adX, NX, LX) (D, cT, adM, NM, LM) b 644 [(0, .ref b), (1, .ref (adX 0)), (2, .ref (adM 0)), (3, .int x3)] [] σ τ := by
  unfold f_law_16 at h
  refine lw_aload_n X dL_law_644 rfl 1 rfl ?_
  obtain ⟨r1, σ2, hc_3, h⟩ := bnd_of h
  refine lw_callX (c := 0) (As := []) (rest := []) (st2 := [.int r1]) X cv_L_81 (c_X9_gate M.2.1 hc_3) rfl fX_0 rfl rfl (Nat.le_of_ble_eq_true rfl) ⟨⟨rfl, rfl⟩, by decide, by decide⟩ dL_law_645 rfl ?_
  refine lw_aload_n X dL_law_648 rfl 2 rfl ?_
  obtain ⟨r4, τ5, hc_6, h⟩ := bnd_of h
  refine lw_callM (c := 0) (As := []) (rest := [.int r1]) (st2 := [.int r4, .int r1]) X cv_L_84 (c_X10_gate M.2.1 hc_6) rfl fM_0 rfl rfl (Nat.le_of_ble_eq_true rfl) ⟨⟨rfl, rfl⟩, by decide, by decide⟩ dL_law_649 rfl ?_
  refine lw_eq X 1299 dL_law_652 (by decide) h (fun h => ?_)
  exact lw_inc X hk σ2 τ5 x3 h
set_option maxRecDepth 100000 in
set_option maxHeartbeats 4000000 in
theorem t_law_17 {M : am_M} {D : va_G} {cT : Nat → ClassId} {adX adM : Nat → Nat} {b L : Nat} {xs : Nat → Int32} (X : lw_X M (D, cT, adX, NX, LX) (D, cT, adM, NM, LM) b L xs) {k : Sg → Sg → Int32 → Option Unit} (hk : ∀ (σ τ : Sg) (x3 : Int32), k σ τ x3 = some () → lw_J M (D, cT, adX, NX, LX) (D, cT, adM, NM, LM) b 18 [(0, .ref b), (1, .ref (adX 0)), (2, .ref (adM 0)), (3, .int x3)] [] σ τ) (σ τ : Sg) (x3 : Int32) (h : f_law_17 xs L k σ τ x3 = some ()) : lw_J M (D, cT, adX, NX, LX) (D, cT, adM, NM, LM) b 657 [(0, .ref b), (1, .ref (adX 0)), (2, .ref (adM 0)), (3, .int x3)] [] σ τ := by
  unfold f_law_17 at h
  refine lw_aload_n X dL_law_657 rfl 1 rfl ?_
  obtain ⟨r1, σ2, hc_3, h⟩ := bnd_of h
  refine lw_callX (c := 0) (As := []) (rest := []) (st2 := [.int r1]) X cv_L_85 (c_X9_rest M.2.1 hc_3) rfl fX_0 rfl rfl (Nat.le_of_ble_eq_true rfl) ⟨⟨rfl, rfl⟩, by decide, by decide⟩ dL_law_658 rfl ?_
  refine lw_aload_n X dL_law_661 rfl 2 rfl ?_
  obtain ⟨r4, τ5, hc_6, h⟩ := bnd_of h
  refine lw_callM (c := 0) (As := []) (rest := [.int r1]) (st2 := [.int r4, .int r1]) X cv_L_88 (c_X10_rest M.2.1 hc_6) rfl fM_0 rfl rfl (Nat.le_of_ble_eq_true rfl) ⟨⟨rfl, rfl⟩, by decide, by decide⟩ dL_law_662 rfl ?_
  refine lw_eq X 1299 dL_law_665 (by decide) h (fun h => ?_)
  exact lw_inc X hk σ2 τ5 x3 h
set_option maxRecDepth 100000 in
set_option maxHeartbeats 4000000 in
theorem t_law_18 {M : am_M} {D : va_G} {cT : Nat → ClassId} {adX adM : Nat → Nat} {b L : Nat} {xs : Nat → Int32} (X : lw_X M (D, cT, adX, NX, LX) (D, cT, adM, NM, LM) b L xs) {k : Sg → Sg → Int32 → Option Unit} (hk : ∀ (σ τ : Sg) (x3 : Int32), k σ τ x3 = some () → lw_J M (D, cT, adX, NX, LX) (D, cT, adM, NM, LM) b 18 [(0, .ref b), (1, .ref (adX 0)), (2, .ref (adM 0)), (3, .int x3)] [] σ τ) (σ τ : Sg) (x3 : Int32) (h : f_law_18 xs L k σ τ x3 = some ()) : lw_J M (D, cT, adX, NX, LX) (D, cT, adM, NM, LM) b 670 [(0, .ref b), (1, .ref (adX 0)), (2, .ref (adM 0)), (3, .int x3)] [] σ τ := by
  unfold f_law_18 at h
  refine lw_aload_n X dL_law_670 rfl 1 rfl ?_
  refine lw_aload_n X dL_law_671 rfl 0 rfl ?_
  refine lw_iload_n X dL_law_672 rfl 3 rfl ?_
  refine lw_iconst (v := 1) X dL_law_673 (by decide) ?_
  refine lw_iadd X dL_law_674 ?_
  refine lw_sld X dL_law_675 h (fun h => ?_)
  refine lw_aload_n X dL_law_676 rfl 0 rfl ?_
  refine lw_iload_n X dL_law_677 rfl 3 rfl ?_
  refine lw_iconst (v := 2) X dL_law_678 (by decide) ?_
  refine lw_iadd X dL_law_679 ?_
  refine lw_sld X dL_law_680 h (fun h => ?_)
  obtain ⟨r1, σ2, hc_3, h⟩ := bnd_of h
  refine lw_callX (c := 0) (As := [.int (xs ((x3 + (1 : Int32))).toNatClampNeg), .int (xs ((x3 + (2 : Int32))).toNatClampNeg)]) (rest := []) (st2 := [.int r1]) X cv_L_89 (c_X9_plough M.2.1 hc_3) rfl fX_0 rfl rfl (Nat.le_of_ble_eq_true rfl) ⟨⟨rfl, rfl⟩, by decide, by decide⟩ dL_law_681 rfl ?_
  refine lw_aload_n X dL_law_684 rfl 2 rfl ?_
  refine lw_aload_n X dL_law_685 rfl 0 rfl ?_
  refine lw_iload_n X dL_law_686 rfl 3 rfl ?_
  refine lw_iconst (v := 1) X dL_law_687 (by decide) ?_
  refine lw_iadd X dL_law_688 ?_
  refine lw_sld X dL_law_689 h (fun h => ?_)
  refine lw_aload_n X dL_law_690 rfl 0 rfl ?_
  refine lw_iload_n X dL_law_691 rfl 3 rfl ?_
  refine lw_iconst (v := 2) X dL_law_692 (by decide) ?_
  refine lw_iadd X dL_law_693 ?_
  refine lw_sld X dL_law_694 h (fun h => ?_)
  obtain ⟨r4, τ5, hc_6, h⟩ := bnd_of h
  refine lw_callM (c := 0) (As := [.int (xs ((x3 + (1 : Int32))).toNatClampNeg), .int (xs ((x3 + (2 : Int32))).toNatClampNeg)]) (rest := [.int r1]) (st2 := [.int r4, .int r1]) X cv_L_92 (c_X10_plough M.2.1 hc_6) rfl fM_0 rfl rfl (Nat.le_of_ble_eq_true rfl) ⟨⟨rfl, rfl⟩, by decide, by decide⟩ dL_law_695 rfl ?_
  refine lw_eq X 1299 dL_law_698 (by decide) h (fun h => ?_)
  exact lw_inc X hk σ2 τ5 x3 h
set_option maxRecDepth 100000 in
set_option maxHeartbeats 4000000 in
theorem t_law_19 {M : am_M} {D : va_G} {cT : Nat → ClassId} {adX adM : Nat → Nat} {b L : Nat} {xs : Nat → Int32} (X : lw_X M (D, cT, adX, NX, LX) (D, cT, adM, NM, LM) b L xs) {k : Sg → Sg → Int32 → Option Unit} (hk : ∀ (σ τ : Sg) (x3 : Int32), k σ τ x3 = some () → lw_J M (D, cT, adX, NX, LX) (D, cT, adM, NM, LM) b 18 [(0, .ref b), (1, .ref (adX 0)), (2, .ref (adM 0)), (3, .int x3)] [] σ τ) (σ τ : Sg) (x3 : Int32) (h : f_law_19 xs L k σ τ x3 = some ()) : lw_J M (D, cT, adX, NX, LX) (D, cT, adM, NM, LM) b 703 [(0, .ref b), (1, .ref (adX 0)), (2, .ref (adM 0)), (3, .int x3)] [] σ τ := by
  unfold f_law_19 at h
  refine lw_aload_n X dL_law_703 rfl 1 rfl ?_
  refine lw_aload_n X dL_law_704 rfl 0 rfl ?_
  refine lw_iload_n X dL_law_705 rfl 3 rfl ?_
  refine lw_iconst (v := 1) X dL_law_706 (by decide) ?_
  refine lw_iadd X dL_law_707 ?_
  refine lw_sld X dL_law_708 h (fun h => ?_)
  refine lw_aload_n X dL_law_709 rfl 0 rfl ?_
  refine lw_iload_n X dL_law_710 rfl 3 rfl ?_
  refine lw_iconst (v := 2) X dL_law_711 (by decide) ?_
  refine lw_iadd X dL_law_712 ?_
  refine lw_sld X dL_law_713 h (fun h => ?_)
  obtain ⟨r1, σ2, hc_3, h⟩ := bnd_of h
  refine lw_callX (c := 0) (As := [.int (xs ((x3 + (1 : Int32))).toNatClampNeg), .int (xs ((x3 + (2 : Int32))).toNatClampNeg)]) (rest := []) (st2 := [.int r1]) X cv_L_93 (c_X9_lie M.2.1 hc_3) rfl fX_0 rfl rfl (Nat.le_of_ble_eq_true rfl) ⟨⟨rfl, rfl⟩, by decide, by decide⟩ dL_law_714 rfl ?_
  refine lw_aload_n X dL_law_717 rfl 2 rfl ?_
  refine lw_aload_n X dL_law_718 rfl 0 rfl ?_
  refine lw_iload_n X dL_law_719 rfl 3 rfl ?_
  refine lw_iconst (v := 1) X dL_law_720 (by decide) ?_
  refine lw_iadd X dL_law_721 ?_
  refine lw_sld X dL_law_722 h (fun h => ?_)
  refine lw_aload_n X dL_law_723 rfl 0 rfl ?_
  refine lw_iload_n X dL_law_724 rfl 3 rfl ?_
  refine lw_iconst (v := 2) X dL_law_725 (by decide) ?_
  refine lw_iadd X dL_law_726 ?_
  refine lw_sld X dL_law_727 h (fun h => ?_)
  obtain ⟨r4, τ5, hc_6, h⟩ := bnd_of h
  refine lw_callM (c := 0) (As := [.int (xs ((x3 + (1 : Int32))).toNatClampNeg), .int (xs ((x3 + (2 : Int32))).toNatClampNeg)]) (rest := [.int r1]) (st2 := [.int r4, .int r1]) X cv_L_96 (c_X10_lie M.2.1 hc_6) rfl fM_0 rfl rfl (Nat.le_of_ble_eq_true rfl) ⟨⟨rfl, rfl⟩, by decide, by decide⟩ dL_law_728 rfl ?_
  refine lw_eq X 1299 dL_law_731 (by decide) h (fun h => ?_)
  exact lw_inc X hk σ2 τ5 x3 h
set_option maxRecDepth 100000 in
set_option maxHeartbeats 4000000 in
theorem t_law_20 {M : am_M} {D : va_G} {cT : Nat → ClassId} {adX adM : Nat → Nat} {b L : Nat} {xs : Nat → Int32} (X : lw_X M (D, cT, adX, NX, LX) (D, cT, adM, NM, LM) b L xs) {k : Sg → Sg → Int32 → Option Unit} (hk : ∀ (σ τ : Sg) (x3 : Int32), k σ τ x3 = some () → lw_J M (D, cT, adX, NX, LX) (D, cT, adM, NM, LM) b 18 [(0, .ref b), (1, .ref (adX 0)), (2, .ref (adM 0)), (3, .int x3)] [] σ τ) (σ τ : Sg) (x3 : Int32) (h : f_law_20 xs L k σ τ x3 = some ()) : lw_J M (D, cT, adX, NX, LX) (D, cT, adM, NM, LM) b 736 [(0, .ref b), (1, .ref (adX 0)), (2, .ref (adM 0)), (3, .int x3)] [] σ τ := by
  unfold f_law_20 at h
  refine lw_aload_n X dL_law_736 rfl 1 rfl ?_
  refine lw_aload_n X dL_law_737 rfl 0 rfl ?_
  refine lw_iload_n X dL_law_738 rfl 3 rfl ?_
  refine lw_iconst (v := 1) X dL_law_739 (by decide) ?_
  refine lw_iadd X dL_law_740 ?_
  refine lw_sld X dL_law_741 h (fun h => ?_)
  refine lw_aload_n X dL_law_742 rfl 0 rfl ?_
  refine lw_iload_n X dL_law_743 rfl 3 rfl ?_
  refine lw_iconst (v := 2) X dL_law_744 (by decide) ?_
  refine lw_iadd X dL_law_745 ?_
  refine lw_sld X dL_law_746 h (fun h => ?_)
  obtain ⟨r1, σ2, hc_3, h⟩ := bnd_of h
  refine lw_callX (c := 0) (As := [.int (xs ((x3 + (1 : Int32))).toNatClampNeg), .int (xs ((x3 + (2 : Int32))).toNatClampNeg)]) (rest := []) (st2 := [.int r1]) X cv_L_97 (c_X9_when M.2.1 hc_3) rfl fX_0 rfl rfl (Nat.le_of_ble_eq_true rfl) ⟨⟨rfl, rfl⟩, by decide, by decide⟩ dL_law_747 rfl ?_
  refine lw_aload_n X dL_law_750 rfl 2 rfl ?_
  refine lw_aload_n X dL_law_751 rfl 0 rfl ?_
  refine lw_iload_n X dL_law_752 rfl 3 rfl ?_
  refine lw_iconst (v := 1) X dL_law_753 (by decide) ?_
  refine lw_iadd X dL_law_754 ?_
  refine lw_sld X dL_law_755 h (fun h => ?_)
  refine lw_aload_n X dL_law_756 rfl 0 rfl ?_
  refine lw_iload_n X dL_law_757 rfl 3 rfl ?_
  refine lw_iconst (v := 2) X dL_law_758 (by decide) ?_
  refine lw_iadd X dL_law_759 ?_
  refine lw_sld X dL_law_760 h (fun h => ?_)
  obtain ⟨r4, τ5, hc_6, h⟩ := bnd_of h
  refine lw_callM (c := 0) (As := [.int (xs ((x3 + (1 : Int32))).toNatClampNeg), .int (xs ((x3 + (2 : Int32))).toNatClampNeg)]) (rest := [.int r1]) (st2 := [.int r4, .int r1]) X cv_L_100 (c_X10_when M.2.1 hc_6) rfl fM_0 rfl rfl (Nat.le_of_ble_eq_true rfl) ⟨⟨rfl, rfl⟩, by decide, by decide⟩ dL_law_761 rfl ?_
  refine lw_eq X 1299 dL_law_764 (by decide) h (fun h => ?_)
  exact lw_inc X hk σ2 τ5 x3 h
set_option maxRecDepth 100000 in
set_option maxHeartbeats 4000000 in
theorem t_law_21 {M : am_M} {D : va_G} {cT : Nat → ClassId} {adX adM : Nat → Nat} {b L : Nat} {xs : Nat → Int32} (X : lw_X M (D, cT, adX, NX, LX) (D, cT, adM, NM, LM) b L xs) {k : Sg → Sg → Int32 → Option Unit} (hk : ∀ (σ τ : Sg) (x3 : Int32), k σ τ x3 = some () → lw_J M (D, cT, adX, NX, LX) (D, cT, adM, NM, LM) b 18 [(0, .ref b), (1, .ref (adX 0)), (2, .ref (adM 0)), (3, .int x3)] [] σ τ) (σ τ : Sg) (x3 : Int32) (h : f_law_21 xs L k σ τ x3 = some ()) : lw_J M (D, cT, adX, NX, LX) (D, cT, adM, NM, LM) b 769 [(0, .ref b), (1, .ref (adX 0)), (2, .ref (adM 0)), (3, .int x3)] [] σ τ := by
  unfold f_law_21 at h
  refine lw_aload_n X dL_law_769 rfl 1 rfl ?_
  refine lw_aload_n X dL_law_770 rfl 0 rfl ?_
  refine lw_iload_n X dL_law_771 rfl 3 rfl ?_
  refine lw_iconst (v := 1) X dL_law_772 (by decide) ?_
  refine lw_iadd X dL_law_773 ?_
  refine lw_sld X dL_law_774 h (fun h => ?_)
  obtain ⟨r1, σ2, hc_3, h⟩ := bnd_of h
  refine lw_callX (c := 0) (As := [.int (xs ((x3 + (1 : Int32))).toNatClampNeg)]) (rest := []) (st2 := [.int r1]) X cv_L_101 (c_X9_spare M.2.1 hc_3) rfl fX_0 rfl rfl (Nat.le_of_ble_eq_true rfl) ⟨⟨rfl, rfl⟩, by decide, by decide⟩ dL_law_775 rfl ?_
  refine lw_aload_n X dL_law_778 rfl 2 rfl ?_
  refine lw_aload_n X dL_law_779 rfl 0 rfl ?_
  refine lw_iload_n X dL_law_780 rfl 3 rfl ?_
  refine lw_iconst (v := 1) X dL_law_781 (by decide) ?_
  refine lw_iadd X dL_law_782 ?_
  refine lw_sld X dL_law_783 h (fun h => ?_)
  obtain ⟨r4, τ5, hc_6, h⟩ := bnd_of h
  refine lw_callM (c := 0) (As := [.int (xs ((x3 + (1 : Int32))).toNatClampNeg)]) (rest := [.int r1]) (st2 := [.int r4, .int r1]) X cv_L_104 (c_X10_spare M.2.1 hc_6) rfl fM_0 rfl rfl (Nat.le_of_ble_eq_true rfl) ⟨⟨rfl, rfl⟩, by decide, by decide⟩ dL_law_784 rfl ?_
  refine lw_eq X 1299 dL_law_787 (by decide) h (fun h => ?_)
  exact lw_inc X hk σ2 τ5 x3 h
set_option maxRecDepth 100000 in
set_option maxHeartbeats 4000000 in
theorem t_law_22 {M : am_M} {D : va_G} {cT : Nat → ClassId} {adX adM : Nat → Nat} {b L : Nat} {xs : Nat → Int32} (X : lw_X M (D, cT, adX, NX, LX) (D, cT, adM, NM, LM) b L xs) {k : Sg → Sg → Int32 → Option Unit} (hk : ∀ (σ τ : Sg) (x3 : Int32), k σ τ x3 = some () → lw_J M (D, cT, adX, NX, LX) (D, cT, adM, NM, LM) b 18 [(0, .ref b), (1, .ref (adX 0)), (2, .ref (adM 0)), (3, .int x3)] [] σ τ) (σ τ : Sg) (x3 : Int32) (h : f_law_22 xs L k σ τ x3 = some ()) : lw_J M (D, cT, adX, NX, LX) (D, cT, adM, NM, LM) b 792 [(0, .ref b), (1, .ref (adX 0)), (2, .ref (adM 0)), (3, .int x3)] [] σ τ := by
  unfold f_law_22 at h
  refine lw_aload_n X dL_law_792 rfl 1 rfl ?_
  refine lw_aload_n X dL_law_793 rfl 0 rfl ?_
  refine lw_iload_n X dL_law_794 rfl 3 rfl ?_
  refine lw_iconst (v := 1) X dL_law_795 (by decide) ?_
  refine lw_iadd X dL_law_796 ?_
  refine lw_sld X dL_law_797 h (fun h => ?_)
  refine lw_aload_n X dL_law_798 rfl 0 rfl ?_
  refine lw_iload_n X dL_law_799 rfl 3 rfl ?_
  refine lw_iconst (v := 2) X dL_law_800 (by decide) ?_
  refine lw_iadd X dL_law_801 ?_
  refine lw_sld X dL_law_802 h (fun h => ?_)
  refine lw_aload_n X dL_law_803 rfl 0 rfl ?_
  refine lw_iload_n X dL_law_804 rfl 3 rfl ?_
  refine lw_iconst (v := 3) X dL_law_805 (by decide) ?_
  refine lw_iadd X dL_law_806 ?_
  refine lw_sld X dL_law_807 h (fun h => ?_)
  obtain ⟨r1, σ2, hc_3, h⟩ := bnd_of h
  refine lw_callX (c := 0) (As := [.int (xs ((x3 + (1 : Int32))).toNatClampNeg), .int (xs ((x3 + (2 : Int32))).toNatClampNeg), .int (xs ((x3 + (3 : Int32))).toNatClampNeg)]) (rest := []) (st2 := [.int r1]) X cv_L_105 (c_X9_seen M.2.1 hc_3) rfl fX_0 rfl rfl (Nat.le_of_ble_eq_true rfl) ⟨⟨rfl, rfl⟩, by decide, by decide⟩ dL_law_808 rfl ?_
  refine lw_aload_n X dL_law_811 rfl 2 rfl ?_
  refine lw_aload_n X dL_law_812 rfl 0 rfl ?_
  refine lw_iload_n X dL_law_813 rfl 3 rfl ?_
  refine lw_iconst (v := 1) X dL_law_814 (by decide) ?_
  refine lw_iadd X dL_law_815 ?_
  refine lw_sld X dL_law_816 h (fun h => ?_)
  refine lw_aload_n X dL_law_817 rfl 0 rfl ?_
  refine lw_iload_n X dL_law_818 rfl 3 rfl ?_
  refine lw_iconst (v := 2) X dL_law_819 (by decide) ?_
  refine lw_iadd X dL_law_820 ?_
  refine lw_sld X dL_law_821 h (fun h => ?_)
  refine lw_aload_n X dL_law_822 rfl 0 rfl ?_
  refine lw_iload_n X dL_law_823 rfl 3 rfl ?_
  refine lw_iconst (v := 3) X dL_law_824 (by decide) ?_
  refine lw_iadd X dL_law_825 ?_
  refine lw_sld X dL_law_826 h (fun h => ?_)
  obtain ⟨r4, τ5, hc_6, h⟩ := bnd_of h
  refine lw_callM (c := 0) (As := [.int (xs ((x3 + (1 : Int32))).toNatClampNeg), .int (xs ((x3 + (2 : Int32))).toNatClampNeg), .int (xs ((x3 + (3 : Int32))).toNatClampNeg)]) (rest := [.int r1]) (st2 := [.int r4, .int r1]) X cv_L_108 (c_X10_seen M.2.1 hc_6) rfl fM_0 rfl rfl (Nat.le_of_ble_eq_true rfl) ⟨⟨rfl, rfl⟩, by decide, by decide⟩ dL_law_827 rfl ?_
  refine lw_eq X 1299 dL_law_830 (by decide) h (fun h => ?_)
  exact lw_inc X hk σ2 τ5 x3 h
set_option maxRecDepth 100000 in
set_option maxHeartbeats 4000000 in
theorem t_law_23 {M : am_M} {D : va_G} {cT : Nat → ClassId} {adX adM : Nat → Nat} {b L : Nat} {xs : Nat → Int32} (X : lw_X M (D, cT, adX, NX, LX) (D, cT, adM, NM, LM) b L xs) {k : Sg → Sg → Int32 → Option Unit} (hk : ∀ (σ τ : Sg) (x3 : Int32), k σ τ x3 = some () → lw_J M (D, cT, adX, NX, LX) (D, cT, adM, NM, LM) b 18 [(0, .ref b), (1, .ref (adX 0)), (2, .ref (adM 0)), (3, .int x3)] [] σ τ) (σ τ : Sg) (x3 : Int32) (h : f_law_23 xs L k σ τ x3 = some ()) : lw_J M (D, cT, adX, NX, LX) (D, cT, adM, NM, LM) b 835 [(0, .ref b), (1, .ref (adX 0)), (2, .ref (adM 0)), (3, .int x3)] [] σ τ := by
  unfold f_law_23 at h
  refine lw_aload_n X dL_law_835 rfl 1 rfl ?_
  obtain ⟨r1, σ2, hc_3, h⟩ := bnd_of h
  refine lw_callX (c := 0) (As := []) (rest := []) (st2 := [.int r1]) X cv_L_109 (c_X9_forget M.2.1 hc_3) rfl fX_0 rfl rfl (Nat.le_of_ble_eq_true rfl) ⟨⟨rfl, rfl⟩, by decide, by decide⟩ dL_law_836 rfl ?_
  refine lw_aload_n X dL_law_839 rfl 2 rfl ?_
  obtain ⟨r4, τ5, hc_6, h⟩ := bnd_of h
  refine lw_callM (c := 0) (As := []) (rest := [.int r1]) (st2 := [.int r4, .int r1]) X cv_L_112 (c_X10_forget M.2.1 hc_6) rfl fM_0 rfl rfl (Nat.le_of_ble_eq_true rfl) ⟨⟨rfl, rfl⟩, by decide, by decide⟩ dL_law_840 rfl ?_
  refine lw_eq X 1299 dL_law_843 (by decide) h (fun h => ?_)
  exact lw_inc X hk σ2 τ5 x3 h
set_option maxRecDepth 100000 in
set_option maxHeartbeats 4000000 in
theorem t_law_24 {M : am_M} {D : va_G} {cT : Nat → ClassId} {adX adM : Nat → Nat} {b L : Nat} {xs : Nat → Int32} (X : lw_X M (D, cT, adX, NX, LX) (D, cT, adM, NM, LM) b L xs) {k : Sg → Sg → Int32 → Option Unit} (hk : ∀ (σ τ : Sg) (x3 : Int32), k σ τ x3 = some () → lw_J M (D, cT, adX, NX, LX) (D, cT, adM, NM, LM) b 18 [(0, .ref b), (1, .ref (adX 0)), (2, .ref (adM 0)), (3, .int x3)] [] σ τ) (σ τ : Sg) (x3 : Int32) (h : f_law_24 xs L k σ τ x3 = some ()) : lw_J M (D, cT, adX, NX, LX) (D, cT, adM, NM, LM) b 848 [(0, .ref b), (1, .ref (adX 0)), (2, .ref (adM 0)), (3, .int x3)] [] σ τ := by
  unfold f_law_24 at h
  refine lw_aload_n X dL_law_848 rfl 1 rfl ?_
  obtain ⟨r1, σ2, hc_3, h⟩ := bnd_of h
  refine lw_callX (c := 0) (As := []) (rest := []) (st2 := [.int r1]) X cv_L_113 (c_X9_never M.2.1 hc_3) rfl fX_0 rfl rfl (Nat.le_of_ble_eq_true rfl) ⟨⟨rfl, rfl⟩, by decide, by decide⟩ dL_law_849 rfl ?_
  refine lw_aload_n X dL_law_852 rfl 2 rfl ?_
  obtain ⟨r4, τ5, hc_6, h⟩ := bnd_of h
  refine lw_callM (c := 0) (As := []) (rest := [.int r1]) (st2 := [.int r4, .int r1]) X cv_L_116 (c_X10_never M.2.1 hc_6) rfl fM_0 rfl rfl (Nat.le_of_ble_eq_true rfl) ⟨⟨rfl, rfl⟩, by decide, by decide⟩ dL_law_853 rfl ?_
  refine lw_eq X 1299 dL_law_856 (by decide) h (fun h => ?_)
  exact lw_inc X hk σ2 τ5 x3 h
set_option maxRecDepth 100000 in
set_option maxHeartbeats 4000000 in
theorem t_law_25 {M : am_M} {D : va_G} {cT : Nat → ClassId} {adX adM : Nat → Nat} {b L : Nat} {xs : Nat → Int32} (X : lw_X M (D, cT, adX, NX, LX) (D, cT, adM, NM, LM) b L xs) {k : Sg → Sg → Int32 → Option Unit} (hk : ∀ (σ τ : Sg) (x3 : Int32), k σ τ x3 = some () → lw_J M (D, cT, adX, NX, LX) (D, cT, adM, NM, LM) b 18 [(0, .ref b), (1, .ref (adX 0)), (2, .ref (adM 0)), (3, .int x3)] [] σ τ) (σ τ : Sg) (x3 : Int32) (h : f_law_25 xs L k σ τ x3 = some ()) : lw_J M (D, cT, adX, NX, LX) (D, cT, adM, NM, LM) b 861 [(0, .ref b), (1, .ref (adX 0)), (2, .ref (adM 0)), (3, .int x3)] [] σ τ := by
  unfold f_law_25 at h
  refine lw_aload_n X dL_law_861 rfl 1 rfl ?_
  refine lw_aload_n X dL_law_862 rfl 0 rfl ?_
  refine lw_iload_n X dL_law_863 rfl 3 rfl ?_
  refine lw_iconst (v := 1) X dL_law_864 (by decide) ?_
  refine lw_iadd X dL_law_865 ?_
  refine lw_sld X dL_law_866 h (fun h => ?_)
  refine lw_aload_n X dL_law_867 rfl 0 rfl ?_
  refine lw_iload_n X dL_law_868 rfl 3 rfl ?_
  refine lw_iconst (v := 2) X dL_law_869 (by decide) ?_
  refine lw_iadd X dL_law_870 ?_
  refine lw_sld X dL_law_871 h (fun h => ?_)
  obtain ⟨r1, σ2, hc_3, h⟩ := bnd_of h
  refine lw_callX (c := 0) (As := [.int (xs ((x3 + (1 : Int32))).toNatClampNeg), .int (xs ((x3 + (2 : Int32))).toNatClampNeg)]) (rest := []) (st2 := [.int r1]) X cv_L_117 (c_X9_was M.2.1 hc_3) rfl fX_0 rfl rfl (Nat.le_of_ble_eq_true rfl) ⟨⟨rfl, rfl⟩, by decide, by decide⟩ dL_law_872 rfl ?_
  refine lw_aload_n X dL_law_875 rfl 2 rfl ?_
  refine lw_aload_n X dL_law_876 rfl 0 rfl ?_
  refine lw_iload_n X dL_law_877 rfl 3 rfl ?_
  refine lw_iconst (v := 1) X dL_law_878 (by decide) ?_
  refine lw_iadd X dL_law_879 ?_
  refine lw_sld X dL_law_880 h (fun h => ?_)
  refine lw_aload_n X dL_law_881 rfl 0 rfl ?_
  refine lw_iload_n X dL_law_882 rfl 3 rfl ?_
  refine lw_iconst (v := 2) X dL_law_883 (by decide) ?_
  refine lw_iadd X dL_law_884 ?_
  refine lw_sld X dL_law_885 h (fun h => ?_)
  obtain ⟨r4, τ5, hc_6, h⟩ := bnd_of h
  refine lw_callM (c := 0) (As := [.int (xs ((x3 + (1 : Int32))).toNatClampNeg), .int (xs ((x3 + (2 : Int32))).toNatClampNeg)]) (rest := [.int r1]) (st2 := [.int r4, .int r1]) X cv_L_120 (c_X10_was M.2.1 hc_6) rfl fM_0 rfl rfl (Nat.le_of_ble_eq_true rfl) ⟨⟨rfl, rfl⟩, by decide, by decide⟩ dL_law_886 rfl ?_
  refine lw_eq X 1299 dL_law_889 (by decide) h (fun h => ?_)
  exact lw_inc X hk σ2 τ5 x3 h
set_option maxRecDepth 100000 in
set_option maxHeartbeats 4000000 in
theorem t_law_26 {M : am_M} {D : va_G} {cT : Nat → ClassId} {adX adM : Nat → Nat} {b L : Nat} {xs : Nat → Int32} (X : lw_X M (D, cT, adX, NX, LX) (D, cT, adM, NM, LM) b L xs) {k : Sg → Sg → Int32 → Option Unit} (hk : ∀ (σ τ : Sg) (x3 : Int32), k σ τ x3 = some () → lw_J M (D, cT, adX, NX, LX) (D, cT, adM, NM, LM) b 18 [(0, .ref b), (1, .ref (adX 0)), (2, .ref (adM 0)), (3, .int x3)] [] σ τ) (σ τ : Sg) (x3 : Int32) (h : f_law_26 xs L k σ τ x3 = some ()) : lw_J M (D, cT, adX, NX, LX) (D, cT, adM, NM, LM) b 894 [(0, .ref b), (1, .ref (adX 0)), (2, .ref (adM 0)), (3, .int x3)] [] σ τ := by
  unfold f_law_26 at h
  refine lw_aload_n X dL_law_894 rfl 1 rfl ?_
  refine lw_aload_n X dL_law_895 rfl 0 rfl ?_
  refine lw_iload_n X dL_law_896 rfl 3 rfl ?_
  refine lw_iconst (v := 1) X dL_law_897 (by decide) ?_
  refine lw_iadd X dL_law_898 ?_
  refine lw_sld X dL_law_899 h (fun h => ?_)
  obtain ⟨r1, σ2, hc_3, h⟩ := bnd_of h
  refine lw_callX (c := 0) (As := [.int (xs ((x3 + (1 : Int32))).toNatClampNeg)]) (rest := []) (st2 := [.int r1]) X cv_L_121 (c_X9_ask M.2.1 hc_3) rfl fX_0 rfl rfl (Nat.le_of_ble_eq_true rfl) ⟨⟨rfl, rfl⟩, by decide, by decide⟩ dL_law_900 rfl ?_
  refine lw_aload_n X dL_law_903 rfl 2 rfl ?_
  refine lw_aload_n X dL_law_904 rfl 0 rfl ?_
  refine lw_iload_n X dL_law_905 rfl 3 rfl ?_
  refine lw_iconst (v := 1) X dL_law_906 (by decide) ?_
  refine lw_iadd X dL_law_907 ?_
  refine lw_sld X dL_law_908 h (fun h => ?_)
  obtain ⟨r4, τ5, hc_6, h⟩ := bnd_of h
  refine lw_callM (c := 0) (As := [.int (xs ((x3 + (1 : Int32))).toNatClampNeg)]) (rest := [.int r1]) (st2 := [.int r4, .int r1]) X cv_L_124 (c_X10_ask M.2.1 hc_6) rfl fM_0 rfl rfl (Nat.le_of_ble_eq_true rfl) ⟨⟨rfl, rfl⟩, by decide, by decide⟩ dL_law_909 rfl ?_
  refine lw_eq X 1299 dL_law_912 (by decide) h (fun h => ?_)
  exact lw_inc X hk σ2 τ5 x3 h
set_option maxRecDepth 100000 in
set_option maxHeartbeats 4000000 in
theorem t_law_27 {M : am_M} {D : va_G} {cT : Nat → ClassId} {adX adM : Nat → Nat} {b L : Nat} {xs : Nat → Int32} (X : lw_X M (D, cT, adX, NX, LX) (D, cT, adM, NM, LM) b L xs) {k : Sg → Sg → Int32 → Option Unit} (hk : ∀ (σ τ : Sg) (x3 : Int32), k σ τ x3 = some () → lw_J M (D, cT, adX, NX, LX) (D, cT, adM, NM, LM) b 18 [(0, .ref b), (1, .ref (adX 0)), (2, .ref (adM 0)), (3, .int x3)] [] σ τ) (σ τ : Sg) (x3 : Int32) (h : f_law_27 xs L k σ τ x3 = some ()) : lw_J M (D, cT, adX, NX, LX) (D, cT, adM, NM, LM) b 917 [(0, .ref b), (1, .ref (adX 0)), (2, .ref (adM 0)), (3, .int x3)] [] σ τ := by
  unfold f_law_27 at h
  refine lw_aload_n X dL_law_917 rfl 1 rfl ?_
  refine lw_aload_n X dL_law_918 rfl 0 rfl ?_
  refine lw_iload_n X dL_law_919 rfl 3 rfl ?_
  refine lw_iconst (v := 1) X dL_law_920 (by decide) ?_
  refine lw_iadd X dL_law_921 ?_
  refine lw_sld X dL_law_922 h (fun h => ?_)
  refine lw_aload_n X dL_law_923 rfl 0 rfl ?_
  refine lw_iload_n X dL_law_924 rfl 3 rfl ?_
  refine lw_iconst (v := 2) X dL_law_925 (by decide) ?_
  refine lw_iadd X dL_law_926 ?_
  refine lw_sld X dL_law_927 h (fun h => ?_)
  refine lw_aload_n X dL_law_928 rfl 0 rfl ?_
  refine lw_iload_n X dL_law_929 rfl 3 rfl ?_
  refine lw_iconst (v := 3) X dL_law_930 (by decide) ?_
  refine lw_iadd X dL_law_931 ?_
  refine lw_sld X dL_law_932 h (fun h => ?_)
  obtain ⟨r1, σ2, hc_3, h⟩ := bnd_of h
  refine lw_callX (c := 0) (As := [.int (xs ((x3 + (1 : Int32))).toNatClampNeg), .int (xs ((x3 + (2 : Int32))).toNatClampNeg), .int (xs ((x3 + (3 : Int32))).toNatClampNeg)]) (rest := []) (st2 := [.long r1]) X cv_L_125 (c_X9_chance M.2.1 hc_3) rfl fX_0 rfl rfl (Nat.le_of_ble_eq_true rfl) ⟨⟨rfl, rfl⟩, by decide, by decide⟩ dL_law_933 rfl ?_
  refine lw_aload_n X dL_law_936 rfl 2 rfl ?_
  refine lw_aload_n X dL_law_937 rfl 0 rfl ?_
  refine lw_iload_n X dL_law_938 rfl 3 rfl ?_
  refine lw_iconst (v := 1) X dL_law_939 (by decide) ?_
  refine lw_iadd X dL_law_940 ?_
  refine lw_sld X dL_law_941 h (fun h => ?_)
  refine lw_aload_n X dL_law_942 rfl 0 rfl ?_
  refine lw_iload_n X dL_law_943 rfl 3 rfl ?_
  refine lw_iconst (v := 2) X dL_law_944 (by decide) ?_
  refine lw_iadd X dL_law_945 ?_
  refine lw_sld X dL_law_946 h (fun h => ?_)
  refine lw_aload_n X dL_law_947 rfl 0 rfl ?_
  refine lw_iload_n X dL_law_948 rfl 3 rfl ?_
  refine lw_iconst (v := 3) X dL_law_949 (by decide) ?_
  refine lw_iadd X dL_law_950 ?_
  refine lw_sld X dL_law_951 h (fun h => ?_)
  obtain ⟨r4, τ5, hc_6, h⟩ := bnd_of h
  refine lw_callM (c := 0) (As := [.int (xs ((x3 + (1 : Int32))).toNatClampNeg), .int (xs ((x3 + (2 : Int32))).toNatClampNeg), .int (xs ((x3 + (3 : Int32))).toNatClampNeg)]) (rest := [.long r1]) (st2 := [.long r4, .long r1]) X cv_L_129 (c_X10_chance M.2.1 hc_6) rfl fM_0 rfl rfl (Nat.le_of_ble_eq_true rfl) ⟨⟨rfl, rfl⟩, by decide, by decide⟩ dL_law_952 rfl ?_
  refine lw_lcmp X dL_law_955 ?_
  refine lw_eq0 X 1299 dL_law_956 (by decide) h (fun h => ?_)
  exact lw_inc X hk σ2 τ5 x3 h
set_option maxRecDepth 100000 in
set_option maxHeartbeats 4000000 in
theorem t_law_28 {M : am_M} {D : va_G} {cT : Nat → ClassId} {adX adM : Nat → Nat} {b L : Nat} {xs : Nat → Int32} (X : lw_X M (D, cT, adX, NX, LX) (D, cT, adM, NM, LM) b L xs) {k : Sg → Sg → Int32 → Option Unit} (hk : ∀ (σ τ : Sg) (x3 : Int32), k σ τ x3 = some () → lw_J M (D, cT, adX, NX, LX) (D, cT, adM, NM, LM) b 18 [(0, .ref b), (1, .ref (adX 0)), (2, .ref (adM 0)), (3, .int x3)] [] σ τ) (σ τ : Sg) (x3 : Int32) (h : f_law_28 xs L k σ τ x3 = some ()) : lw_J M (D, cT, adX, NX, LX) (D, cT, adM, NM, LM) b 961 [(0, .ref b), (1, .ref (adX 0)), (2, .ref (adM 0)), (3, .int x3)] [] σ τ := by
  unfold f_law_28 at h
  refine lw_aload_n X dL_law_961 rfl 1 rfl ?_
  refine lw_aload_n X dL_law_962 rfl 0 rfl ?_
  refine lw_iload_n X dL_law_963 rfl 3 rfl ?_
  refine lw_iconst (v := 1) X dL_law_964 (by decide) ?_
  refine lw_iadd X dL_law_965 ?_
  refine lw_sld X dL_law_966 h (fun h => ?_)
  refine lw_aload_n X dL_law_967 rfl 0 rfl ?_
  refine lw_iload_n X dL_law_968 rfl 3 rfl ?_
  refine lw_iconst (v := 2) X dL_law_969 (by decide) ?_
  refine lw_iadd X dL_law_970 ?_
  refine lw_sld X dL_law_971 h (fun h => ?_)
  refine lw_aload_n X dL_law_972 rfl 0 rfl ?_
  refine lw_iload_n X dL_law_973 rfl 3 rfl ?_
  refine lw_iconst (v := 3) X dL_law_974 (by decide) ?_
  refine lw_iadd X dL_law_975 ?_
  refine lw_sld X dL_law_976 h (fun h => ?_)
  obtain ⟨r1, σ2, hc_3, h⟩ := bnd_of h
  refine lw_callX (c := 0) (As := [.int (xs ((x3 + (1 : Int32))).toNatClampNeg), .int (xs ((x3 + (2 : Int32))).toNatClampNeg), .int (xs ((x3 + (3 : Int32))).toNatClampNeg)]) (rest := []) (st2 := [.int r1]) X cv_L_130 (c_X9_years M.2.1 hc_3) rfl fX_0 rfl rfl (Nat.le_of_ble_eq_true rfl) ⟨⟨rfl, rfl⟩, by decide, by decide⟩ dL_law_977 rfl ?_
  refine lw_aload_n X dL_law_980 rfl 2 rfl ?_
  refine lw_aload_n X dL_law_981 rfl 0 rfl ?_
  refine lw_iload_n X dL_law_982 rfl 3 rfl ?_
  refine lw_iconst (v := 1) X dL_law_983 (by decide) ?_
  refine lw_iadd X dL_law_984 ?_
  refine lw_sld X dL_law_985 h (fun h => ?_)
  refine lw_aload_n X dL_law_986 rfl 0 rfl ?_
  refine lw_iload_n X dL_law_987 rfl 3 rfl ?_
  refine lw_iconst (v := 2) X dL_law_988 (by decide) ?_
  refine lw_iadd X dL_law_989 ?_
  refine lw_sld X dL_law_990 h (fun h => ?_)
  refine lw_aload_n X dL_law_991 rfl 0 rfl ?_
  refine lw_iload_n X dL_law_992 rfl 3 rfl ?_
  refine lw_iconst (v := 3) X dL_law_993 (by decide) ?_
  refine lw_iadd X dL_law_994 ?_
  refine lw_sld X dL_law_995 h (fun h => ?_)
  obtain ⟨r4, τ5, hc_6, h⟩ := bnd_of h
  refine lw_callM (c := 0) (As := [.int (xs ((x3 + (1 : Int32))).toNatClampNeg), .int (xs ((x3 + (2 : Int32))).toNatClampNeg), .int (xs ((x3 + (3 : Int32))).toNatClampNeg)]) (rest := [.int r1]) (st2 := [.int r4, .int r1]) X cv_L_133 (c_X10_years M.2.1 hc_6) rfl fM_0 rfl rfl (Nat.le_of_ble_eq_true rfl) ⟨⟨rfl, rfl⟩, by decide, by decide⟩ dL_law_996 rfl ?_
  refine lw_eq X 1299 dL_law_999 (by decide) h (fun h => ?_)
  exact lw_inc X hk σ2 τ5 x3 h
set_option maxRecDepth 100000 in
set_option maxHeartbeats 4000000 in
theorem t_law_29 {M : am_M} {D : va_G} {cT : Nat → ClassId} {adX adM : Nat → Nat} {b L : Nat} {xs : Nat → Int32} (X : lw_X M (D, cT, adX, NX, LX) (D, cT, adM, NM, LM) b L xs) {k : Sg → Sg → Int32 → Option Unit} (hk : ∀ (σ τ : Sg) (x3 : Int32), k σ τ x3 = some () → lw_J M (D, cT, adX, NX, LX) (D, cT, adM, NM, LM) b 18 [(0, .ref b), (1, .ref (adX 0)), (2, .ref (adM 0)), (3, .int x3)] [] σ τ) (σ τ : Sg) (x3 : Int32) (h : f_law_29 xs L k σ τ x3 = some ()) : lw_J M (D, cT, adX, NX, LX) (D, cT, adM, NM, LM) b 1004 [(0, .ref b), (1, .ref (adX 0)), (2, .ref (adM 0)), (3, .int x3)] [] σ τ := by
  unfold f_law_29 at h
  refine lw_aload_n X dL_law_1004 rfl 1 rfl ?_
  refine lw_aload_n X dL_law_1005 rfl 0 rfl ?_
  refine lw_iload_n X dL_law_1006 rfl 3 rfl ?_
  refine lw_iconst (v := 1) X dL_law_1007 (by decide) ?_
  refine lw_iadd X dL_law_1008 ?_
  refine lw_sld X dL_law_1009 h (fun h => ?_)
  refine lw_aload_n X dL_law_1010 rfl 0 rfl ?_
  refine lw_iload_n X dL_law_1011 rfl 3 rfl ?_
  refine lw_iconst (v := 2) X dL_law_1012 (by decide) ?_
  refine lw_iadd X dL_law_1013 ?_
  refine lw_sld X dL_law_1014 h (fun h => ?_)
  refine lw_aload_n X dL_law_1015 rfl 0 rfl ?_
  refine lw_iload_n X dL_law_1016 rfl 3 rfl ?_
  refine lw_iconst (v := 3) X dL_law_1017 (by decide) ?_
  refine lw_iadd X dL_law_1018 ?_
  refine lw_sld X dL_law_1019 h (fun h => ?_)
  obtain ⟨r1, σ2, hc_3, h⟩ := bnd_of h
  refine lw_callX (c := 0) (As := [.int (xs ((x3 + (1 : Int32))).toNatClampNeg), .int (xs ((x3 + (2 : Int32))).toNatClampNeg), .int (xs ((x3 + (3 : Int32))).toNatClampNeg)]) (rest := []) (st2 := [.int r1]) X cv_L_134 (c_X9_sheet M.2.1 hc_3) rfl fX_0 rfl rfl (Nat.le_of_ble_eq_true rfl) ⟨⟨rfl, rfl⟩, by decide, by decide⟩ dL_law_1020 rfl ?_
  refine lw_aload_n X dL_law_1023 rfl 2 rfl ?_
  refine lw_aload_n X dL_law_1024 rfl 0 rfl ?_
  refine lw_iload_n X dL_law_1025 rfl 3 rfl ?_
  refine lw_iconst (v := 1) X dL_law_1026 (by decide) ?_
  refine lw_iadd X dL_law_1027 ?_
  refine lw_sld X dL_law_1028 h (fun h => ?_)
  refine lw_aload_n X dL_law_1029 rfl 0 rfl ?_
  refine lw_iload_n X dL_law_1030 rfl 3 rfl ?_
  refine lw_iconst (v := 2) X dL_law_1031 (by decide) ?_
  refine lw_iadd X dL_law_1032 ?_
  refine lw_sld X dL_law_1033 h (fun h => ?_)
  refine lw_aload_n X dL_law_1034 rfl 0 rfl ?_
  refine lw_iload_n X dL_law_1035 rfl 3 rfl ?_
  refine lw_iconst (v := 3) X dL_law_1036 (by decide) ?_
  refine lw_iadd X dL_law_1037 ?_
  refine lw_sld X dL_law_1038 h (fun h => ?_)
  obtain ⟨r4, τ5, hc_6, h⟩ := bnd_of h
  refine lw_callM (c := 0) (As := [.int (xs ((x3 + (1 : Int32))).toNatClampNeg), .int (xs ((x3 + (2 : Int32))).toNatClampNeg), .int (xs ((x3 + (3 : Int32))).toNatClampNeg)]) (rest := [.int r1]) (st2 := [.int r4, .int r1]) X cv_L_137 (c_X10_sheet M.2.1 hc_6) rfl fM_0 rfl rfl (Nat.le_of_ble_eq_true rfl) ⟨⟨rfl, rfl⟩, by decide, by decide⟩ dL_law_1039 rfl ?_
  refine lw_eq X 1299 dL_law_1042 (by decide) h (fun h => ?_)
  exact lw_inc X hk σ2 τ5 x3 h
set_option maxRecDepth 100000 in
set_option maxHeartbeats 4000000 in
theorem t_law_30 {M : am_M} {D : va_G} {cT : Nat → ClassId} {adX adM : Nat → Nat} {b L : Nat} {xs : Nat → Int32} (X : lw_X M (D, cT, adX, NX, LX) (D, cT, adM, NM, LM) b L xs) {k : Sg → Sg → Int32 → Option Unit} (hk : ∀ (σ τ : Sg) (x3 : Int32), k σ τ x3 = some () → lw_J M (D, cT, adX, NX, LX) (D, cT, adM, NM, LM) b 18 [(0, .ref b), (1, .ref (adX 0)), (2, .ref (adM 0)), (3, .int x3)] [] σ τ) (σ τ : Sg) (x3 : Int32) (h : f_law_30 xs L k σ τ x3 = some ()) : lw_J M (D, cT, adX, NX, LX) (D, cT, adM, NM, LM) b 1047 [(0, .ref b), (1, .ref (adX 0)), (2, .ref (adM 0)), (3, .int x3)] [] σ τ := by
  unfold f_law_30 at h
  refine lw_aload_n X dL_law_1047 rfl 1 rfl ?_
  refine lw_aload_n X dL_law_1048 rfl 0 rfl ?_
  refine lw_iload_n X dL_law_1049 rfl 3 rfl ?_
  refine lw_iconst (v := 1) X dL_law_1050 (by decide) ?_
  refine lw_iadd X dL_law_1051 ?_
  refine lw_sld X dL_law_1052 h (fun h => ?_)
  obtain ⟨r1, σ2, hc_3, h⟩ := bnd_of h
  refine lw_callX (c := 0) (As := [.int (xs ((x3 + (1 : Int32))).toNatClampNeg)]) (rest := []) (st2 := [.int r1]) X cv_L_138 (c_X9_lose M.2.1 hc_3) rfl fX_0 rfl rfl (Nat.le_of_ble_eq_true rfl) ⟨⟨rfl, rfl⟩, by decide, by decide⟩ dL_law_1053 rfl ?_
  refine lw_aload_n X dL_law_1056 rfl 2 rfl ?_
  refine lw_aload_n X dL_law_1057 rfl 0 rfl ?_
  refine lw_iload_n X dL_law_1058 rfl 3 rfl ?_
  refine lw_iconst (v := 1) X dL_law_1059 (by decide) ?_
  refine lw_iadd X dL_law_1060 ?_
  refine lw_sld X dL_law_1061 h (fun h => ?_)
  obtain ⟨r4, τ5, hc_6, h⟩ := bnd_of h
  refine lw_callM (c := 0) (As := [.int (xs ((x3 + (1 : Int32))).toNatClampNeg)]) (rest := [.int r1]) (st2 := [.int r4, .int r1]) X cv_L_141 (c_X10_lose M.2.1 hc_6) rfl fM_0 rfl rfl (Nat.le_of_ble_eq_true rfl) ⟨⟨rfl, rfl⟩, by decide, by decide⟩ dL_law_1062 rfl ?_
  refine lw_eq X 1299 dL_law_1065 (by decide) h (fun h => ?_)
  exact lw_inc X hk σ2 τ5 x3 h
set_option maxRecDepth 100000 in
set_option maxHeartbeats 4000000 in
theorem t_law_31 {M : am_M} {D : va_G} {cT : Nat → ClassId} {adX adM : Nat → Nat} {b L : Nat} {xs : Nat → Int32} (X : lw_X M (D, cT, adX, NX, LX) (D, cT, adM, NM, LM) b L xs) {k : Sg → Sg → Int32 → Option Unit} (hk : ∀ (σ τ : Sg) (x3 : Int32), k σ τ x3 = some () → lw_J M (D, cT, adX, NX, LX) (D, cT, adM, NM, LM) b 18 [(0, .ref b), (1, .ref (adX 0)), (2, .ref (adM 0)), (3, .int x3)] [] σ τ) (σ τ : Sg) (x3 : Int32) (h : f_law_31 xs L k σ τ x3 = some ()) : lw_J M (D, cT, adX, NX, LX) (D, cT, adM, NM, LM) b 1070 [(0, .ref b), (1, .ref (adX 0)), (2, .ref (adM 0)), (3, .int x3)] [] σ τ := by
  unfold f_law_31 at h
  refine lw_aload_n X dL_law_1070 rfl 1 rfl ?_
  refine lw_aload_n X dL_law_1071 rfl 0 rfl ?_
  refine lw_iload_n X dL_law_1072 rfl 3 rfl ?_
  refine lw_iconst (v := 1) X dL_law_1073 (by decide) ?_
  refine lw_iadd X dL_law_1074 ?_
  refine lw_sld X dL_law_1075 h (fun h => ?_)
  refine lw_aload_n X dL_law_1076 rfl 0 rfl ?_
  refine lw_iload_n X dL_law_1077 rfl 3 rfl ?_
  refine lw_iconst (v := 2) X dL_law_1078 (by decide) ?_
  refine lw_iadd X dL_law_1079 ?_
  refine lw_sld X dL_law_1080 h (fun h => ?_)
  refine lw_aload_n X dL_law_1081 rfl 0 rfl ?_
  refine lw_iload_n X dL_law_1082 rfl 3 rfl ?_
  refine lw_iconst (v := 3) X dL_law_1083 (by decide) ?_
  refine lw_iadd X dL_law_1084 ?_
  refine lw_sld X dL_law_1085 h (fun h => ?_)
  refine lw_aload_n X dL_law_1086 rfl 0 rfl ?_
  refine lw_iload_n X dL_law_1087 rfl 3 rfl ?_
  refine lw_iconst (v := 4) X dL_law_1088 (by decide) ?_
  refine lw_iadd X dL_law_1089 ?_
  refine lw_sld X dL_law_1090 h (fun h => ?_)
  obtain ⟨r1, σ2, hc_3, h⟩ := bnd_of h
  refine lw_callX (c := 0) (As := [.int (xs ((x3 + (1 : Int32))).toNatClampNeg), .int (xs ((x3 + (2 : Int32))).toNatClampNeg), .int (xs ((x3 + (3 : Int32))).toNatClampNeg), .int (xs ((x3 + (4 : Int32))).toNatClampNeg)]) (rest := []) (st2 := [.int r1]) X cv_L_142 (c_X9_put M.2.1 hc_3) rfl fX_0 rfl rfl (Nat.le_of_ble_eq_true rfl) ⟨⟨rfl, rfl⟩, by decide, by decide⟩ dL_law_1091 rfl ?_
  refine lw_aload_n X dL_law_1094 rfl 2 rfl ?_
  refine lw_aload_n X dL_law_1095 rfl 0 rfl ?_
  refine lw_iload_n X dL_law_1096 rfl 3 rfl ?_
  refine lw_iconst (v := 1) X dL_law_1097 (by decide) ?_
  refine lw_iadd X dL_law_1098 ?_
  refine lw_sld X dL_law_1099 h (fun h => ?_)
  refine lw_aload_n X dL_law_1100 rfl 0 rfl ?_
  refine lw_iload_n X dL_law_1101 rfl 3 rfl ?_
  refine lw_iconst (v := 2) X dL_law_1102 (by decide) ?_
  refine lw_iadd X dL_law_1103 ?_
  refine lw_sld X dL_law_1104 h (fun h => ?_)
  refine lw_aload_n X dL_law_1105 rfl 0 rfl ?_
  refine lw_iload_n X dL_law_1106 rfl 3 rfl ?_
  refine lw_iconst (v := 3) X dL_law_1107 (by decide) ?_
  refine lw_iadd X dL_law_1108 ?_
  refine lw_sld X dL_law_1109 h (fun h => ?_)
  refine lw_aload_n X dL_law_1110 rfl 0 rfl ?_
  refine lw_iload_n X dL_law_1111 rfl 3 rfl ?_
  refine lw_iconst (v := 4) X dL_law_1112 (by decide) ?_
  refine lw_iadd X dL_law_1113 ?_
  refine lw_sld X dL_law_1114 h (fun h => ?_)
  obtain ⟨r4, τ5, hc_6, h⟩ := bnd_of h
  refine lw_callM (c := 0) (As := [.int (xs ((x3 + (1 : Int32))).toNatClampNeg), .int (xs ((x3 + (2 : Int32))).toNatClampNeg), .int (xs ((x3 + (3 : Int32))).toNatClampNeg), .int (xs ((x3 + (4 : Int32))).toNatClampNeg)]) (rest := [.int r1]) (st2 := [.int r4, .int r1]) X cv_L_146 (c_X10_put M.2.1 hc_6) rfl fM_0 rfl rfl (Nat.le_of_ble_eq_true rfl) ⟨⟨rfl, rfl⟩, by decide, by decide⟩ dL_law_1115 rfl ?_
  refine lw_eq X 1299 dL_law_1118 (by decide) h (fun h => ?_)
  exact lw_inc X hk σ2 τ5 x3 h
set_option maxRecDepth 100000 in
set_option maxHeartbeats 4000000 in
theorem t_law_32 {M : am_M} {D : va_G} {cT : Nat → ClassId} {adX adM : Nat → Nat} {b L : Nat} {xs : Nat → Int32} (X : lw_X M (D, cT, adX, NX, LX) (D, cT, adM, NM, LM) b L xs) {k : Sg → Sg → Int32 → Option Unit} (hk : ∀ (σ τ : Sg) (x3 : Int32), k σ τ x3 = some () → lw_J M (D, cT, adX, NX, LX) (D, cT, adM, NM, LM) b 18 [(0, .ref b), (1, .ref (adX 0)), (2, .ref (adM 0)), (3, .int x3)] [] σ τ) (σ τ : Sg) (x3 : Int32) (h : f_law_32 xs L k σ τ x3 = some ()) : lw_J M (D, cT, adX, NX, LX) (D, cT, adM, NM, LM) b 1123 [(0, .ref b), (1, .ref (adX 0)), (2, .ref (adM 0)), (3, .int x3)] [] σ τ := by
  unfold f_law_32 at h
  refine lw_aload_n X dL_law_1123 rfl 1 rfl ?_
  refine lw_aload_n X dL_law_1124 rfl 0 rfl ?_
  refine lw_iload_n X dL_law_1125 rfl 3 rfl ?_
  refine lw_iconst (v := 1) X dL_law_1126 (by decide) ?_
  refine lw_iadd X dL_law_1127 ?_
  refine lw_sld X dL_law_1128 h (fun h => ?_)
  refine lw_aload_n X dL_law_1129 rfl 0 rfl ?_
  refine lw_iload_n X dL_law_1130 rfl 3 rfl ?_
  refine lw_iconst (v := 2) X dL_law_1131 (by decide) ?_
  refine lw_iadd X dL_law_1132 ?_
  refine lw_sld X dL_law_1133 h (fun h => ?_)
  refine lw_aload_n X dL_law_1134 rfl 0 rfl ?_
  refine lw_iload_n X dL_law_1135 rfl 3 rfl ?_
  refine lw_iconst (v := 3) X dL_law_1136 (by decide) ?_
  refine lw_iadd X dL_law_1137 ?_
  refine lw_sld X dL_law_1138 h (fun h => ?_)
  obtain ⟨r1, σ2, hc_3, h⟩ := bnd_of h
  refine lw_callX (c := 0) (As := [.int (xs ((x3 + (1 : Int32))).toNatClampNeg), .int (xs ((x3 + (2 : Int32))).toNatClampNeg), .int (xs ((x3 + (3 : Int32))).toNatClampNeg)]) (rest := []) (st2 := [.int r1]) X cv_L_147 (c_X9_get M.2.1 hc_3) rfl fX_0 rfl rfl (Nat.le_of_ble_eq_true rfl) ⟨⟨rfl, rfl⟩, by decide, by decide⟩ dL_law_1139 rfl ?_
  refine lw_aload_n X dL_law_1142 rfl 2 rfl ?_
  refine lw_aload_n X dL_law_1143 rfl 0 rfl ?_
  refine lw_iload_n X dL_law_1144 rfl 3 rfl ?_
  refine lw_iconst (v := 1) X dL_law_1145 (by decide) ?_
  refine lw_iadd X dL_law_1146 ?_
  refine lw_sld X dL_law_1147 h (fun h => ?_)
  refine lw_aload_n X dL_law_1148 rfl 0 rfl ?_
  refine lw_iload_n X dL_law_1149 rfl 3 rfl ?_
  refine lw_iconst (v := 2) X dL_law_1150 (by decide) ?_
  refine lw_iadd X dL_law_1151 ?_
  refine lw_sld X dL_law_1152 h (fun h => ?_)
  refine lw_aload_n X dL_law_1153 rfl 0 rfl ?_
  refine lw_iload_n X dL_law_1154 rfl 3 rfl ?_
  refine lw_iconst (v := 3) X dL_law_1155 (by decide) ?_
  refine lw_iadd X dL_law_1156 ?_
  refine lw_sld X dL_law_1157 h (fun h => ?_)
  obtain ⟨r4, τ5, hc_6, h⟩ := bnd_of h
  refine lw_callM (c := 0) (As := [.int (xs ((x3 + (1 : Int32))).toNatClampNeg), .int (xs ((x3 + (2 : Int32))).toNatClampNeg), .int (xs ((x3 + (3 : Int32))).toNatClampNeg)]) (rest := [.int r1]) (st2 := [.int r4, .int r1]) X cv_L_150 (c_X10_get M.2.1 hc_6) rfl fM_0 rfl rfl (Nat.le_of_ble_eq_true rfl) ⟨⟨rfl, rfl⟩, by decide, by decide⟩ dL_law_1158 rfl ?_
  refine lw_eq X 1299 dL_law_1161 (by decide) h (fun h => ?_)
  exact lw_inc X hk σ2 τ5 x3 h
set_option maxRecDepth 100000 in
set_option maxHeartbeats 4000000 in
theorem t_law_33 {M : am_M} {D : va_G} {cT : Nat → ClassId} {adX adM : Nat → Nat} {b L : Nat} {xs : Nat → Int32} (X : lw_X M (D, cT, adX, NX, LX) (D, cT, adM, NM, LM) b L xs) {k : Sg → Sg → Int32 → Option Unit} (hk : ∀ (σ τ : Sg) (x3 : Int32), k σ τ x3 = some () → lw_J M (D, cT, adX, NX, LX) (D, cT, adM, NM, LM) b 18 [(0, .ref b), (1, .ref (adX 0)), (2, .ref (adM 0)), (3, .int x3)] [] σ τ) (σ τ : Sg) (x3 : Int32) (h : f_law_33 xs L k σ τ x3 = some ()) : lw_J M (D, cT, adX, NX, LX) (D, cT, adM, NM, LM) b 1166 [(0, .ref b), (1, .ref (adX 0)), (2, .ref (adM 0)), (3, .int x3)] [] σ τ := by
  unfold f_law_33 at h
  refine lw_aload_n X dL_law_1166 rfl 1 rfl ?_
  refine lw_aload_n X dL_law_1167 rfl 0 rfl ?_
  refine lw_iload_n X dL_law_1168 rfl 3 rfl ?_
  refine lw_iconst (v := 1) X dL_law_1169 (by decide) ?_
  refine lw_iadd X dL_law_1170 ?_
  refine lw_sld X dL_law_1171 h (fun h => ?_)
  refine lw_aload_n X dL_law_1172 rfl 0 rfl ?_
  refine lw_iload_n X dL_law_1173 rfl 3 rfl ?_
  refine lw_iconst (v := 2) X dL_law_1174 (by decide) ?_
  refine lw_iadd X dL_law_1175 ?_
  refine lw_sld X dL_law_1176 h (fun h => ?_)
  refine lw_aload_n X dL_law_1177 rfl 0 rfl ?_
  refine lw_iload_n X dL_law_1178 rfl 3 rfl ?_
  refine lw_iconst (v := 3) X dL_law_1179 (by decide) ?_
  refine lw_iadd X dL_law_1180 ?_
  refine lw_sld X dL_law_1181 h (fun h => ?_)
  refine lw_aload_n X dL_law_1182 rfl 0 rfl ?_
  refine lw_iload_n X dL_law_1183 rfl 3 rfl ?_
  refine lw_iconst (v := 4) X dL_law_1184 (by decide) ?_
  refine lw_iadd X dL_law_1185 ?_
  refine lw_sld X dL_law_1186 h (fun h => ?_)
  refine lw_aload_n X dL_law_1187 rfl 0 rfl ?_
  refine lw_iload_n X dL_law_1188 rfl 3 rfl ?_
  refine lw_iconst (v := 5) X dL_law_1189 (by decide) ?_
  refine lw_iadd X dL_law_1190 ?_
  refine lw_sld X dL_law_1191 h (fun h => ?_)
  obtain ⟨r1, σ2, hc_3, h⟩ := bnd_of h
  refine lw_callX (c := 0) (As := [.int (xs ((x3 + (1 : Int32))).toNatClampNeg), .int (xs ((x3 + (2 : Int32))).toNatClampNeg), .int (xs ((x3 + (3 : Int32))).toNatClampNeg), .int (xs ((x3 + (4 : Int32))).toNatClampNeg), .int (xs ((x3 + (5 : Int32))).toNatClampNeg)]) (rest := []) (st2 := [.int r1]) X cv_L_151 (c_X9_copy M.2.1 hc_3) rfl fX_0 rfl rfl (Nat.le_of_ble_eq_true rfl) ⟨⟨rfl, rfl⟩, by decide, by decide⟩ dL_law_1192 rfl ?_
  refine lw_aload_n X dL_law_1195 rfl 2 rfl ?_
  refine lw_aload_n X dL_law_1196 rfl 0 rfl ?_
  refine lw_iload_n X dL_law_1197 rfl 3 rfl ?_
  refine lw_iconst (v := 1) X dL_law_1198 (by decide) ?_
  refine lw_iadd X dL_law_1199 ?_
  refine lw_sld X dL_law_1200 h (fun h => ?_)
  refine lw_aload_n X dL_law_1201 rfl 0 rfl ?_
  refine lw_iload_n X dL_law_1202 rfl 3 rfl ?_
  refine lw_iconst (v := 2) X dL_law_1203 (by decide) ?_
  refine lw_iadd X dL_law_1204 ?_
  refine lw_sld X dL_law_1205 h (fun h => ?_)
  refine lw_aload_n X dL_law_1206 rfl 0 rfl ?_
  refine lw_iload_n X dL_law_1207 rfl 3 rfl ?_
  refine lw_iconst (v := 3) X dL_law_1208 (by decide) ?_
  refine lw_iadd X dL_law_1209 ?_
  refine lw_sld X dL_law_1210 h (fun h => ?_)
  refine lw_aload_n X dL_law_1211 rfl 0 rfl ?_
  refine lw_iload_n X dL_law_1212 rfl 3 rfl ?_
  refine lw_iconst (v := 4) X dL_law_1213 (by decide) ?_
  refine lw_iadd X dL_law_1214 ?_
  refine lw_sld X dL_law_1215 h (fun h => ?_)
  refine lw_aload_n X dL_law_1216 rfl 0 rfl ?_
  refine lw_iload_n X dL_law_1217 rfl 3 rfl ?_
  refine lw_iconst (v := 5) X dL_law_1218 (by decide) ?_
  refine lw_iadd X dL_law_1219 ?_
  refine lw_sld X dL_law_1220 h (fun h => ?_)
  obtain ⟨r4, τ5, hc_6, h⟩ := bnd_of h
  refine lw_callM (c := 0) (As := [.int (xs ((x3 + (1 : Int32))).toNatClampNeg), .int (xs ((x3 + (2 : Int32))).toNatClampNeg), .int (xs ((x3 + (3 : Int32))).toNatClampNeg), .int (xs ((x3 + (4 : Int32))).toNatClampNeg), .int (xs ((x3 + (5 : Int32))).toNatClampNeg)]) (rest := [.int r1]) (st2 := [.int r4, .int r1]) X cv_L_155 (c_X10_copy M.2.1 hc_6) rfl fM_0 rfl rfl (Nat.le_of_ble_eq_true rfl) ⟨⟨rfl, rfl⟩, by decide, by decide⟩ dL_law_1221 rfl ?_
  refine lw_eq X 1299 dL_law_1224 (by decide) h (fun h => ?_)
  exact lw_inc X hk σ2 τ5 x3 h
set_option maxRecDepth 100000 in
set_option maxHeartbeats 4000000 in
theorem t_law_34 {M : am_M} {D : va_G} {cT : Nat → ClassId} {adX adM : Nat → Nat} {b L : Nat} {xs : Nat → Int32} (X : lw_X M (D, cT, adX, NX, LX) (D, cT, adM, NM, LM) b L xs) {k : Sg → Sg → Int32 → Option Unit} (hk : ∀ (σ τ : Sg) (x3 : Int32), k σ τ x3 = some () → lw_J M (D, cT, adX, NX, LX) (D, cT, adM, NM, LM) b 18 [(0, .ref b), (1, .ref (adX 0)), (2, .ref (adM 0)), (3, .int x3)] [] σ τ) (σ τ : Sg) (x3 : Int32) (h : f_law_34 xs L k σ τ x3 = some ()) : lw_J M (D, cT, adX, NX, LX) (D, cT, adM, NM, LM) b 1229 [(0, .ref b), (1, .ref (adX 0)), (2, .ref (adM 0)), (3, .int x3)] [] σ τ := by
  unfold f_law_34 at h
  refine lw_aload_n X dL_law_1229 rfl 1 rfl ?_
  refine lw_aload_n X dL_law_1230 rfl 0 rfl ?_
  refine lw_iload_n X dL_law_1231 rfl 3 rfl ?_
  refine lw_iconst (v := 1) X dL_law_1232 (by decide) ?_
  refine lw_iadd X dL_law_1233 ?_
  refine lw_sld X dL_law_1234 h (fun h => ?_)
  refine lw_aload_n X dL_law_1235 rfl 0 rfl ?_
  refine lw_iload_n X dL_law_1236 rfl 3 rfl ?_
  refine lw_iconst (v := 2) X dL_law_1237 (by decide) ?_
  refine lw_iadd X dL_law_1238 ?_
  refine lw_sld X dL_law_1239 h (fun h => ?_)
  obtain ⟨r1, σ2, hc_3, h⟩ := bnd_of h
  refine lw_callX (c := 0) (As := [.int (xs ((x3 + (1 : Int32))).toNatClampNeg), .int (xs ((x3 + (2 : Int32))).toNatClampNeg)]) (rest := []) (st2 := [.int r1]) X cv_L_156 (c_X9_write M.2.1 hc_3) rfl fX_0 rfl rfl (Nat.le_of_ble_eq_true rfl) ⟨⟨rfl, rfl⟩, by decide, by decide⟩ dL_law_1240 rfl ?_
  refine lw_aload_n X dL_law_1243 rfl 2 rfl ?_
  refine lw_aload_n X dL_law_1244 rfl 0 rfl ?_
  refine lw_iload_n X dL_law_1245 rfl 3 rfl ?_
  refine lw_iconst (v := 1) X dL_law_1246 (by decide) ?_
  refine lw_iadd X dL_law_1247 ?_
  refine lw_sld X dL_law_1248 h (fun h => ?_)
  refine lw_aload_n X dL_law_1249 rfl 0 rfl ?_
  refine lw_iload_n X dL_law_1250 rfl 3 rfl ?_
  refine lw_iconst (v := 2) X dL_law_1251 (by decide) ?_
  refine lw_iadd X dL_law_1252 ?_
  refine lw_sld X dL_law_1253 h (fun h => ?_)
  obtain ⟨r4, τ5, hc_6, h⟩ := bnd_of h
  refine lw_callM (c := 0) (As := [.int (xs ((x3 + (1 : Int32))).toNatClampNeg), .int (xs ((x3 + (2 : Int32))).toNatClampNeg)]) (rest := [.int r1]) (st2 := [.int r4, .int r1]) X cv_L_159 (c_X10_write M.2.1 hc_6) rfl fM_0 rfl rfl (Nat.le_of_ble_eq_true rfl) ⟨⟨rfl, rfl⟩, by decide, by decide⟩ dL_law_1254 rfl ?_
  refine lw_eq X 1299 dL_law_1257 (by decide) h (fun h => ?_)
  exact lw_inc X hk σ2 τ5 x3 h
set_option maxRecDepth 100000 in
set_option maxHeartbeats 4000000 in
theorem t_law_35 {M : am_M} {D : va_G} {cT : Nat → ClassId} {adX adM : Nat → Nat} {b L : Nat} {xs : Nat → Int32} (X : lw_X M (D, cT, adX, NX, LX) (D, cT, adM, NM, LM) b L xs) {k : Sg → Sg → Int32 → Option Unit} (hk : ∀ (σ τ : Sg) (x3 : Int32), k σ τ x3 = some () → lw_J M (D, cT, adX, NX, LX) (D, cT, adM, NM, LM) b 18 [(0, .ref b), (1, .ref (adX 0)), (2, .ref (adM 0)), (3, .int x3)] [] σ τ) (σ τ : Sg) (x3 : Int32) (h : f_law_35 xs L k σ τ x3 = some ()) : lw_J M (D, cT, adX, NX, LX) (D, cT, adM, NM, LM) b 1262 [(0, .ref b), (1, .ref (adX 0)), (2, .ref (adM 0)), (3, .int x3)] [] σ τ := by
  unfold f_law_35 at h
  refine lw_aload_n X dL_law_1262 rfl 1 rfl ?_
  refine lw_aload_n X dL_law_1263 rfl 0 rfl ?_
  refine lw_iload_n X dL_law_1264 rfl 3 rfl ?_
  refine lw_iconst (v := 1) X dL_law_1265 (by decide) ?_
  refine lw_iadd X dL_law_1266 ?_
  refine lw_sld X dL_law_1267 h (fun h => ?_)
  obtain ⟨r1, σ2, hc_3, h⟩ := bnd_of h
  refine lw_callX (c := 0) (As := [.int (xs ((x3 + (1 : Int32))).toNatClampNeg)]) (rest := []) (st2 := [.int r1]) X cv_L_160 (c_X9_count M.2.1 hc_3) rfl fX_0 rfl rfl (Nat.le_of_ble_eq_true rfl) ⟨⟨rfl, rfl⟩, by decide, by decide⟩ dL_law_1268 rfl ?_
  refine lw_aload_n X dL_law_1271 rfl 2 rfl ?_
  refine lw_aload_n X dL_law_1272 rfl 0 rfl ?_
  refine lw_iload_n X dL_law_1273 rfl 3 rfl ?_
  refine lw_iconst (v := 1) X dL_law_1274 (by decide) ?_
  refine lw_iadd X dL_law_1275 ?_
  refine lw_sld X dL_law_1276 h (fun h => ?_)
  obtain ⟨r4, τ5, hc_6, h⟩ := bnd_of h
  refine lw_callM (c := 0) (As := [.int (xs ((x3 + (1 : Int32))).toNatClampNeg)]) (rest := [.int r1]) (st2 := [.int r4, .int r1]) X cv_L_163 (c_X10_count M.2.1 hc_6) rfl fM_0 rfl rfl (Nat.le_of_ble_eq_true rfl) ⟨⟨rfl, rfl⟩, by decide, by decide⟩ dL_law_1277 rfl ?_
  refine lw_eq X 1299 dL_law_1280 (by decide) h (fun h => ?_)
  exact lw_inc X hk σ2 τ5 x3 h
set_option maxRecDepth 100000 in
set_option maxHeartbeats 4000000 in
theorem t_law_36 {M : am_M} {D : va_G} {cT : Nat → ClassId} {adX adM : Nat → Nat} {b L : Nat} {xs : Nat → Int32} (X : lw_X M (D, cT, adX, NX, LX) (D, cT, adM, NM, LM) b L xs) {k : Sg → Sg → Int32 → Option Unit} (hk : ∀ (σ τ : Sg) (x3 : Int32), k σ τ x3 = some () → lw_J M (D, cT, adX, NX, LX) (D, cT, adM, NM, LM) b 18 [(0, .ref b), (1, .ref (adX 0)), (2, .ref (adM 0)), (3, .int x3)] [] σ τ) (σ τ : Sg) (x3 : Int32) (h : f_law_36 xs L k σ τ x3 = some ()) : lw_J M (D, cT, adX, NX, LX) (D, cT, adM, NM, LM) b 1285 [(0, .ref b), (1, .ref (adX 0)), (2, .ref (adM 0)), (3, .int x3)] [] σ τ := by
  unfold f_law_36 at h
  refine lw_aload_n X dL_law_1285 rfl 1 rfl ?_
  obtain ⟨r1, σ2, hc_3, h⟩ := bnd_of h
  refine lw_callX (c := 0) (As := []) (rest := []) (st2 := [.long r1]) X cv_L_164 (c_X9_digest M.2.1 hc_3) rfl fX_0 rfl rfl (Nat.le_of_ble_eq_true rfl) ⟨⟨rfl, rfl⟩, by decide, by decide⟩ dL_law_1286 rfl ?_
  refine lw_aload_n X dL_law_1289 rfl 2 rfl ?_
  obtain ⟨r4, τ5, hc_6, h⟩ := bnd_of h
  refine lw_callM (c := 0) (As := []) (rest := [.long r1]) (st2 := [.long r4, .long r1]) X cv_L_168 (c_X10_digest M.2.1 hc_6) rfl fM_0 rfl rfl (Nat.le_of_ble_eq_true rfl) ⟨⟨rfl, rfl⟩, by decide, by decide⟩ dL_law_1290 rfl ?_
  refine lw_lcmp X dL_law_1293 ?_
  refine lw_eq0 X 1299 dL_law_1294 (by decide) h (fun h => ?_)
  exact lw_inc X hk σ2 τ5 x3 h
set_option maxRecDepth 100000 in
set_option maxHeartbeats 4000000 in
theorem t_law_b18 {M : am_M} {D : va_G} {cT : Nat → ClassId} {adX adM : Nat → Nat} {b L : Nat} {xs : Nat → Int32} (X : lw_X M (D, cT, adX, NX, LX) (D, cT, adM, NM, LM) b L xs) {k : Sg → Sg → Int32 → Option Unit} (hk : ∀ (σ τ : Sg) (x3 : Int32), k σ τ x3 = some () → lw_J M (D, cT, adX, NX, LX) (D, cT, adM, NM, LM) b 18 [(0, .ref b), (1, .ref (adX 0)), (2, .ref (adM 0)), (3, .int x3)] [] σ τ) (σ τ : Sg) (x3 : Int32) (h : f_law_b18 xs L k σ τ x3 = some ()) : lw_J M (D, cT, adX, NX, LX) (D, cT, adM, NM, LM) b 18 [(0, .ref b), (1, .ref (adX 0)), (2, .ref (adM 0)), (3, .int x3)] [] σ τ := by
  unfold f_law_b18 at h
  refine lw_iload_n X dL_law_18 rfl 3 rfl ?_
  refine lw_aload_n X dL_law_19 rfl 0 rfl ?_
  refine lw_slen X dL_law_20 ?_
  refine lw_bipush (v := 6) X dL_law_21 (by decide) ?_
  refine lw_isub X dL_law_23 ?_
  refine lw_gt X 1305 dL_law_24 (by decide) h (fun h => ?_) (fun h => ?_)
  · refine lw_iconst (v := 1) X dL_law_1305 (by decide) ?_
    exact lw_end X dL_law_1306
  · refine lw_aload_n X dL_law_27 rfl 0 rfl ?_
    refine lw_iload_n X dL_law_28 rfl 3 rfl ?_
    refine lw_sld X dL_law_29 h (fun h => ?_)
    refine lw_bipush (v := 63) X dL_law_30 (by decide) ?_
    refine lw_iand X dL_law_32 ?_
    generalize xs (x3).toNatClampNeg &&& (63 : Int32) = y at h ⊢
    by_cases q0 : y = 0
    · rw [if_pos q0] at h
      refine lw_tabIn (kx := 0) (off := 163) X 196 dL_law_33 q0 (by decide) (by decide) (by decide) (by decide) ?_
      exact t_law_0 X hk σ τ x3 h
    rw [if_neg q0] at h
    by_cases q1 : y = 1
    · rw [if_pos q1] at h
      refine lw_tabIn (kx := 1) (off := 196) X 229 dL_law_33 q1 (by decide) (by decide) (by decide) (by decide) ?_
      exact t_law_1 X hk σ τ x3 h
    rw [if_neg q1] at h
    by_cases q2 : y = 2
    · rw [if_pos q2] at h
      refine lw_tabIn (kx := 2) (off := 219) X 252 dL_law_33 q2 (by decide) (by decide) (by decide) (by decide) ?_
      exact t_law_2 X hk σ τ x3 h
    rw [if_neg q2] at h
    by_cases q3 : y = 3
    · rw [if_pos q3] at h
      refine lw_tabIn (kx := 3) (off := 242) X 275 dL_law_33 q3 (by decide) (by decide) (by decide) (by decide) ?_
      exact t_law_3 X hk σ τ x3 h
    rw [if_neg q3] at h
    by_cases q4 : y = 4
    · rw [if_pos q4] at h
      refine lw_tabIn (kx := 4) (off := 265) X 298 dL_law_33 q4 (by decide) (by decide) (by decide) (by decide) ?_
      exact t_law_4 X hk σ τ x3 h
    rw [if_neg q4] at h
    by_cases q5 : y = 5
    · rw [if_pos q5] at h
      refine lw_tabIn (kx := 5) (off := 298) X 331 dL_law_33 q5 (by decide) (by decide) (by decide) (by decide) ?_
      exact t_law_5 X hk σ τ x3 h
    rw [if_neg q5] at h
    by_cases q6 : y = 6
    · rw [if_pos q6] at h
      refine lw_tabIn (kx := 6) (off := 331) X 364 dL_law_33 q6 (by decide) (by decide) (by decide) (by decide) ?_
      exact t_law_6 X hk σ τ x3 h
    rw [if_neg q6] at h
    by_cases q7 : y = 7
    · rw [if_pos q7] at h
      refine lw_tabIn (kx := 7) (off := 374) X 407 dL_law_33 q7 (by decide) (by decide) (by decide) (by decide) ?_
      exact t_law_7 X hk σ τ x3 h
    rw [if_neg q7] at h
    by_cases q8 : y = 8
    · rw [if_pos q8] at h
      refine lw_tabIn (kx := 8) (off := 387) X 420 dL_law_33 q8 (by decide) (by decide) (by decide) (by decide) ?_
      exact t_law_8 X hk σ τ x3 h
    rw [if_neg q8] at h
    by_cases q9 : y = 9
    · rw [if_pos q9] at h
      refine lw_tabIn (kx := 9) (off := 410) X 443 dL_law_33 q9 (by decide) (by decide) (by decide) (by decide) ?_
      exact t_law_9 X hk σ τ x3 h
    rw [if_neg q9] at h
    by_cases q10 : y = 10
    · rw [if_pos q10] at h
      refine lw_tabIn (kx := 10) (off := 453) X 486 dL_law_33 q10 (by decide) (by decide) (by decide) (by decide) ?_
      exact t_law_10 X hk σ τ x3 h
    rw [if_neg q10] at h
    by_cases q11 : y = 11
    · rw [if_pos q11] at h
      refine lw_tabIn (kx := 11) (off := 496) X 529 dL_law_33 q11 (by decide) (by decide) (by decide) (by decide) ?_
      exact t_law_11 X hk σ τ x3 h
    rw [if_neg q11] at h
    by_cases q12 : y = 12
    · rw [if_pos q12] at h
      refine lw_tabIn (kx := 12) (off := 529) X 562 dL_law_33 q12 (by decide) (by decide) (by decide) (by decide) ?_
      exact t_law_12 X hk σ τ x3 h
    rw [if_neg q12] at h
    by_cases q13 : y = 13
    · rw [if_pos q13] at h
      refine lw_tabIn (kx := 13) (off := 552) X 585 dL_law_33 q13 (by decide) (by decide) (by decide) (by decide) ?_
      exact t_law_13 X hk σ τ x3 h
    rw [if_neg q13] at h
    by_cases q14 : y = 14
    · rw [if_pos q14] at h
      refine lw_tabIn (kx := 14) (off := 575) X 608 dL_law_33 q14 (by decide) (by decide) (by decide) (by decide) ?_
      exact t_law_14 X hk σ τ x3 h
    rw [if_neg q14] at h
    by_cases q15 : y = 15
    · rw [if_pos q15] at h
      refine lw_tabIn (kx := 15) (off := 588) X 621 dL_law_33 q15 (by decide) (by decide) (by decide) (by decide) ?_
      exact t_law_15 X hk σ τ x3 h
    rw [if_neg q15] at h
    by_cases q16 : y = 16
    · rw [if_pos q16] at h
      refine lw_tabIn (kx := 16) (off := 611) X 644 dL_law_33 q16 (by decide) (by decide) (by decide) (by decide) ?_
      exact t_law_16 X hk σ τ x3 h
    rw [if_neg q16] at h
    by_cases q17 : y = 17
    · rw [if_pos q17] at h
      refine lw_tabIn (kx := 17) (off := 624) X 657 dL_law_33 q17 (by decide) (by decide) (by decide) (by decide) ?_
      exact t_law_17 X hk σ τ x3 h
    rw [if_neg q17] at h
    by_cases q18 : y = 18
    · rw [if_pos q18] at h
      refine lw_tabIn (kx := 18) (off := 637) X 670 dL_law_33 q18 (by decide) (by decide) (by decide) (by decide) ?_
      exact t_law_18 X hk σ τ x3 h
    rw [if_neg q18] at h
    by_cases q19 : y = 19
    · rw [if_pos q19] at h
      refine lw_tabIn (kx := 19) (off := 670) X 703 dL_law_33 q19 (by decide) (by decide) (by decide) (by decide) ?_
      exact t_law_19 X hk σ τ x3 h
    rw [if_neg q19] at h
    by_cases q20 : y = 20
    · rw [if_pos q20] at h
      refine lw_tabIn (kx := 20) (off := 703) X 736 dL_law_33 q20 (by decide) (by decide) (by decide) (by decide) ?_
      exact t_law_20 X hk σ τ x3 h
    rw [if_neg q20] at h
    by_cases q21 : y = 21
    · rw [if_pos q21] at h
      refine lw_tabIn (kx := 21) (off := 736) X 769 dL_law_33 q21 (by decide) (by decide) (by decide) (by decide) ?_
      exact t_law_21 X hk σ τ x3 h
    rw [if_neg q21] at h
    by_cases q22 : y = 22
    · rw [if_pos q22] at h
      refine lw_tabIn (kx := 22) (off := 759) X 792 dL_law_33 q22 (by decide) (by decide) (by decide) (by decide) ?_
      exact t_law_22 X hk σ τ x3 h
    rw [if_neg q22] at h
    by_cases q23 : y = 23
    · rw [if_pos q23] at h
      refine lw_tabIn (kx := 23) (off := 802) X 835 dL_law_33 q23 (by decide) (by decide) (by decide) (by decide) ?_
      exact t_law_23 X hk σ τ x3 h
    rw [if_neg q23] at h
    by_cases q24 : y = 24
    · rw [if_pos q24] at h
      refine lw_tabIn (kx := 24) (off := 815) X 848 dL_law_33 q24 (by decide) (by decide) (by decide) (by decide) ?_
      exact t_law_24 X hk σ τ x3 h
    rw [if_neg q24] at h
    by_cases q25 : y = 25
    · rw [if_pos q25] at h
      refine lw_tabIn (kx := 25) (off := 828) X 861 dL_law_33 q25 (by decide) (by decide) (by decide) (by decide) ?_
      exact t_law_25 X hk σ τ x3 h
    rw [if_neg q25] at h
    by_cases q26 : y = 26
    · rw [if_pos q26] at h
      refine lw_tabIn (kx := 26) (off := 861) X 894 dL_law_33 q26 (by decide) (by decide) (by decide) (by decide) ?_
      exact t_law_26 X hk σ τ x3 h
    rw [if_neg q26] at h
    by_cases q27 : y = 27
    · rw [if_pos q27] at h
      refine lw_tabIn (kx := 27) (off := 884) X 917 dL_law_33 q27 (by decide) (by decide) (by decide) (by decide) ?_
      exact t_law_27 X hk σ τ x3 h
    rw [if_neg q27] at h
    by_cases q28 : y = 28
    · rw [if_pos q28] at h
      refine lw_tabIn (kx := 28) (off := 928) X 961 dL_law_33 q28 (by decide) (by decide) (by decide) (by decide) ?_
      exact t_law_28 X hk σ τ x3 h
    rw [if_neg q28] at h
    by_cases q29 : y = 29
    · rw [if_pos q29] at h
      refine lw_tabIn (kx := 29) (off := 971) X 1004 dL_law_33 q29 (by decide) (by decide) (by decide) (by decide) ?_
      exact t_law_29 X hk σ τ x3 h
    rw [if_neg q29] at h
    by_cases q30 : y = 30
    · rw [if_pos q30] at h
      refine lw_tabIn (kx := 30) (off := 1014) X 1047 dL_law_33 q30 (by decide) (by decide) (by decide) (by decide) ?_
      exact t_law_30 X hk σ τ x3 h
    rw [if_neg q30] at h
    by_cases q31 : y = 31
    · rw [if_pos q31] at h
      refine lw_tabIn (kx := 31) (off := 1037) X 1070 dL_law_33 q31 (by decide) (by decide) (by decide) (by decide) ?_
      exact t_law_31 X hk σ τ x3 h
    rw [if_neg q31] at h
    by_cases q32 : y = 32
    · rw [if_pos q32] at h
      refine lw_tabIn (kx := 32) (off := 1090) X 1123 dL_law_33 q32 (by decide) (by decide) (by decide) (by decide) ?_
      exact t_law_32 X hk σ τ x3 h
    rw [if_neg q32] at h
    by_cases q33 : y = 33
    · rw [if_pos q33] at h
      refine lw_tabIn (kx := 33) (off := 1133) X 1166 dL_law_33 q33 (by decide) (by decide) (by decide) (by decide) ?_
      exact t_law_33 X hk σ τ x3 h
    rw [if_neg q33] at h
    by_cases q34 : y = 34
    · rw [if_pos q34] at h
      refine lw_tabIn (kx := 34) (off := 1196) X 1229 dL_law_33 q34 (by decide) (by decide) (by decide) (by decide) ?_
      exact t_law_34 X hk σ τ x3 h
    rw [if_neg q34] at h
    by_cases q35 : y = 35
    · rw [if_pos q35] at h
      refine lw_tabIn (kx := 35) (off := 1229) X 1262 dL_law_33 q35 (by decide) (by decide) (by decide) (by decide) ?_
      exact t_law_35 X hk σ τ x3 h
    rw [if_neg q35] at h
    by_cases q36 : y = 36
    · rw [if_pos q36] at h
      refine lw_tabIn (kx := 36) (off := 1252) X 1285 dL_law_33 q36 (by decide) (by decide) (by decide) (by decide) ?_
      exact t_law_36 X hk σ τ x3 h
    rw [if_neg q36] at h
    have e0 := lv_neT q0 (show (0 : Int32).toInt = 0 from by decide)
    have e1 := lv_neT q1 (show (1 : Int32).toInt = 1 from by decide)
    have e2 := lv_neT q2 (show (2 : Int32).toInt = 2 from by decide)
    have e3 := lv_neT q3 (show (3 : Int32).toInt = 3 from by decide)
    have e4 := lv_neT q4 (show (4 : Int32).toInt = 4 from by decide)
    have e5 := lv_neT q5 (show (5 : Int32).toInt = 5 from by decide)
    have e6 := lv_neT q6 (show (6 : Int32).toInt = 6 from by decide)
    have e7 := lv_neT q7 (show (7 : Int32).toInt = 7 from by decide)
    have e8 := lv_neT q8 (show (8 : Int32).toInt = 8 from by decide)
    have e9 := lv_neT q9 (show (9 : Int32).toInt = 9 from by decide)
    have e10 := lv_neT q10 (show (10 : Int32).toInt = 10 from by decide)
    have e11 := lv_neT q11 (show (11 : Int32).toInt = 11 from by decide)
    have e12 := lv_neT q12 (show (12 : Int32).toInt = 12 from by decide)
    have e13 := lv_neT q13 (show (13 : Int32).toInt = 13 from by decide)
    have e14 := lv_neT q14 (show (14 : Int32).toInt = 14 from by decide)
    have e15 := lv_neT q15 (show (15 : Int32).toInt = 15 from by decide)
    have e16 := lv_neT q16 (show (16 : Int32).toInt = 16 from by decide)
    have e17 := lv_neT q17 (show (17 : Int32).toInt = 17 from by decide)
    have e18 := lv_neT q18 (show (18 : Int32).toInt = 18 from by decide)
    have e19 := lv_neT q19 (show (19 : Int32).toInt = 19 from by decide)
    have e20 := lv_neT q20 (show (20 : Int32).toInt = 20 from by decide)
    have e21 := lv_neT q21 (show (21 : Int32).toInt = 21 from by decide)
    have e22 := lv_neT q22 (show (22 : Int32).toInt = 22 from by decide)
    have e23 := lv_neT q23 (show (23 : Int32).toInt = 23 from by decide)
    have e24 := lv_neT q24 (show (24 : Int32).toInt = 24 from by decide)
    have e25 := lv_neT q25 (show (25 : Int32).toInt = 25 from by decide)
    have e26 := lv_neT q26 (show (26 : Int32).toInt = 26 from by decide)
    have e27 := lv_neT q27 (show (27 : Int32).toInt = 27 from by decide)
    have e28 := lv_neT q28 (show (28 : Int32).toInt = 28 from by decide)
    have e29 := lv_neT q29 (show (29 : Int32).toInt = 29 from by decide)
    have e30 := lv_neT q30 (show (30 : Int32).toInt = 30 from by decide)
    have e31 := lv_neT q31 (show (31 : Int32).toInt = 31 from by decide)
    have e32 := lv_neT q32 (show (32 : Int32).toInt = 32 from by decide)
    have e33 := lv_neT q33 (show (33 : Int32).toInt = 33 from by decide)
    have e34 := lv_neT q34 (show (34 : Int32).toInt = 34 from by decide)
    have e35 := lv_neT q35 (show (35 : Int32).toInt = 35 from by decide)
    have e36 := lv_neT q36 (show (36 : Int32).toInt = 36 from by decide)
    refine lw_tabOut X 1299 dL_law_33 (by omega) (by decide) ?_
    exact lw_inc X hk σ τ x3 h
theorem t_law_l18 {M : am_M} {D : va_G} {cT : Nat → ClassId} {adX adM : Nat → Nat} {b L : Nat} {xs : Nat → Int32} (X : lw_X M (D, cT, adX, NX, LX) (D, cT, adM, NM, LM) b L xs) (n : Nat) : ∀ (σ τ : Sg) (x3 : Int32), f_law_l18 xs L n σ τ x3 = some () → lw_J M (D, cT, adX, NX, LX) (D, cT, adM, NM, LM) b 18 [(0, .ref b), (1, .ref (adX 0)), (2, .ref (adM 0)), (3, .int x3)] [] σ τ := by
  induction n with
  | zero =>
    intro σ τ x3 h
    have h2 : (none : Option Unit) = some () := h
    cases h2
  | succ n ih =>
    intro σ τ x3 h
    exact t_law_b18 X (k := f_law_l18 xs L n) ih σ τ x3 h
