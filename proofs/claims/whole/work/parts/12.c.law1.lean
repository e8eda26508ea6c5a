abbrev mL_law : MI := (RL, yL_law, cL_law, 7, some .boolean)
noncomputable def TL_0 (chk : PP Unit) (q : Nat → Int32) : PP Unit := bd (FX11_feed 0 (((((q 1)).toInt64) <<< ((32 : Int32).toInt64 &&& 63)) ||| ((((q 2)).toInt64) &&& (4294967295 : Int64))) (((((q 3)).toInt64) <<< ((32 : Int32).toInt64 &&& 63)) ||| ((((q 4)).toInt64) &&& (4294967295 : Int64))) (((((q 5)).toInt64) <<< ((32 : Int32).toInt64 &&& 63)) ||| ((((q 6)).toInt64) &&& (4294967295 : Int64)))) (fun x1 => bd (FX12_feed 249 (((((q 1)).toInt64) <<< ((32 : Int32).toInt64 &&& 63)) ||| ((((q 2)).toInt64) &&& (4294967295 : Int64))) (((((q 3)).toInt64) <<< ((32 : Int32).toInt64 &&& 63)) ||| ((((q 4)).toInt64) &&& (4294967295 : Int64))) (((((q 5)).toInt64) <<< ((32 : Int32).toInt64 &&& 63)) ||| ((((q 6)).toInt64) &&& (4294967295 : Int64)))) (fun x2 => if x1 = x2 then chk else fl))
set_option maxHeartbeats 4000000 in
set_option maxRecDepth 100000 in
theorem LC_0 {l : Launch} {K : KK} {n : Nat} {chk : PP Unit} {zc zs b L : Nat} {xs : Nat → Int32} {x4 : Int32} {q : Nat → Int32} (hn : 270 ≤ n) (hE : RP l K n 200 mL_law (ZX K b L xs zc zs) 1290 [(0, .ref b), (1, .ref (K.2.1 + 0)), (2, .ref (K.2.1 + 249)), (3, .ref (K.2.1 + 270)), (4, .int x4)] [] enU (bd chk pu)) (hq : ∀ c, c < 7 → vp_in (x4 + Int32.ofNat c) L) (hv : ∀ c, c < 7 → xs (x4 + Int32.ofNat c).toNatClampNeg = q c) : RP l K n 200 mL_law (ZX K b L xs zc zs) 188 [(0, .ref b), (1, .ref (K.2.1 + 0)), (2, .ref (K.2.1 + 249)), (3, .ref (K.2.1 + 270)), (4, .int x4)] [] enU (TL_0 chk q) := by
  refine rp_id ?_
  unfold TL_0
  refine rp_aload_n 1 dL_law_188 rfl ?_
  refine rp_aload_n 0 dL_law_189 rfl ?_
  refine rp_iload 4 dL_law_190 rfl ?_
  refine rp_iconst (1 : Int32) dL_law_192 (by decide) ?_
  refine rp_iadd dL_law_193 ?_
  refine rp_sld (hq 1 (by decide)) (hv 1 (by decide)) dL_law_194 ?_
  refine rp_i2l dL_law_195 ?_
  refine rp_bipush (32 : Int32) dL_law_196 (by decide) ?_
  refine rp_lshl dL_law_198 ?_
  refine rp_aload_n 0 dL_law_199 rfl ?_
  refine rp_iload 4 dL_law_200 rfl ?_
  refine rp_iconst (2 : Int32) dL_law_202 (by decide) ?_
  refine rp_iadd dL_law_203 ?_
  refine rp_sld (hq 2 (by decide)) (hv 2 (by decide)) dL_law_204 ?_
  refine rp_i2l dL_law_205 ?_
  refine rp_ldc2 (v := 4294967295) (mw (i := 1833) (by decide +kernel)) dL_law_206 ?_
  refine rp_land dL_law_209 ?_
  refine rp_lor dL_law_210 ?_
  refine rp_aload_n 0 dL_law_211 rfl ?_
  refine rp_iload 4 dL_law_212 rfl ?_
  refine rp_iconst (3 : Int32) dL_law_214 (by decide) ?_
  refine rp_iadd dL_law_215 ?_
  refine rp_sld (hq 3 (by decide)) (hv 3 (by decide)) dL_law_216 ?_
  refine rp_i2l dL_law_217 ?_
  refine rp_bipush (32 : Int32) dL_law_218 (by decide) ?_
  refine rp_lshl dL_law_220 ?_
  refine rp_aload_n 0 dL_law_221 rfl ?_
  refine rp_iload 4 dL_law_222 rfl ?_
  refine rp_iconst (4 : Int32) dL_law_224 (by decide) ?_
  refine rp_iadd dL_law_225 ?_
  refine rp_sld (hq 4 (by decide)) (hv 4 (by decide)) dL_law_226 ?_
  refine rp_i2l dL_law_227 ?_
  refine rp_ldc2 (v := 4294967295) (mw (i := 1833) (by decide +kernel)) dL_law_228 ?_
  refine rp_land dL_law_231 ?_
  refine rp_lor dL_law_232 ?_
  refine rp_aload_n 0 dL_law_233 rfl ?_
  refine rp_iload 4 dL_law_234 rfl ?_
  refine rp_iconst (5 : Int32) dL_law_236 (by decide) ?_
  refine rp_iadd dL_law_237 ?_
  refine rp_sld (hq 5 (by decide)) (hv 5 (by decide)) dL_law_238 ?_
  refine rp_i2l dL_law_239 ?_
  refine rp_bipush (32 : Int32) dL_law_240 (by decide) ?_
  refine rp_lshl dL_law_242 ?_
  refine rp_aload_n 0 dL_law_243 rfl ?_
  refine rp_iload 4 dL_law_244 rfl ?_
  refine rp_bipush (6 : Int32) dL_law_246 (by decide) ?_
  refine rp_iadd dL_law_248 ?_
  refine rp_sld (hq 6 (by decide)) (hv 6 (by decide)) dL_law_249 ?_
  refine rp_i2l dL_law_250 ?_
  refine rp_ldc2 (v := 4294967295) (mw (i := 1833) (by decide +kernel)) dL_law_251 ?_
  refine rp_land dL_law_254 ?_
  refine rp_lor dL_law_255 ?_
  refine rp_callVi [.long (((((q 1)).toInt64) <<< ((32 : Int32).toInt64 &&& 63)) ||| ((((q 2)).toInt64) &&& (4294967295 : Int64))), .long (((((q 3)).toInt64) <<< ((32 : Int32).toInt64 &&& 63)) ||| ((((q 4)).toInt64) &&& (4294967295 : Int64))), .long (((((q 5)).toInt64) <<< ((32 : Int32).toInt64 &&& 63)) ||| ((((q 6)).toInt64) &&& (4294967295 : Int64)))] (SX11_feed (hn := hn) 0 (((((q 1)).toInt64) <<< ((32 : Int32).toInt64 &&& 63)) ||| ((((q 2)).toInt64) &&& (4294967295 : Int64))) (((((q 3)).toInt64) <<< ((32 : Int32).toInt64 &&& 63)) ||| ((((q 4)).toInt64) &&& (4294967295 : Int64))) (((((q 5)).toInt64) <<< ((32 : Int32).toInt64 &&& 63)) ||| ((((q 6)).toInt64) &&& (4294967295 : Int64))) o0) cvX11_feed (mw (i := 410) (by decide +kernel)) (by omega) o0 (by decide) rfl rfl rfl (Nat.le_of_ble_eq_true rfl) dL_law_256 (fun x1 => ?_)
  refine rp_aload_n 2 dL_law_259 rfl ?_
  refine rp_aload_n 0 dL_law_260 rfl ?_
  refine rp_iload 4 dL_law_261 rfl ?_
  refine rp_iconst (1 : Int32) dL_law_263 (by decide) ?_
  refine rp_iadd dL_law_264 ?_
  refine rp_sld (hq 1 (by decide)) (hv 1 (by decide)) dL_law_265 ?_
  refine rp_i2l dL_law_266 ?_
  refine rp_bipush (32 : Int32) dL_law_267 (by decide) ?_
  refine rp_lshl dL_law_269 ?_
  refine rp_aload_n 0 dL_law_270 rfl ?_
  refine rp_iload 4 dL_law_271 rfl ?_
  refine rp_iconst (2 : Int32) dL_law_273 (by decide) ?_
  refine rp_iadd dL_law_274 ?_
  refine rp_sld (hq 2 (by decide)) (hv 2 (by decide)) dL_law_275 ?_
  refine rp_i2l dL_law_276 ?_
  refine rp_ldc2 (v := 4294967295) (mw (i := 1833) (by decide +kernel)) dL_law_277 ?_
  refine rp_land dL_law_280 ?_
  refine rp_lor dL_law_281 ?_
  refine rp_aload_n 0 dL_law_282 rfl ?_
  refine rp_iload 4 dL_law_283 rfl ?_
  refine rp_iconst (3 : Int32) dL_law_285 (by decide) ?_
  refine rp_iadd dL_law_286 ?_
  refine rp_sld (hq 3 (by decide)) (hv 3 (by decide)) dL_law_287 ?_
  refine rp_i2l dL_law_288 ?_
  refine rp_bipush (32 : Int32) dL_law_289 (by decide) ?_
  refine rp_lshl dL_law_291 ?_
  refine rp_aload_n 0 dL_law_292 rfl ?_
  refine rp_iload 4 dL_law_293 rfl ?_
  refine rp_iconst (4 : Int32) dL_law_295 (by decide) ?_
  refine rp_iadd dL_law_296 ?_
  refine rp_sld (hq 4 (by decide)) (hv 4 (by decide)) dL_law_297 ?_
  refine rp_i2l dL_law_298 ?_
  refine rp_ldc2 (v := 4294967295) (mw (i := 1833) (by decide +kernel)) dL_law_299 ?_
  refine rp_land dL_law_302 ?_
  refine rp_lor dL_law_303 ?_
  refine rp_aload_n 0 dL_law_304 rfl ?_
  refine rp_iload 4 dL_law_305 rfl ?_
  refine rp_iconst (5 : Int32) dL_law_307 (by decide) ?_
  refine rp_iadd dL_law_308 ?_
  refine rp_sld (hq 5 (by decide)) (hv 5 (by decide)) dL_law_309 ?_
  refine rp_i2l dL_law_310 ?_
  refine rp_bipush (32 : Int32) dL_law_311 (by decide) ?_
  refine rp_lshl dL_law_313 ?_
  refine rp_aload_n 0 dL_law_314 rfl ?_
  refine rp_iload 4 dL_law_315 rfl ?_
  refine rp_bipush (6 : Int32) dL_law_317 (by decide) ?_
  refine rp_iadd dL_law_319 ?_
  refine rp_sld (hq 6 (by decide)) (hv 6 (by decide)) dL_law_320 ?_
  refine rp_i2l dL_law_321 ?_
  refine rp_ldc2 (v := 4294967295) (mw (i := 1833) (by decide +kernel)) dL_law_322 ?_
  refine rp_land dL_law_325 ?_
  refine rp_lor dL_law_326 ?_
  refine rp_callVi [.long (((((q 1)).toInt64) <<< ((32 : Int32).toInt64 &&& 63)) ||| ((((q 2)).toInt64) &&& (4294967295 : Int64))), .long (((((q 3)).toInt64) <<< ((32 : Int32).toInt64 &&& 63)) ||| ((((q 4)).toInt64) &&& (4294967295 : Int64))), .long (((((q 5)).toInt64) <<< ((32 : Int32).toInt64 &&& 63)) ||| ((((q 6)).toInt64) &&& (4294967295 : Int64)))] (SX12_feed (hn := hn) 249 (((((q 1)).toInt64) <<< ((32 : Int32).toInt64 &&& 63)) ||| ((((q 2)).toInt64) &&& (4294967295 : Int64))) (((((q 3)).toInt64) <<< ((32 : Int32).toInt64 &&& 63)) ||| ((((q 4)).toInt64) &&& (4294967295 : Int64))) (((((q 5)).toInt64) <<< ((32 : Int32).toInt64 &&& 63)) ||| ((((q 6)).toInt64) &&& (4294967295 : Int64))) o249) cvX12_feed (mw (i := 1257) (by decide +kernel)) (by omega) o249 (by decide) rfl rfl rfl (Nat.le_of_ble_eq_true rfl) dL_law_327 (fun x2 => ?_)
  refine rp_icmp_eq 1290 dL_law_330 (by decide) ?_ ?_
  · exact rp_sub [0, 1, 2, 3, 4] rfl hE
  · exact rp_fl
noncomputable def TL_1 (chk : PP Unit) (q : Nat → Int32) : PP Unit := bd (FX11_street 0) (fun x3 => bd (FX12_street 249) (fun x4 => if x3 = x4 then chk else fl))
set_option maxHeartbeats 4000000 in
set_option maxRecDepth 100000 in
theorem LC_1 {l : Launch} {K : KK} {n : Nat} {chk : PP Unit} {zc zs b L : Nat} {xs : Nat → Int32} {x4 : Int32} {q : Nat → Int32} (hn : 270 ≤ n) (hE : RP l K n 200 mL_law (ZX K b L xs zc zs) 1290 [(0, .ref b), (1, .ref (K.2.1 + 0)), (2, .ref (K.2.1 + 249)), (3, .ref (K.2.1 + 270)), (4, .int x4)] [] enU (bd chk pu)) (hq : ∀ c, c < 7 → vp_in (x4 + Int32.ofNat c) L) (hv : ∀ c, c < 7 → xs (x4 + Int32.ofNat c).toNatClampNeg = q c) : RP l K n 200 mL_law (ZX K b L xs zc zs) 335 [(0, .ref b), (1, .ref (K.2.1 + 0)), (2, .ref (K.2.1 + 249)), (3, .ref (K.2.1 + 270)), (4, .int x4)] [] enU (TL_1 chk q) := by
  refine rp_id ?_
  unfold TL_1
  refine rp_aload_n 1 dL_law_335 rfl ?_
  refine rp_callVi [] (SX11_street (hn := hn) 0 o0) cvX11_street (mw (i := 418) (by decide +kernel)) (by omega) o0 (by decide) rfl rfl rfl (Nat.le_of_ble_eq_true rfl) dL_law_336 (fun x3 => ?_)
  refine rp_aload_n 2 dL_law_339 rfl ?_
  refine rp_callVi [] (SX12_street (hn := hn) 249 o249) cvX12_street (mw (i := 1409) (by decide +kernel)) (by omega) o249 (by decide) rfl rfl rfl (Nat.le_of_ble_eq_true rfl) dL_law_340 (fun x4 => ?_)
  refine rp_icmp_eq 1290 dL_law_343 (by decide) ?_ ?_
  · exact rp_sub [0, 1, 2, 3, 4] rfl hE
  · exact rp_fl
noncomputable def TL_2 (chk : PP Unit) (q : Nat → Int32) : PP Unit := bd (FX11_morning 0) (fun x5 => bd (FX12_morning 249) (fun x6 => if x5 = x6 then chk else fl))
set_option maxHeartbeats 4000000 in
set_option maxRecDepth 100000 in
theorem LC_2 {l : Launch} {K : KK} {n : Nat} {chk : PP Unit} {zc zs b L : Nat} {xs : Nat → Int32} {x4 : Int32} {q : Nat → Int32} (hn : 270 ≤ n) (hE : RP l K n 200 mL_law (ZX K b L xs zc zs) 1290 [(0, .ref b), (1, .ref (K.2.1 + 0)), (2, .ref (K.2.1 + 249)), (3, .ref (K.2.1 + 270)), (4, .int x4)] [] enU (bd chk pu)) (hq : ∀ c, c < 7 → vp_in (x4 + Int32.ofNat c) L) (hv : ∀ c, c < 7 → xs (x4 + Int32.ofNat c).toNatClampNeg = q c) : RP l K n 200 mL_law (ZX K b L xs zc zs) 348 [(0, .ref b), (1, .ref (K.2.1 + 0)), (2, .ref (K.2.1 + 249)), (3, .ref (K.2.1 + 270)), (4, .int x4)] [] enU (TL_2 chk q) := by
  refine rp_id ?_
  unfold TL_2
  refine rp_aload_n 1 dL_law_348 rfl ?_
  refine rp_callVi [] (SX11_morning (hn := hn) 0 o0) cvX11_morning (mw (i := 744) (by decide +kernel)) (by omega) o0 (by decide) rfl rfl rfl (Nat.le_of_ble_eq_true rfl) dL_law_349 (fun x5 => ?_)
  refine rp_aload_n 2 dL_law_352 rfl ?_
  refine rp_callVi [] (SX12_morning (hn := hn) 249 o249) cvX12_morning (mw (i := 1539) (by decide +kernel)) (by omega) o249 (by decide) rfl rfl rfl (Nat.le_of_ble_eq_true rfl) dL_law_353 (fun x6 => ?_)
  refine rp_icmp_eq 1290 dL_law_356 (by decide) ?_ ?_
  · exact rp_sub [0, 1, 2, 3, 4] rfl hE
  · exact rp_fl
noncomputable def TL_3 (chk : PP Unit) (q : Nat → Int32) : PP Unit := bd (FX11_line 0 ((q 1)) ((q 2))) (fun x7 => bd (FX12_line 249 ((q 1)) ((q 2))) (fun x8 => if x7 = x8 then chk else fl))
set_option maxHeartbeats 4000000 in
set_option maxRecDepth 100000 in
theorem LC_3 {l : Launch} {K : KK} {n : Nat} {chk : PP Unit} {zc zs b L : Nat} {xs : Nat → Int32} {x4 : Int32} {q : Nat → Int32} (hn : 270 ≤ n) (hE : RP l K n 200 mL_law (ZX K b L xs zc zs) 1290 [(0, .ref b), (1, .ref (K.2.1 + 0)), (2, .ref (K.2.1 + 249)), (3, .ref (K.2.1 + 270)), (4, .int x4)] [] enU (bd chk pu)) (hq : ∀ c, c < 7 → vp_in (x4 + Int32.ofNat c) L) (hv : ∀ c, c < 7 → xs (x4 + Int32.ofNat c).toNatClampNeg = q c) : RP l K n 200 mL_law (ZX K b L xs zc zs) 361 [(0, .ref b), (1, .ref (K.2.1 + 0)), (2, .ref (K.2.1 + 249)), (3, .ref (K.2.1 + 270)), (4, .int x4)] [] enU (TL_3 chk q) := by
  refine rp_id ?_
  unfold TL_3
  refine rp_aload_n 1 dL_law_361 rfl ?_
  refine rp_aload_n 0 dL_law_362 rfl ?_
  refine rp_iload 4 dL_law_363 rfl ?_
  refine rp_iconst (1 : Int32) dL_law_365 (by decide) ?_
  refine rp_iadd dL_law_366 ?_
  refine rp_sld (hq 1 (by decide)) (hv 1 (by decide)) dL_law_367 ?_
  refine rp_aload_n 0 dL_law_368 rfl ?_
  refine rp_iload 4 dL_law_369 rfl ?_
  refine rp_iconst (2 : Int32) dL_law_371 (by decide) ?_
  refine rp_iadd dL_law_372 ?_
  refine rp_sld (hq 2 (by decide)) (hv 2 (by decide)) dL_law_373 ?_
  refine rp_callVi [.int ((q 1)), .int ((q 2))] (SX11_line (hn := hn) 0 ((q 1)) ((q 2)) o0) cvX11_line (mw (i := 779) (by decide +kernel)) (by omega) o0 (by decide) rfl rfl rfl (Nat.le_of_ble_eq_true rfl) dL_law_374 (fun x7 => ?_)
  refine rp_aload_n 2 dL_law_377 rfl ?_
  refine rp_aload_n 0 dL_law_378 rfl ?_
  refine rp_iload 4 dL_law_379 rfl ?_
  refine rp_iconst (1 : Int32) dL_law_381 (by decide) ?_
  refine rp_iadd dL_law_382 ?_
  refine rp_sld (hq 1 (by decide)) (hv 1 (by decide)) dL_law_383 ?_
  refine rp_aload_n 0 dL_law_384 rfl ?_
  refine rp_iload 4 dL_law_385 rfl ?_
  refine rp_iconst (2 : Int32) dL_law_387 (by decide) ?_
  refine rp_iadd dL_law_388 ?_
  refine rp_sld (hq 2 (by decide)) (hv 2 (by decide)) dL_law_389 ?_
  refine rp_callVi [.int ((q 1)), .int ((q 2))] (SX12_line (hn := hn) 249 ((q 1)) ((q 2)) o249) cvX12_line (mw (i := 1543) (by decide +kernel)) (by omega) o249 (by decide) rfl rfl rfl (Nat.le_of_ble_eq_true rfl) dL_law_390 (fun x8 => ?_)
  refine rp_icmp_eq 1290 dL_law_393 (by decide) ?_ ?_
  · exact rp_sub [0, 1, 2, 3, 4] rfl hE
  · exact rp_fl
noncomputable def TL_4 (chk : PP Unit) (q : Nat → Int32) : PP Unit := bd (FX11_cloth 0 ((q 1)) ((q 2))) (fun x9 => bd (FX12_cloth 249 ((q 1)) ((q 2))) (fun x10 => if x9 = x10 then chk else fl))
set_option maxHeartbeats 4000000 in
set_option maxRecDepth 100000 in
theorem LC_4 {l : Launch} {K : KK} {n : Nat} {chk : PP Unit} {zc zs b L : Nat} {xs : Nat → Int32} {x4 : Int32} {q : Nat → Int32} (hn : 270 ≤ n) (hE : RP l K n 200 mL_law (ZX K b L xs zc zs) 1290 [(0, .ref b), (1, .ref (K.2.1 + 0)), (2, .ref (K.2.1 + 249)), (3, .ref (K.2.1 + 270)), (4, .int x4)] [] enU (bd chk pu)) (hq : ∀ c, c < 7 → vp_in (x4 + Int32.ofNat c) L) (hv : ∀ c, c < 7 → xs (x4 + Int32.ofNat c).toNatClampNeg = q c) : RP l K n 200 mL_law (ZX K b L xs zc zs) 398 [(0, .ref b), (1, .ref (K.2.1 + 0)), (2, .ref (K.2.1 + 249)), (3, .ref (K.2.1 + 270)), (4, .int x4)] [] enU (TL_4 chk q) := by
  refine rp_id ?_
  unfold TL_4
  refine rp_aload_n 1 dL_law_398 rfl ?_
  refine rp_aload_n 0 dL_law_399 rfl ?_
  refine rp_iload 4 dL_law_400 rfl ?_
  refine rp_iconst (1 : Int32) dL_law_402 (by decide) ?_
  refine rp_iadd dL_law_403 ?_
  refine rp_sld (hq 1 (by decide)) (hv 1 (by decide)) dL_law_404 ?_
  refine rp_aload_n 0 dL_law_405 rfl ?_
  refine rp_iload 4 dL_law_406 rfl ?_
  refine rp_iconst (2 : Int32) dL_law_408 (by decide) ?_
  refine rp_iadd dL_law_409 ?_
  refine rp_sld (hq 2 (by decide)) (hv 2 (by decide)) dL_law_410 ?_
  refine rp_callVi [.int ((q 1)), .int ((q 2))] (SX11_cloth (hn := hn) 0 ((q 1)) ((q 2)) o0) cvX11_cloth (mw (i := 792) (by decide +kernel)) (by omega) o0 (by decide) rfl rfl rfl (Nat.le_of_ble_eq_true rfl) dL_law_411 (fun x9 => ?_)
  refine rp_aload_n 2 dL_law_414 rfl ?_
  refine rp_aload_n 0 dL_law_415 rfl ?_
  refine rp_iload 4 dL_law_416 rfl ?_
  refine rp_iconst (1 : Int32) dL_law_418 (by decide) ?_
  refine rp_iadd dL_law_419 ?_
  refine rp_sld (hq 1 (by decide)) (hv 1 (by decide)) dL_law_420 ?_
  refine rp_aload_n 0 dL_law_421 rfl ?_
  refine rp_iload 4 dL_law_422 rfl ?_
  refine rp_iconst (2 : Int32) dL_law_424 (by decide) ?_
  refine rp_iadd dL_law_425 ?_
  refine rp_sld (hq 2 (by decide)) (hv 2 (by decide)) dL_law_426 ?_
  refine rp_callVi [.int ((q 1)), .int ((q 2))] (SX12_cloth (hn := hn) 249 ((q 1)) ((q 2)) o249) cvX12_cloth (mw (i := 1567) (by decide +kernel)) (by omega) o249 (by decide) rfl rfl rfl (Nat.le_of_ble_eq_true rfl) dL_law_427 (fun x10 => ?_)
  refine rp_icmp_eq 1290 dL_law_430 (by decide) ?_ ?_
  · exact rp_sub [0, 1, 2, 3, 4] rfl hE
  · exact rp_fl
noncomputable def TL_5 (chk : PP Unit) (q : Nat → Int32) : PP Unit := bd (FX11_place 0 ((q 1)) ((q 2))) (fun x11 => bd (FX12_place 249 ((q 1)) ((q 2))) (fun x12 => if x11 = x12 then chk else fl))
set_option maxHeartbeats 4000000 in
set_option maxRecDepth 100000 in
theorem LC_5 {l : Launch} {K : KK} {n : Nat} {chk : PP Unit} {zc zs b L : Nat} {xs : Nat → Int32} {x4 : Int32} {q : Nat → Int32} (hn : 270 ≤ n) (hE : RP l K n 200 mL_law (ZX K b L xs zc zs) 1290 [(0, .ref b), (1, .ref (K.2.1 + 0)), (2, .ref (K.2.1 + 249)), (3, .ref (K.2.1 + 270)), (4, .int x4)] [] enU (bd chk pu)) (hq : ∀ c, c < 7 → vp_in (x4 + Int32.ofNat c) L) (hv : ∀ c, c < 7 → xs (x4 + Int32.ofNat c).toNatClampNeg = q c) : RP l K n 200 mL_law (ZX K b L xs zc zs) 435 [(0, .ref b), (1, .ref (K.2.1 + 0)), (2, .ref (K.2.1 + 249)), (3, .ref (K.2.1 + 270)), (4, .int x4)] [] enU (TL_5 chk q) := by
  refine rp_id ?_
  unfold TL_5
  refine rp_aload_n 1 dL_law_435 rfl ?_
  refine rp_aload_n 0 dL_law_436 rfl ?_
  refine rp_iload 4 dL_law_437 rfl ?_
  refine rp_iconst (1 : Int32) dL_law_439 (by decide) ?_
  refine rp_iadd dL_law_440 ?_
  refine rp_sld (hq 1 (by decide)) (hv 1 (by decide)) dL_law_441 ?_
  refine rp_aload_n 0 dL_law_442 rfl ?_
  refine rp_iload 4 dL_law_443 rfl ?_
  refine rp_iconst (2 : Int32) dL_law_445 (by decide) ?_
  refine rp_iadd dL_law_446 ?_
  refine rp_sld (hq 2 (by decide)) (hv 2 (by decide)) dL_law_447 ?_
  refine rp_callVi [.int ((q 1)), .int ((q 2))] (SX11_place (hn := hn) 0 ((q 1)) ((q 2)) o0) cvX11_place (mw (i := 800) (by decide +kernel)) (by omega) o0 (by decide) rfl rfl rfl (Nat.le_of_ble_eq_true rfl) dL_law_448 (fun x11 => ?_)
  refine rp_aload_n 2 dL_law_451 rfl ?_
  refine rp_aload_n 0 dL_law_452 rfl ?_
  refine rp_iload 4 dL_law_453 rfl ?_
  refine rp_iconst (1 : Int32) dL_law_455 (by decide) ?_
  refine rp_iadd dL_law_456 ?_
  refine rp_sld (hq 1 (by decide)) (hv 1 (by decide)) dL_law_457 ?_
  refine rp_aload_n 0 dL_law_458 rfl ?_
  refine rp_iload 4 dL_law_459 rfl ?_
  refine rp_iconst (2 : Int32) dL_law_461 (by decide) ?_
  refine rp_iadd dL_law_462 ?_
  refine rp_sld (hq 2 (by decide)) (hv 2 (by decide)) dL_law_463 ?_
  refine rp_callVi [.int ((q 1)), .int ((q 2))] (SX12_place (hn := hn) 249 ((q 1)) ((q 2)) o249) cvX12_place (mw (i := 1575) (by decide +kernel)) (by omega) o249 (by decide) rfl rfl rfl (Nat.le_of_ble_eq_true rfl) dL_law_464 (fun x12 => ?_)
  refine rp_icmp_eq 1290 dL_law_467 (by decide) ?_ ?_
  · exact rp_sub [0, 1, 2, 3, 4] rfl hE
  · exact rp_fl
noncomputable def TL_6 (chk : PP Unit) (q : Nat → Int32) : PP Unit := bd (FX11_hang 0 ((q 1)) ((q 2)) ((q 3))) (fun x13 => bd (FX12_hang 249 ((q 1)) ((q 2)) ((q 3))) (fun x14 => if x13 = x14 then chk else fl))
set_option maxHeartbeats 4000000 in
set_option maxRecDepth 100000 in
theorem LC_6 {l : Launch} {K : KK} {n : Nat} {chk : PP Unit} {zc zs b L : Nat} {xs : Nat → Int32} {x4 : Int32} {q : Nat → Int32} (hn : 270 ≤ n) (hE : RP l K n 200 mL_law (ZX K b L xs zc zs) 1290 [(0, .ref b), (1, .ref (K.2.1 + 0)), (2, .ref (K.2.1 + 249)), (3, .ref (K.2.1 + 270)), (4, .int x4)] [] enU (bd chk pu)) (hq : ∀ c, c < 7 → vp_in (x4 + Int32.ofNat c) L) (hv : ∀ c, c < 7 → xs (x4 + Int32.ofNat c).toNatClampNeg = q c) : RP l K n 200 mL_law (ZX K b L xs zc zs) 472 [(0, .ref b), (1, .ref (K.2.1 + 0)), (2, .ref (K.2.1 + 249)), (3, .ref (K.2.1 + 270)), (4, .int x4)] [] enU (TL_6 chk q) := by
  refine rp_id ?_
  unfold TL_6
  refine rp_aload_n 1 dL_law_472 rfl ?_
  refine rp_aload_n 0 dL_law_473 rfl ?_
  refine rp_iload 4 dL_law_474 rfl ?_
  refine rp_iconst (1 : Int32) dL_law_476 (by decide) ?_
  refine rp_iadd dL_law_477 ?_
  refine rp_sld (hq 1 (by decide)) (hv 1 (by decide)) dL_law_478 ?_
  refine rp_aload_n 0 dL_law_479 rfl ?_
  refine rp_iload 4 dL_law_480 rfl ?_
  refine rp_iconst (2 : Int32) dL_law_482 (by decide) ?_
  refine rp_iadd dL_law_483 ?_
  refine rp_sld (hq 2 (by decide)) (hv 2 (by decide)) dL_law_484 ?_
  refine rp_aload_n 0 dL_law_485 rfl ?_
  refine rp_iload 4 dL_law_486 rfl ?_
  refine rp_iconst (3 : Int32) dL_law_488 (by decide) ?_
  refine rp_iadd dL_law_489 ?_
  refine rp_sld (hq 3 (by decide)) (hv 3 (by decide)) dL_law_490 ?_
  refine rp_callVi [.int ((q 1)), .int ((q 2)), .int ((q 3))] (SX11_hang (hn := hn) 0 ((q 1)) ((q 2)) ((q 3)) o0) cvX11_hang (mw (i := 848) (by decide +kernel)) (by omega) o0 (by decide) rfl rfl rfl (Nat.le_of_ble_eq_true rfl) dL_law_491 (fun x13 => ?_)
  refine rp_aload_n 2 dL_law_494 rfl ?_
  refine rp_aload_n 0 dL_law_495 rfl ?_
  refine rp_iload 4 dL_law_496 rfl ?_
  refine rp_iconst (1 : Int32) dL_law_498 (by decide) ?_
  refine rp_iadd dL_law_499 ?_
  refine rp_sld (hq 1 (by decide)) (hv 1 (by decide)) dL_law_500 ?_
  refine rp_aload_n 0 dL_law_501 rfl ?_
  refine rp_iload 4 dL_law_502 rfl ?_
  refine rp_iconst (2 : Int32) dL_law_504 (by decide) ?_
  refine rp_iadd dL_law_505 ?_
  refine rp_sld (hq 2 (by decide)) (hv 2 (by decide)) dL_law_506 ?_
  refine rp_aload_n 0 dL_law_507 rfl ?_
  refine rp_iload 4 dL_law_508 rfl ?_
  refine rp_iconst (3 : Int32) dL_law_510 (by decide) ?_
  refine rp_iadd dL_law_511 ?_
  refine rp_sld (hq 3 (by decide)) (hv 3 (by decide)) dL_law_512 ?_
  refine rp_callVi [.int ((q 1)), .int ((q 2)), .int ((q 3))] (SX12_hang (hn := hn) 249 ((q 1)) ((q 2)) ((q 3)) o249) cvX12_hang (mw (i := 1611) (by decide +kernel)) (by omega) o249 (by decide) rfl rfl rfl (Nat.le_of_ble_eq_true rfl) dL_law_513 (fun x14 => ?_)
  refine rp_icmp_eq 1290 dL_law_516 (by decide) ?_ ?_
  · exact rp_sub [0, 1, 2, 3, 4] rfl hE
  · exact rp_fl
noncomputable def TL_7 (chk : PP Unit) (q : Nat → Int32) : PP Unit := bd (FX11_take 0 ((q 1))) (fun x15 => bd (FX12_take 249 ((q 1))) (fun x16 => if x15 = x16 then chk else fl))
set_option maxHeartbeats 4000000 in
set_option maxRecDepth 100000 in
theorem LC_7 {l : Launch} {K : KK} {n : Nat} {chk : PP Unit} {zc zs b L : Nat} {xs : Nat → Int32} {x4 : Int32} {q : Nat → Int32} (hn : 270 ≤ n) (hE : RP l K n 200 mL_law (ZX K b L xs zc zs) 1290 [(0, .ref b), (1, .ref (K.2.1 + 0)), (2, .ref (K.2.1 + 249)), (3, .ref (K.2.1 + 270)), (4, .int x4)] [] enU (bd chk pu)) (hq : ∀ c, c < 7 → vp_in (x4 + Int32.ofNat c) L) (hv : ∀ c, c < 7 → xs (x4 + Int32.ofNat c).toNatClampNeg = q c) : RP l K n 200 mL_law (ZX K b L xs zc zs) 521 [(0, .ref b), (1, .ref (K.2.1 + 0)), (2, .ref (K.2.1 + 249)), (3, .ref (K.2.1 + 270)), (4, .int x4)] [] enU (TL_7 chk q) := by
  refine rp_id ?_
  unfold TL_7
  refine rp_aload_n 1 dL_law_521 rfl ?_
  refine rp_aload_n 0 dL_law_522 rfl ?_
  refine rp_iload 4 dL_law_523 rfl ?_
  refine rp_iconst (1 : Int32) dL_law_525 (by decide) ?_
  refine rp_iadd dL_law_526 ?_
  refine rp_sld (hq 1 (by decide)) (hv 1 (by decide)) dL_law_527 ?_
  refine rp_callVi [.int ((q 1))] (SX11_take (hn := hn) 0 ((q 1)) o0) cvX11_take (mw (i := 876) (by decide +kernel)) (by omega) o0 (by decide) rfl rfl rfl (Nat.le_of_ble_eq_true rfl) dL_law_528 (fun x15 => ?_)
  refine rp_aload_n 2 dL_law_531 rfl ?_
  refine rp_aload_n 0 dL_law_532 rfl ?_
  refine rp_iload 4 dL_law_533 rfl ?_
  refine rp_iconst (1 : Int32) dL_law_535 (by decide) ?_
  refine rp_iadd dL_law_536 ?_
  refine rp_sld (hq 1 (by decide)) (hv 1 (by decide)) dL_law_537 ?_
  refine rp_callVi [.int ((q 1))] (SX12_take (hn := hn) 249 ((q 1)) o249) cvX12_take (mw (i := 1631) (by decide +kernel)) (by omega) o249 (by decide) rfl rfl rfl (Nat.le_of_ble_eq_true rfl) dL_law_538 (fun x16 => ?_)
  refine rp_icmp_eq 1290 dL_law_541 (by decide) ?_ ?_
  · exact rp_sub [0, 1, 2, 3, 4] rfl hE
  · exact rp_fl
noncomputable def TL_8 (chk : PP Unit) (q : Nat → Int32) : PP Unit := bd (FX11_wash 0 ((q 1))) (fun x17 => bd (FX12_wash 249 ((q 1))) (fun x18 => if ((b2i x17)) = ((b2i x18)) then chk else fl))
set_option maxHeartbeats 4000000 in
set_option maxRecDepth 100000 in
theorem LC_8 {l : Launch} {K : KK} {n : Nat} {chk : PP Unit} {zc zs b L : Nat} {xs : Nat → Int32} {x4 : Int32} {q : Nat → Int32} (hn : 270 ≤ n) (hE : RP l K n 200 mL_law (ZX K b L xs zc zs) 1290 [(0, .ref b), (1, .ref (K.2.1 + 0)), (2, .ref (K.2.1 + 249)), (3, .ref (K.2.1 + 270)), (4, .int x4)] [] enU (bd chk pu)) (hq : ∀ c, c < 7 → vp_in (x4 + Int32.ofNat c) L) (hv : ∀ c, c < 7 → xs (x4 + Int32.ofNat c).toNatClampNeg = q c) : RP l K n 200 mL_law (ZX K b L xs zc zs) 546 [(0, .ref b), (1, .ref (K.2.1 + 0)), (2, .ref (K.2.1 + 249)), (3, .ref (K.2.1 + 270)), (4, .int x4)] [] enU (TL_8 chk q) := by
  refine rp_id ?_
  unfold TL_8
  refine rp_aload_n 1 dL_law_546 rfl ?_
  refine rp_aload_n 0 dL_law_547 rfl ?_
  refine rp_iload 4 dL_law_548 rfl ?_
  refine rp_iconst (1 : Int32) dL_law_550 (by decide) ?_
  refine rp_iadd dL_law_551 ?_
  refine rp_sld (hq 1 (by decide)) (hv 1 (by decide)) dL_law_552 ?_
  refine rp_callVz [.int ((q 1))] (SX11_wash (hn := hn) 0 ((q 1)) o0) cvX11_wash (mw (i := 888) (by decide +kernel)) (by omega) o0 (by decide) rfl rfl rfl (Nat.le_of_ble_eq_true rfl) dL_law_553 (fun x17 => ?_)
  refine rp_aload_n 2 dL_law_556 rfl ?_
  refine rp_aload_n 0 dL_law_557 rfl ?_
  refine rp_iload 4 dL_law_558 rfl ?_
  refine rp_iconst (1 : Int32) dL_law_560 (by decide) ?_
  refine rp_iadd dL_law_561 ?_
  refine rp_sld (hq 1 (by decide)) (hv 1 (by decide)) dL_law_562 ?_
  refine rp_callVz [.int ((q 1))] (SX12_wash (hn := hn) 249 ((q 1)) o249) cvX12_wash (mw (i := 1639) (by decide +kernel)) (by omega) o249 (by decide) rfl rfl rfl (Nat.le_of_ble_eq_true rfl) dL_law_563 (fun x18 => ?_)
  refine rp_icmp_eq 1290 dL_law_566 (by decide) ?_ ?_
  · exact rp_sub [0, 1, 2, 3, 4] rfl hE
  · exact rp_fl
noncomputable def TL_9 (chk : PP Unit) (q : Nat → Int32) : PP Unit := bd (FX11_hour 0) (fun x19 => bd (FX12_hour 249) (fun x20 => if x19 = x20 then chk else fl))
set_option maxHeartbeats 4000000 in
set_option maxRecDepth 100000 in
theorem LC_9 {l : Launch} {K : KK} {n : Nat} {chk : PP Unit} {zc zs b L : Nat} {xs : Nat → Int32} {x4 : Int32} {q : Nat → Int32} (hn : 270 ≤ n) (hE : RP l K n 200 mL_law (ZX K b L xs zc zs) 1290 [(0, .ref b), (1, .ref (K.2.1 + 0)), (2, .ref (K.2.1 + 249)), (3, .ref (K.2.1 + 270)), (4, .int x4)] [] enU (bd chk pu)) (hq : ∀ c, c < 7 → vp_in (x4 + Int32.ofNat c) L) (hv : ∀ c, c < 7 → xs (x4 + Int32.ofNat c).toNatClampNeg = q c) : RP l K n 200 mL_law (ZX K b L xs zc zs) 571 [(0, .ref b), (1, .ref (K.2.1 + 0)), (2, .ref (K.2.1 + 249)), (3, .ref (K.2.1 + 270)), (4, .int x4)] [] enU (TL_9 chk q) := by
  refine rp_id ?_
  unfold TL_9
  refine rp_aload_n 1 dL_law_571 rfl ?_
  refine rp_callVi [] (SX11_hour (hn := hn) 0 o0) cvX11_hour (mw (i := 897) (by decide +kernel)) (by omega) o0 (by decide) rfl rfl rfl (Nat.le_of_ble_eq_true rfl) dL_law_572 (fun x19 => ?_)
  refine rp_aload_n 2 dL_law_575 rfl ?_
  refine rp_callVi [] (SX12_hour (hn := hn) 249 o249) cvX12_hour (mw (i := 1643) (by decide +kernel)) (by omega) o249 (by decide) rfl rfl rfl (Nat.le_of_ble_eq_true rfl) dL_law_576 (fun x20 => ?_)
  refine rp_icmp_eq 1290 dL_law_579 (by decide) ?_ ?_
  · exact rp_sub [0, 1, 2, 3, 4] rfl hE
  · exact rp_fl
noncomputable def TL_10 (chk : PP Unit) (q : Nat → Int32) : PP Unit := bd (FX11_undo 0) (fun x21 => bd (FX12_undo 249) (fun x22 => if ((b2i x21)) = ((b2i x22)) then chk else fl))
set_option maxHeartbeats 4000000 in
set_option maxRecDepth 100000 in
theorem LC_10 {l : Launch} {K : KK} {n : Nat} {chk : PP Unit} {zc zs b L : Nat} {xs : Nat → Int32} {x4 : Int32} {q : Nat → Int32} (hn : 270 ≤ n) (hE : RP l K n 200 mL_law (ZX K b L xs zc zs) 1290 [(0, .ref b), (1, .ref (K.2.1 + 0)), (2, .ref (K.2.1 + 249)), (3, .ref (K.2.1 + 270)), (4, .int x4)] [] enU (bd chk pu)) (hq : ∀ c, c < 7 → vp_in (x4 + Int32.ofNat c) L) (hv : ∀ c, c < 7 → xs (x4 + Int32.ofNat c).toNatClampNeg = q c) : RP l K n 200 mL_law (ZX K b L xs zc zs) 584 [(0, .ref b), (1, .ref (K.2.1 + 0)), (2, .ref (K.2.1 + 249)), (3, .ref (K.2.1 + 270)), (4, .int x4)] [] enU (TL_10 chk q) := by
  refine rp_id ?_
  unfold TL_10
  refine rp_aload_n 1 dL_law_584 rfl ?_
  refine rp_callVz [] (SX11_undo (hn := hn) 0 o0) cvX11_undo (mw (i := 922) (by decide +kernel)) (by omega) o0 (by decide) rfl rfl rfl (Nat.le_of_ble_eq_true rfl) dL_law_585 (fun x21 => ?_)
  refine rp_aload_n 2 dL_law_588 rfl ?_
  refine rp_callVz [] (SX12_undo (hn := hn) 249 o249) cvX12_undo (mw (i := 1658) (by decide +kernel)) (by omega) o249 (by decide) rfl rfl rfl (Nat.le_of_ble_eq_true rfl) dL_law_589 (fun x22 => ?_)
  refine rp_icmp_eq 1290 dL_law_592 (by decide) ?_ ?_
  · exact rp_sub [0, 1, 2, 3, 4] rfl hE
  · exact rp_fl
noncomputable def TL_11 (chk : PP Unit) (q : Nat → Int32) : PP Unit := bd (FX11_judged 0 ((q 1))) (fun x23 => bd (FX12_judged 249 ((q 1))) (fun x24 => if x23 = x24 then chk else fl))
set_option maxHeartbeats 4000000 in
set_option maxRecDepth 100000 in
theorem LC_11 {l : Launch} {K : KK} {n : Nat} {chk : PP Unit} {zc zs b L : Nat} {xs : Nat → Int32} {x4 : Int32} {q : Nat → Int32} (hn : 270 ≤ n) (hE : RP l K n 200 mL_law (ZX K b L xs zc zs) 1290 [(0, .ref b), (1, .ref (K.2.1 + 0)), (2, .ref (K.2.1 + 249)), (3, .ref (K.2.1 + 270)), (4, .int x4)] [] enU (bd chk pu)) (hq : ∀ c, c < 7 → vp_in (x4 + Int32.ofNat c) L) (hv : ∀ c, c < 7 → xs (x4 + Int32.ofNat c).toNatClampNeg = q c) : RP l K n 200 mL_law (ZX K b L xs zc zs) 597 [(0, .ref b), (1, .ref (K.2.1 + 0)), (2, .ref (K.2.1 + 249)), (3, .ref (K.2.1 + 270)), (4, .int x4)] [] enU (TL_11 chk q) := by
  refine rp_id ?_
  unfold TL_11
  refine rp_aload_n 1 dL_law_597 rfl ?_
  refine rp_aload_n 0 dL_law_598 rfl ?_
  refine rp_iload 4 dL_law_599 rfl ?_
  refine rp_iconst (1 : Int32) dL_law_601 (by decide) ?_
  refine rp_iadd dL_law_602 ?_
  refine rp_sld (hq 1 (by decide)) (hv 1 (by decide)) dL_law_603 ?_
  refine rp_callVi [.int ((q 1))] (SX11_judged (hn := hn) 0 ((q 1)) o0) cvX11_judged (mw (i := 954) (by decide +kernel)) (by omega) o0 (by decide) rfl rfl rfl (Nat.le_of_ble_eq_true rfl) dL_law_604 (fun x23 => ?_)
  refine rp_aload_n 2 dL_law_607 rfl ?_
  refine rp_aload_n 0 dL_law_608 rfl ?_
  refine rp_iload 4 dL_law_609 rfl ?_
  refine rp_iconst (1 : Int32) dL_law_611 (by decide) ?_
  refine rp_iadd dL_law_612 ?_
  refine rp_sld (hq 1 (by decide)) (hv 1 (by decide)) dL_law_613 ?_
  refine rp_callVi [.int ((q 1))] (SX12_judged (hn := hn) 249 ((q 1)) o249) cvX12_judged (mw (i := 1662) (by decide +kernel)) (by omega) o249 (by decide) rfl rfl rfl (Nat.le_of_ble_eq_true rfl) dL_law_614 (fun x24 => ?_)
  refine rp_icmp_eq 1290 dL_law_617 (by decide) ?_ ?_
  · exact rp_sub [0, 1, 2, 3, 4] rfl hE
  · exact rp_fl
noncomputable def TL_12 (chk : PP Unit) (q : Nat → Int32) : PP Unit := bd (FX11_later 0 ((q 1)) ((q 2))) (fun x25 => bd (FX12_later 249 ((q 1)) ((q 2))) (fun x26 => if x25 = x26 then chk else fl))
set_option maxHeartbeats 4000000 in
set_option maxRecDepth 100000 in
theorem LC_12 {l : Launch} {K : KK} {n : Nat} {chk : PP Unit} {zc zs b L : Nat} {xs : Nat → Int32} {x4 : Int32} {q : Nat → Int32} (hn : 270 ≤ n) (hE : RP l K n 200 mL_law (ZX K b L xs zc zs) 1290 [(0, .ref b), (1, .ref (K.2.1 + 0)), (2, .ref (K.2.1 + 249)), (3, .ref (K.2.1 + 270)), (4, .int x4)] [] enU (bd chk pu)) (hq : ∀ c, c < 7 → vp_in (x4 + Int32.ofNat c) L) (hv : ∀ c, c < 7 → xs (x4 + Int32.ofNat c).toNatClampNeg = q c) : RP l K n 200 mL_law (ZX K b L xs zc zs) 622 [(0, .ref b), (1, .ref (K.2.1 + 0)), (2, .ref (K.2.1 + 249)), (3, .ref (K.2.1 + 270)), (4, .int x4)] [] enU (TL_12 chk q) := by
  refine rp_id ?_
  unfold TL_12
  refine rp_aload_n 1 dL_law_622 rfl ?_
  refine rp_aload_n 0 dL_law_623 rfl ?_
  refine rp_iload 4 dL_law_624 rfl ?_
  refine rp_iconst (1 : Int32) dL_law_626 (by decide) ?_
  refine rp_iadd dL_law_627 ?_
  refine rp_sld (hq 1 (by decide)) (hv 1 (by decide)) dL_law_628 ?_
  refine rp_aload_n 0 dL_law_629 rfl ?_
  refine rp_iload 4 dL_law_630 rfl ?_
  refine rp_iconst (2 : Int32) dL_law_632 (by decide) ?_
  refine rp_iadd dL_law_633 ?_
  refine rp_sld (hq 2 (by decide)) (hv 2 (by decide)) dL_law_634 ?_
  refine rp_callVi [.int ((q 1)), .int ((q 2))] (SX11_later (hn := hn) 0 ((q 1)) ((q 2)) o0) cvX11_later (mw (i := 984) (by decide +kernel)) (by omega) o0 (by decide) rfl rfl rfl (Nat.le_of_ble_eq_true rfl) dL_law_635 (fun x25 => ?_)
  refine rp_aload_n 2 dL_law_638 rfl ?_
  refine rp_aload_n 0 dL_law_639 rfl ?_
  refine rp_iload 4 dL_law_640 rfl ?_
  refine rp_iconst (1 : Int32) dL_law_642 (by decide) ?_
  refine rp_iadd dL_law_643 ?_
  refine rp_sld (hq 1 (by decide)) (hv 1 (by decide)) dL_law_644 ?_
  refine rp_aload_n 0 dL_law_645 rfl ?_
  refine rp_iload 4 dL_law_646 rfl ?_
  refine rp_iconst (2 : Int32) dL_law_648 (by decide) ?_
  refine rp_iadd dL_law_649 ?_
  refine rp_sld (hq 2 (by decide)) (hv 2 (by decide)) dL_law_650 ?_
  refine rp_callVi [.int ((q 1)), .int ((q 2))] (SX12_later (hn := hn) 249 ((q 1)) ((q 2)) o249) cvX12_later (mw (i := 1674) (by decide +kernel)) (by omega) o249 (by decide) rfl rfl rfl (Nat.le_of_ble_eq_true rfl) dL_law_651 (fun x26 => ?_)
  refine rp_icmp_eq 1290 dL_law_654 (by decide) ?_ ?_
  · exact rp_sub [0, 1, 2, 3, 4] rfl hE
  · exact rp_fl
noncomputable def TL_13 (chk : PP Unit) (q : Nat → Int32) : PP Unit := bd (FX11_dry 0 ((q 1))) (fun x27 => bd (FX12_dry 249 ((q 1))) (fun x28 => if x27 = x28 then chk else fl))
set_option maxHeartbeats 4000000 in
set_option maxRecDepth 100000 in
theorem LC_13 {l : Launch} {K : KK} {n : Nat} {chk : PP Unit} {zc zs b L : Nat} {xs : Nat → Int32} {x4 : Int32} {q : Nat → Int32} (hn : 270 ≤ n) (hE : RP l K n 200 mL_law (ZX K b L xs zc zs) 1290 [(0, .ref b), (1, .ref (K.2.1 + 0)), (2, .ref (K.2.1 + 249)), (3, .ref (K.2.1 + 270)), (4, .int x4)] [] enU (bd chk pu)) (hq : ∀ c, c < 7 → vp_in (x4 + Int32.ofNat c) L) (hv : ∀ c, c < 7 → xs (x4 + Int32.ofNat c).toNatClampNeg = q c) : RP l K n 200 mL_law (ZX K b L xs zc zs) 659 [(0, .ref b), (1, .ref (K.2.1 + 0)), (2, .ref (K.2.1 + 249)), (3, .ref (K.2.1 + 270)), (4, .int x4)] [] enU (TL_13 chk q) := by
  refine rp_id ?_
  unfold TL_13
  refine rp_aload_n 1 dL_law_659 rfl ?_
  refine rp_aload_n 0 dL_law_660 rfl ?_
  refine rp_iload 4 dL_law_661 rfl ?_
  refine rp_iconst (1 : Int32) dL_law_663 (by decide) ?_
  refine rp_iadd dL_law_664 ?_
  refine rp_sld (hq 1 (by decide)) (hv 1 (by decide)) dL_law_665 ?_
  refine rp_callVi [.int ((q 1))] (SX11_dry (hn := hn) 0 ((q 1)) o0) cvX11_dry (mw (i := 989) (by decide +kernel)) (by omega) o0 (by decide) rfl rfl rfl (Nat.le_of_ble_eq_true rfl) dL_law_666 (fun x27 => ?_)
  refine rp_aload_n 2 dL_law_669 rfl ?_
  refine rp_aload_n 0 dL_law_670 rfl ?_
  refine rp_iload 4 dL_law_671 rfl ?_
  refine rp_iconst (1 : Int32) dL_law_673 (by decide) ?_
  refine rp_iadd dL_law_674 ?_
  refine rp_sld (hq 1 (by decide)) (hv 1 (by decide)) dL_law_675 ?_
  refine rp_callVi [.int ((q 1))] (SX12_dry (hn := hn) 249 ((q 1)) o249) cvX12_dry (mw (i := 1686) (by decide +kernel)) (by omega) o249 (by decide) rfl rfl rfl (Nat.le_of_ble_eq_true rfl) dL_law_676 (fun x28 => ?_)
  refine rp_icmp_eq 1290 dL_law_679 (by decide) ?_ ?_
  · exact rp_sub [0, 1, 2, 3, 4] rfl hE
  · exact rp_fl
noncomputable def TL_14 (chk : PP Unit) (q : Nat → Int32) : PP Unit := bd (FX11_clears 0 ((q 1))) (fun x29 => bd (FX12_clears 249 ((q 1))) (fun x30 => if x29 = x30 then chk else fl))
set_option maxHeartbeats 4000000 in
set_option maxRecDepth 100000 in
theorem LC_14 {l : Launch} {K : KK} {n : Nat} {chk : PP Unit} {zc zs b L : Nat} {xs : Nat → Int32} {x4 : Int32} {q : Nat → Int32} (hn : 270 ≤ n) (hE : RP l K n 200 mL_law (ZX K b L xs zc zs) 1290 [(0, .ref b), (1, .ref (K.2.1 + 0)), (2, .ref (K.2.1 + 249)), (3, .ref (K.2.1 + 270)), (4, .int x4)] [] enU (bd chk pu)) (hq : ∀ c, c < 7 → vp_in (x4 + Int32.ofNat c) L) (hv : ∀ c, c < 7 → xs (x4 + Int32.ofNat c).toNatClampNeg = q c) : RP l K n 200 mL_law (ZX K b L xs zc zs) 684 [(0, .ref b), (1, .ref (K.2.1 + 0)), (2, .ref (K.2.1 + 249)), (3, .ref (K.2.1 + 270)), (4, .int x4)] [] enU (TL_14 chk q) := by
  refine rp_id ?_
  unfold TL_14
  refine rp_aload_n 1 dL_law_684 rfl ?_
  refine rp_aload_n 0 dL_law_685 rfl ?_
  refine rp_iload 4 dL_law_686 rfl ?_
  refine rp_iconst (1 : Int32) dL_law_688 (by decide) ?_
  refine rp_iadd dL_law_689 ?_
  refine rp_sld (hq 1 (by decide)) (hv 1 (by decide)) dL_law_690 ?_
  refine rp_callVi [.int ((q 1))] (SX11_clears (hn := hn) 0 ((q 1)) o0) cvX11_clears (mw (i := 993) (by decide +kernel)) (by omega) o0 (by decide) rfl rfl rfl (Nat.le_of_ble_eq_true rfl) dL_law_691 (fun x29 => ?_)
  refine rp_aload_n 2 dL_law_694 rfl ?_
  refine rp_aload_n 0 dL_law_695 rfl ?_
  refine rp_iload 4 dL_law_696 rfl ?_
  refine rp_iconst (1 : Int32) dL_law_698 (by decide) ?_
  refine rp_iadd dL_law_699 ?_
  refine rp_sld (hq 1 (by decide)) (hv 1 (by decide)) dL_law_700 ?_
  refine rp_callVi [.int ((q 1))] (SX12_clears (hn := hn) 249 ((q 1)) o249) cvX12_clears (mw (i := 1698) (by decide +kernel)) (by omega) o249 (by decide) rfl rfl rfl (Nat.le_of_ble_eq_true rfl) dL_law_701 (fun x30 => ?_)
  refine rp_icmp_eq 1290 dL_law_704 (by decide) ?_ ?_
  · exact rp_sub [0, 1, 2, 3, 4] rfl hE
  · exact rp_fl
