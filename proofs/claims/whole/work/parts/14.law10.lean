def fL_c0 (L : Nat) (xs : Nat → Int32) (x3 : Int32) (a1 a2 : Nat) (k : AH → Option Int32) (h : AH) : Option Int32 :=
  ob1 (sc L xs (x3 + (1 : Int32))) fun v1 =>
  gd (ckO h a1 9) <|
  ob2 (fX9_towns a1 v1 h) fun r4 g5 =>
  ob1 (sc L xs (x3 + (1 : Int32))) fun v7 =>
  gd (ckO g5 a2 10) <|
  ob2 (fX10_towns a2 v7 g5) fun r10 g11 =>
  if r4 = r10 then
    k g11
  else
    some (0 : Int32)
set_option maxHeartbeats 4000000 in
set_option maxRecDepth 100000 in
theorem wL_c0 {p : Program} {l : Launch} {e : Env} {s : State} {m : MethodId} {args : Array Value} {below : List Frame} {meth : Method} {c : Code} {Q : State → Prop} {G : GG} {b0 : Nat} {h0 : AH} {b L : Nat} {xs : Nat → Int32} {x3 : Int32} {a1 a2 : Nat} {cb sb : Nat} (hcb : cb + 15 ≤ 600000) (hsb : sb + 105 ≤ 7302249) (K : CX p s m args meth c cL_law 4 RL ret G b0) (hX : va_X b L xs s s.heap) (hbl : b < s.heap.size) (hbA : ¬ AB b0 b) (k : AH → Option Int32) (hk : ∀ (h : AH), k h = some 1 → WA p l e room_1 s m args below meth c Q G b0 4 h0 (cb + 15) (sb + 105) h 1837 [(0, .ref b), (1, .ref a1), (2, .ref a2), (3, .int x3)] []) : ∀ (h : AH), fL_c0 L xs x3 a1 a2 k h = some 1 → WA p l e room_1 s m args below meth c Q G b0 4 h0 cb sb h 220 [(0, .ref b), (1, .ref a1), (2, .ref a2), (3, .int x3)] [] := by
  intro h hf
  unfold fL_c0 at hf
  refine r_aload_n K 1 dL_law_220 rfl ?_
  refine r_aload_n K 0 dL_law_221 rfl ?_
  refine r_iload_n K 3 dL_law_222 rfl ?_
  refine r_iconst (v := (1 : Int32)) K dL_law_223 (by decide) ?_
  refine r_iadd K dL_law_224 ?_
  obtain ⟨v1, e2, hf⟩ := ob1_s hf
  refine r_sld K hX hbl hbA dL_law_225 e2 ?_
  obtain ⟨z3, hf⟩ := gd_s hf
  obtain ⟨r4, g5, e6, hf⟩ := ob2_s hf
  refine r_callV (As := [.int v1]) (rest := []) (st1 := [.int r4]) (cells1 := cb) (slots1 := sb) (b := a1) (ci := 9) K (fun z => mX9_towns l z e6) dL_law_226 rfl (fun _ => isO_of z3) rfl ceX9_towns q_409 q_410 q_411 q_75 q_412 ⟨Nat.le_of_ble_eq_true rfl, Nat.le_of_ble_eq_true rfl⟩ (Nat.le_of_ble_eq_true rfl) ⟨by show cb ≤ 600000; omega, by show sb ≤ 7302249; omega⟩ ?_ rfl rfl rfl rfl
  refine r_aload_n K 2 dL_law_229 rfl ?_
  refine r_aload_n K 0 dL_law_230 rfl ?_
  refine r_iload_n K 3 dL_law_231 rfl ?_
  refine r_iconst (v := (1 : Int32)) K dL_law_232 (by decide) ?_
  refine r_iadd K dL_law_233 ?_
  obtain ⟨v7, e8, hf⟩ := ob1_s hf
  refine r_sld K hX hbl hbA dL_law_234 e8 ?_
  obtain ⟨z9, hf⟩ := gd_s hf
  obtain ⟨r10, g11, e12, hf⟩ := ob2_s hf
  refine r_callV (As := [.int v7]) (rest := [.int r4]) (st1 := [.int r10, .int r4]) (cells1 := cb) (slots1 := sb) (b := a2) (ci := 10) K (fun z => mX10_towns l z e12) dL_law_235 rfl (fun _ => isO_of z9) rfl ceX10_towns q_1000 q_1001 q_1002 q_85 q_1003 ⟨Nat.le_of_ble_eq_true rfl, Nat.le_of_ble_eq_true rfl⟩ (Nat.le_of_ble_eq_true rfl) ⟨by show cb ≤ 600000; omega, by show sb ≤ 7302249; omega⟩ ?_ rfl rfl rfl rfl
  refine r_icmp_eq (tgt := 1837) K dL_law_238 (by decide) (fun c13 => ?_) (fun c13 => ?_)
  · replace hf := ite_t hf c13
    refine r_wide (k1 := cb + 15) (n1 := sb + 105) (by omega) (by omega) ?_
    exact hk g11 hf
  · replace hf := ite_f hf c13
    refine r_iconst (v := (0 : Int32)) K dL_law_241 (by decide) ?_
    exact absurd hf (by decide)
def fL_c1 (L : Nat) (xs : Nat → Int32) (x3 : Int32) (a1 a2 : Nat) (k : AH → Option Int32) (h : AH) : Option Int32 :=
  ob1 (sc L xs (x3 + (1 : Int32))) fun v14 =>
  ob1 (sc L xs (x3 + (2 : Int32))) fun v16 =>
  ob1 (sc L xs (x3 + (3 : Int32))) fun v18 =>
  ob1 (sc L xs (x3 + (4 : Int32))) fun v20 =>
  ob1 (sc L xs (x3 + (5 : Int32))) fun v22 =>
  ob1 (sc L xs (x3 + (6 : Int32))) fun v24 =>
  ob1 (sc L xs (x3 + (7 : Int32))) fun v26 =>
  ob1 (sc L xs (x3 + (8 : Int32))) fun v28 =>
  ob1 (sc L xs (x3 + (9 : Int32))) fun v30 =>
  ob1 (sc L xs (x3 + (10 : Int32))) fun v32 =>
  gd (ckO h a1 9) <|
  ob2 (fX9_road a1 v14 v16 v18 (((Int32.toInt64 v20) <<< (Int32.toInt64 (32 : Int32) &&& 63)) ||| ((Int32.toInt64 v22) &&& (4294967295 : Int64))) (((Int32.toInt64 v24) <<< (Int32.toInt64 (32 : Int32) &&& 63)) ||| ((Int32.toInt64 v26) &&& (4294967295 : Int64))) (((Int32.toInt64 v28) <<< (Int32.toInt64 (32 : Int32) &&& 63)) ||| ((Int32.toInt64 v30) &&& (4294967295 : Int64))) v32 h) fun r35 g36 =>
  ob1 (sc L xs (x3 + (1 : Int32))) fun v38 =>
  ob1 (sc L xs (x3 + (2 : Int32))) fun v40 =>
  ob1 (sc L xs (x3 + (3 : Int32))) fun v42 =>
  ob1 (sc L xs (x3 + (4 : Int32))) fun v44 =>
  ob1 (sc L xs (x3 + (5 : Int32))) fun v46 =>
  ob1 (sc L xs (x3 + (6 : Int32))) fun v48 =>
  ob1 (sc L xs (x3 + (7 : Int32))) fun v50 =>
  ob1 (sc L xs (x3 + (8 : Int32))) fun v52 =>
  ob1 (sc L xs (x3 + (9 : Int32))) fun v54 =>
  ob1 (sc L xs (x3 + (10 : Int32))) fun v56 =>
  gd (ckO g36 a2 10) <|
  ob2 (fX10_road a2 v38 v40 v42 (((Int32.toInt64 v44) <<< (Int32.toInt64 (32 : Int32) &&& 63)) ||| ((Int32.toInt64 v46) &&& (4294967295 : Int64))) (((Int32.toInt64 v48) <<< (Int32.toInt64 (32 : Int32) &&& 63)) ||| ((Int32.toInt64 v50) &&& (4294967295 : Int64))) (((Int32.toInt64 v52) <<< (Int32.toInt64 (32 : Int32) &&& 63)) ||| ((Int32.toInt64 v54) &&& (4294967295 : Int64))) v56 g36) fun r59 g60 =>
  if r35 = r59 then
    k g60
  else
    some (0 : Int32)
set_option maxHeartbeats 4000000 in
set_option maxRecDepth 100000 in
theorem wL_c1 {p : Program} {l : Launch} {e : Env} {s : State} {m : MethodId} {args : Array Value} {below : List Frame} {meth : Method} {c : Code} {Q : State → Prop} {G : GG} {b0 : Nat} {h0 : AH} {b L : Nat} {xs : Nat → Int32} {x3 : Int32} {a1 a2 : Nat} {cb sb : Nat} (hcb : cb + 15 ≤ 600000) (hsb : sb + 105 ≤ 7302249) (K : CX p s m args meth c cL_law 4 RL ret G b0) (hX : va_X b L xs s s.heap) (hbl : b < s.heap.size) (hbA : ¬ AB b0 b) (k : AH → Option Int32) (hk : ∀ (h : AH), k h = some 1 → WA p l e room_1 s m args below meth c Q G b0 4 h0 (cb + 15) (sb + 105) h 1837 [(0, .ref b), (1, .ref a1), (2, .ref a2), (3, .int x3)] []) : ∀ (h : AH), fL_c1 L xs x3 a1 a2 k h = some 1 → WA p l e room_1 s m args below meth c Q G b0 4 h0 cb sb h 243 [(0, .ref b), (1, .ref a1), (2, .ref a2), (3, .int x3)] [] := by
  intro h hf
  unfold fL_c1 at hf
  refine r_aload_n K 1 dL_law_243 rfl ?_
  refine r_aload_n K 0 dL_law_244 rfl ?_
  refine r_iload_n K 3 dL_law_245 rfl ?_
  refine r_iconst (v := (1 : Int32)) K dL_law_246 (by decide) ?_
  refine r_iadd K dL_law_247 ?_
  obtain ⟨v14, e15, hf⟩ := ob1_s hf
  refine r_sld K hX hbl hbA dL_law_248 e15 ?_
  refine r_aload_n K 0 dL_law_249 rfl ?_
  refine r_iload_n K 3 dL_law_250 rfl ?_
  refine r_iconst (v := (2 : Int32)) K dL_law_251 (by decide) ?_
  refine r_iadd K dL_law_252 ?_
  obtain ⟨v16, e17, hf⟩ := ob1_s hf
  refine r_sld K hX hbl hbA dL_law_253 e17 ?_
  refine r_aload_n K 0 dL_law_254 rfl ?_
  refine r_iload_n K 3 dL_law_255 rfl ?_
  refine r_iconst (v := (3 : Int32)) K dL_law_256 (by decide) ?_
  refine r_iadd K dL_law_257 ?_
  obtain ⟨v18, e19, hf⟩ := ob1_s hf
  refine r_sld K hX hbl hbA dL_law_258 e19 ?_
  refine r_aload_n K 0 dL_law_259 rfl ?_
  refine r_iload_n K 3 dL_law_260 rfl ?_
  refine r_iconst (v := (4 : Int32)) K dL_law_261 (by decide) ?_
  refine r_iadd K dL_law_262 ?_
  obtain ⟨v20, e21, hf⟩ := ob1_s hf
  refine r_sld K hX hbl hbA dL_law_263 e21 ?_
  refine r_i2l K dL_law_264 ?_
  refine r_bipush (v := (32 : Int32)) K dL_law_265 (by decide) ?_
  refine r_lshl K dL_law_267 ?_
  refine r_aload_n K 0 dL_law_268 rfl ?_
  refine r_iload_n K 3 dL_law_269 rfl ?_
  refine r_iconst (v := (5 : Int32)) K dL_law_270 (by decide) ?_
  refine r_iadd K dL_law_271 ?_
  obtain ⟨v22, e23, hf⟩ := ob1_s hf
  refine r_sld K hX hbl hbA dL_law_272 e23 ?_
  refine r_i2l K dL_law_273 ?_
  refine r_ldc2 K dL_law_274 q_1407 ?_
  refine r_land K dL_law_277 ?_
  refine r_lor K dL_law_278 ?_
  refine r_aload_n K 0 dL_law_279 rfl ?_
  refine r_iload_n K 3 dL_law_280 rfl ?_
  refine r_bipush (v := (6 : Int32)) K dL_law_281 (by decide) ?_
  refine r_iadd K dL_law_283 ?_
  obtain ⟨v24, e25, hf⟩ := ob1_s hf
  refine r_sld K hX hbl hbA dL_law_284 e25 ?_
  refine r_i2l K dL_law_285 ?_
  refine r_bipush (v := (32 : Int32)) K dL_law_286 (by decide) ?_
  refine r_lshl K dL_law_288 ?_
  refine r_aload_n K 0 dL_law_289 rfl ?_
  refine r_iload_n K 3 dL_law_290 rfl ?_
  refine r_bipush (v := (7 : Int32)) K dL_law_291 (by decide) ?_
  refine r_iadd K dL_law_293 ?_
  obtain ⟨v26, e27, hf⟩ := ob1_s hf
  refine r_sld K hX hbl hbA dL_law_294 e27 ?_
  refine r_i2l K dL_law_295 ?_
  refine r_ldc2 K dL_law_296 q_1407 ?_
  refine r_land K dL_law_299 ?_
  refine r_lor K dL_law_300 ?_
  refine r_aload_n K 0 dL_law_301 rfl ?_
  refine r_iload_n K 3 dL_law_302 rfl ?_
  refine r_bipush (v := (8 : Int32)) K dL_law_303 (by decide) ?_
  refine r_iadd K dL_law_305 ?_
  obtain ⟨v28, e29, hf⟩ := ob1_s hf
  refine r_sld K hX hbl hbA dL_law_306 e29 ?_
  refine r_i2l K dL_law_307 ?_
  refine r_bipush (v := (32 : Int32)) K dL_law_308 (by decide) ?_
  refine r_lshl K dL_law_310 ?_
  refine r_aload_n K 0 dL_law_311 rfl ?_
  refine r_iload_n K 3 dL_law_312 rfl ?_
  refine r_bipush (v := (9 : Int32)) K dL_law_313 (by decide) ?_
  refine r_iadd K dL_law_315 ?_
  obtain ⟨v30, e31, hf⟩ := ob1_s hf
  refine r_sld K hX hbl hbA dL_law_316 e31 ?_
  refine r_i2l K dL_law_317 ?_
  refine r_ldc2 K dL_law_318 q_1407 ?_
  refine r_land K dL_law_321 ?_
  refine r_lor K dL_law_322 ?_
  refine r_aload_n K 0 dL_law_323 rfl ?_
  refine r_iload_n K 3 dL_law_324 rfl ?_
  refine r_bipush (v := (10 : Int32)) K dL_law_325 (by decide) ?_
  refine r_iadd K dL_law_327 ?_
  obtain ⟨v32, e33, hf⟩ := ob1_s hf
  refine r_sld K hX hbl hbA dL_law_328 e33 ?_
  obtain ⟨z34, hf⟩ := gd_s hf
  obtain ⟨r35, g36, e37, hf⟩ := ob2_s hf
  refine r_callV (As := [.int v14, .int v16, .int v18, .long (((Int32.toInt64 v20) <<< (Int32.toInt64 (32 : Int32) &&& 63)) ||| ((Int32.toInt64 v22) &&& (4294967295 : Int64))), .long (((Int32.toInt64 v24) <<< (Int32.toInt64 (32 : Int32) &&& 63)) ||| ((Int32.toInt64 v26) &&& (4294967295 : Int64))), .long (((Int32.toInt64 v28) <<< (Int32.toInt64 (32 : Int32) &&& 63)) ||| ((Int32.toInt64 v30) &&& (4294967295 : Int64))), .int v32]) (rest := []) (st1 := [.int r35]) (cells1 := cb + 1) (slots1 := sb + 7) (b := a1) (ci := 9) K (fun z => mX9_road l z e37) dL_law_329 rfl (fun _ => isO_of z34) rfl ceX9_road q_417 q_418 q_419 q_75 q_420 ⟨Nat.le_of_ble_eq_true rfl, Nat.le_of_ble_eq_true rfl⟩ (Nat.le_of_ble_eq_true rfl) ⟨by show cb + 1 ≤ 600000; omega, by show sb + 7 ≤ 7302249; omega⟩ ?_ rfl rfl rfl rfl
  refine r_aload_n K 2 dL_law_332 rfl ?_
  refine r_aload_n K 0 dL_law_333 rfl ?_
  refine r_iload_n K 3 dL_law_334 rfl ?_
  refine r_iconst (v := (1 : Int32)) K dL_law_335 (by decide) ?_
  refine r_iadd K dL_law_336 ?_
  obtain ⟨v38, e39, hf⟩ := ob1_s hf
  refine r_sld K hX hbl hbA dL_law_337 e39 ?_
  refine r_aload_n K 0 dL_law_338 rfl ?_
  refine r_iload_n K 3 dL_law_339 rfl ?_
  refine r_iconst (v := (2 : Int32)) K dL_law_340 (by decide) ?_
  refine r_iadd K dL_law_341 ?_
  obtain ⟨v40, e41, hf⟩ := ob1_s hf
  refine r_sld K hX hbl hbA dL_law_342 e41 ?_
  refine r_aload_n K 0 dL_law_343 rfl ?_
  refine r_iload_n K 3 dL_law_344 rfl ?_
  refine r_iconst (v := (3 : Int32)) K dL_law_345 (by decide) ?_
  refine r_iadd K dL_law_346 ?_
  obtain ⟨v42, e43, hf⟩ := ob1_s hf
  refine r_sld K hX hbl hbA dL_law_347 e43 ?_
  refine r_aload_n K 0 dL_law_348 rfl ?_
  refine r_iload_n K 3 dL_law_349 rfl ?_
  refine r_iconst (v := (4 : Int32)) K dL_law_350 (by decide) ?_
  refine r_iadd K dL_law_351 ?_
  obtain ⟨v44, e45, hf⟩ := ob1_s hf
  refine r_sld K hX hbl hbA dL_law_352 e45 ?_
  refine r_i2l K dL_law_353 ?_
  refine r_bipush (v := (32 : Int32)) K dL_law_354 (by decide) ?_
  refine r_lshl K dL_law_356 ?_
  refine r_aload_n K 0 dL_law_357 rfl ?_
  refine r_iload_n K 3 dL_law_358 rfl ?_
  refine r_iconst (v := (5 : Int32)) K dL_law_359 (by decide) ?_
  refine r_iadd K dL_law_360 ?_
  obtain ⟨v46, e47, hf⟩ := ob1_s hf
  refine r_sld K hX hbl hbA dL_law_361 e47 ?_
  refine r_i2l K dL_law_362 ?_
  refine r_ldc2 K dL_law_363 q_1407 ?_
  refine r_land K dL_law_366 ?_
  refine r_lor K dL_law_367 ?_
  refine r_aload_n K 0 dL_law_368 rfl ?_
  refine r_iload_n K 3 dL_law_369 rfl ?_
  refine r_bipush (v := (6 : Int32)) K dL_law_370 (by decide) ?_
  refine r_iadd K dL_law_372 ?_
  obtain ⟨v48, e49, hf⟩ := ob1_s hf
  refine r_sld K hX hbl hbA dL_law_373 e49 ?_
  refine r_i2l K dL_law_374 ?_
  refine r_bipush (v := (32 : Int32)) K dL_law_375 (by decide) ?_
  refine r_lshl K dL_law_377 ?_
  refine r_aload_n K 0 dL_law_378 rfl ?_
  refine r_iload_n K 3 dL_law_379 rfl ?_
  refine r_bipush (v := (7 : Int32)) K dL_law_380 (by decide) ?_
  refine r_iadd K dL_law_382 ?_
  obtain ⟨v50, e51, hf⟩ := ob1_s hf
  refine r_sld K hX hbl hbA dL_law_383 e51 ?_
  refine r_i2l K dL_law_384 ?_
  refine r_ldc2 K dL_law_385 q_1407 ?_
  refine r_land K dL_law_388 ?_
  refine r_lor K dL_law_389 ?_
  refine r_aload_n K 0 dL_law_390 rfl ?_
  refine r_iload_n K 3 dL_law_391 rfl ?_
  refine r_bipush (v := (8 : Int32)) K dL_law_392 (by decide) ?_
  refine r_iadd K dL_law_394 ?_
  obtain ⟨v52, e53, hf⟩ := ob1_s hf
  refine r_sld K hX hbl hbA dL_law_395 e53 ?_
  refine r_i2l K dL_law_396 ?_
  refine r_bipush (v := (32 : Int32)) K dL_law_397 (by decide) ?_
  refine r_lshl K dL_law_399 ?_
  refine r_aload_n K 0 dL_law_400 rfl ?_
  refine r_iload_n K 3 dL_law_401 rfl ?_
  refine r_bipush (v := (9 : Int32)) K dL_law_402 (by decide) ?_
  refine r_iadd K dL_law_404 ?_
  obtain ⟨v54, e55, hf⟩ := ob1_s hf
  refine r_sld K hX hbl hbA dL_law_405 e55 ?_
  refine r_i2l K dL_law_406 ?_
  refine r_ldc2 K dL_law_407 q_1407 ?_
  refine r_land K dL_law_410 ?_
  refine r_lor K dL_law_411 ?_
  refine r_aload_n K 0 dL_law_412 rfl ?_
  refine r_iload_n K 3 dL_law_413 rfl ?_
  refine r_bipush (v := (10 : Int32)) K dL_law_414 (by decide) ?_
  refine r_iadd K dL_law_416 ?_
  obtain ⟨v56, e57, hf⟩ := ob1_s hf
  refine r_sld K hX hbl hbA dL_law_417 e57 ?_
  obtain ⟨z58, hf⟩ := gd_s hf
  obtain ⟨r59, g60, e61, hf⟩ := ob2_s hf
  refine r_callV (As := [.int v38, .int v40, .int v42, .long (((Int32.toInt64 v44) <<< (Int32.toInt64 (32 : Int32) &&& 63)) ||| ((Int32.toInt64 v46) &&& (4294967295 : Int64))), .long (((Int32.toInt64 v48) <<< (Int32.toInt64 (32 : Int32) &&& 63)) ||| ((Int32.toInt64 v50) &&& (4294967295 : Int64))), .long (((Int32.toInt64 v52) <<< (Int32.toInt64 (32 : Int32) &&& 63)) ||| ((Int32.toInt64 v54) &&& (4294967295 : Int64))), .int v56]) (rest := [.int r35]) (st1 := [.int r59, .int r35]) (cells1 := cb + 1) (slots1 := sb + 7) (b := a2) (ci := 10) K (fun z => mX10_road l z e61) dL_law_418 rfl (fun _ => isO_of z58) rfl ceX10_road q_1008 q_1009 q_1010 q_85 q_1011 ⟨Nat.le_of_ble_eq_true rfl, Nat.le_of_ble_eq_true rfl⟩ (Nat.le_of_ble_eq_true rfl) ⟨by show cb + 1 ≤ 600000; omega, by show sb + 7 ≤ 7302249; omega⟩ ?_ rfl rfl rfl rfl
  refine r_icmp_eq (tgt := 1837) K dL_law_421 (by decide) (fun c62 => ?_) (fun c62 => ?_)
  · replace hf := ite_t hf c62
    refine r_wide (k1 := cb + 15) (n1 := sb + 105) (by omega) (by omega) ?_
    exact hk g60 hf
  · replace hf := ite_f hf c62
    refine r_iconst (v := (0 : Int32)) K dL_law_424 (by decide) ?_
    exact absurd hf (by decide)
def fL_c2 (L : Nat) (xs : Nat → Int32) (x3 : Int32) (a1 a2 : Nat) (k : AH → Option Int32) (h : AH) : Option Int32 :=
  ob1 (sc L xs (x3 + (1 : Int32))) fun v63 =>
  gd (ckO h a1 9) <|
  ob2 (fX9_close a1 v63 h) fun r66 g67 =>
  ob1 (sc L xs (x3 + (1 : Int32))) fun v69 =>
  gd (ckO g67 a2 10) <|
  ob2 (fX10_close a2 v69 g67) fun r72 g73 =>
  if r66 = r72 then
    k g73
  else
    some (0 : Int32)
set_option maxHeartbeats 4000000 in
set_option maxRecDepth 100000 in
theorem wL_c2 {p : Program} {l : Launch} {e : Env} {s : State} {m : MethodId} {args : Array Value} {below : List Frame} {meth : Method} {c : Code} {Q : State → Prop} {G : GG} {b0 : Nat} {h0 : AH} {b L : Nat} {xs : Nat → Int32} {x3 : Int32} {a1 a2 : Nat} {cb sb : Nat} (hcb : cb + 15 ≤ 600000) (hsb : sb + 105 ≤ 7302249) (K : CX p s m args meth c cL_law 4 RL ret G b0) (hX : va_X b L xs s s.heap) (hbl : b < s.heap.size) (hbA : ¬ AB b0 b) (k : AH → Option Int32) (hk : ∀ (h : AH), k h = some 1 → WA p l e room_1 s m args below meth c Q G b0 4 h0 (cb + 15) (sb + 105) h 1837 [(0, .ref b), (1, .ref a1), (2, .ref a2), (3, .int x3)] []) : ∀ (h : AH), fL_c2 L xs x3 a1 a2 k h = some 1 → WA p l e room_1 s m args below meth c Q G b0 4 h0 cb sb h 426 [(0, .ref b), (1, .ref a1), (2, .ref a2), (3, .int x3)] [] := by
  intro h hf
  unfold fL_c2 at hf
  refine r_aload_n K 1 dL_law_426 rfl ?_
  refine r_aload_n K 0 dL_law_427 rfl ?_
  refine r_iload_n K 3 dL_law_428 rfl ?_
  refine r_iconst (v := (1 : Int32)) K dL_law_429 (by decide) ?_
  refine r_iadd K dL_law_430 ?_
  obtain ⟨v63, e64, hf⟩ := ob1_s hf
  refine r_sld K hX hbl hbA dL_law_431 e64 ?_
  obtain ⟨z65, hf⟩ := gd_s hf
  obtain ⟨r66, g67, e68, hf⟩ := ob2_s hf
  refine r_callV (As := [.int v63]) (rest := []) (st1 := [.int r66]) (cells1 := cb) (slots1 := sb) (b := a1) (ci := 9) K (fun z => mX9_close l z e68) dL_law_432 rfl (fun _ => isO_of z65) rfl ceX9_close q_444 q_445 q_446 q_75 q_447 ⟨Nat.le_of_ble_eq_true rfl, Nat.le_of_ble_eq_true rfl⟩ (Nat.le_of_ble_eq_true rfl) ⟨by show cb ≤ 600000; omega, by show sb ≤ 7302249; omega⟩ ?_ rfl rfl rfl rfl
  refine r_aload_n K 2 dL_law_435 rfl ?_
  refine r_aload_n K 0 dL_law_436 rfl ?_
  refine r_iload_n K 3 dL_law_437 rfl ?_
  refine r_iconst (v := (1 : Int32)) K dL_law_438 (by decide) ?_
  refine r_iadd K dL_law_439 ?_
  obtain ⟨v69, e70, hf⟩ := ob1_s hf
  refine r_sld K hX hbl hbA dL_law_440 e70 ?_
  obtain ⟨z71, hf⟩ := gd_s hf
  obtain ⟨r72, g73, e74, hf⟩ := ob2_s hf
  refine r_callV (As := [.int v69]) (rest := [.int r66]) (st1 := [.int r72, .int r66]) (cells1 := cb) (slots1 := sb) (b := a2) (ci := 10) K (fun z => mX10_close l z e74) dL_law_441 rfl (fun _ => isO_of z71) rfl ceX10_close q_1032 q_1033 q_1034 q_85 q_1035 ⟨Nat.le_of_ble_eq_true rfl, Nat.le_of_ble_eq_true rfl⟩ (Nat.le_of_ble_eq_true rfl) ⟨by show cb ≤ 600000; omega, by show sb ≤ 7302249; omega⟩ ?_ rfl rfl rfl rfl
  refine r_icmp_eq (tgt := 1837) K dL_law_444 (by decide) (fun c75 => ?_) (fun c75 => ?_)
  · replace hf := ite_t hf c75
    refine r_wide (k1 := cb + 15) (n1 := sb + 105) (by omega) (by omega) ?_
    exact hk g73 hf
  · replace hf := ite_f hf c75
    refine r_iconst (v := (0 : Int32)) K dL_law_447 (by decide) ?_
    exact absurd hf (by decide)
def fL_c3 (L : Nat) (xs : Nat → Int32) (x3 : Int32) (a1 a2 : Nat) (k : AH → Option Int32) (h : AH) : Option Int32 :=
  ob1 (sc L xs (x3 + (1 : Int32))) fun v76 =>
  ob1 (sc L xs (x3 + (2 : Int32))) fun v78 =>
  ob1 (sc L xs (x3 + (3 : Int32))) fun v80 =>
  gd (ckO h a1 9) <|
  ob2 (fX9_toll a1 v76 (((Int32.toInt64 v78) <<< (Int32.toInt64 (32 : Int32) &&& 63)) ||| ((Int32.toInt64 v80) &&& (4294967295 : Int64))) h) fun r83 g84 =>
  ob1 (sc L xs (x3 + (1 : Int32))) fun v86 =>
  ob1 (sc L xs (x3 + (2 : Int32))) fun v88 =>
  ob1 (sc L xs (x3 + (3 : Int32))) fun v90 =>
  gd (ckO g84 a2 10) <|
  ob2 (fX10_toll a2 v86 (((Int32.toInt64 v88) <<< (Int32.toInt64 (32 : Int32) &&& 63)) ||| ((Int32.toInt64 v90) &&& (4294967295 : Int64))) g84) fun r93 g94 =>
  if r83 = r93 then
    k g94
  else
    some (0 : Int32)
set_option maxHeartbeats 4000000 in
set_option maxRecDepth 100000 in
theorem wL_c3 {p : Program} {l : Launch} {e : Env} {s : State} {m : MethodId} {args : Array Value} {below : List Frame} {meth : Method} {c : Code} {Q : State → Prop} {G : GG} {b0 : Nat} {h0 : AH} {b L : Nat} {xs : Nat → Int32} {x3 : Int32} {a1 a2 : Nat} {cb sb : Nat} (hcb : cb + 15 ≤ 600000) (hsb : sb + 105 ≤ 7302249) (K : CX p s m args meth c cL_law 4 RL ret G b0) (hX : va_X b L xs s s.heap) (hbl : b < s.heap.size) (hbA : ¬ AB b0 b) (k : AH → Option Int32) (hk : ∀ (h : AH), k h = some 1 → WA p l e room_1 s m args below meth c Q G b0 4 h0 (cb + 15) (sb + 105) h 1837 [(0, .ref b), (1, .ref a1), (2, .ref a2), (3, .int x3)] []) : ∀ (h : AH), fL_c3 L xs x3 a1 a2 k h = some 1 → WA p l e room_1 s m args below meth c Q G b0 4 h0 cb sb h 449 [(0, .ref b), (1, .ref a1), (2, .ref a2), (3, .int x3)] [] := by
  intro h hf
  unfold fL_c3 at hf
  refine r_aload_n K 1 dL_law_449 rfl ?_
  refine r_aload_n K 0 dL_law_450 rfl ?_
  refine r_iload_n K 3 dL_law_451 rfl ?_
  refine r_iconst (v := (1 : Int32)) K dL_law_452 (by decide) ?_
  refine r_iadd K dL_law_453 ?_
  obtain ⟨v76, e77, hf⟩ := ob1_s hf
  refine r_sld K hX hbl hbA dL_law_454 e77 ?_
  refine r_aload_n K 0 dL_law_455 rfl ?_
  refine r_iload_n K 3 dL_law_456 rfl ?_
  refine r_iconst (v := (2 : Int32)) K dL_law_457 (by decide) ?_
  refine r_iadd K dL_law_458 ?_
  obtain ⟨v78, e79, hf⟩ := ob1_s hf
  refine r_sld K hX hbl hbA dL_law_459 e79 ?_
  refine r_i2l K dL_law_460 ?_
  refine r_bipush (v := (32 : Int32)) K dL_law_461 (by decide) ?_
  refine r_lshl K dL_law_463 ?_
  refine r_aload_n K 0 dL_law_464 rfl ?_
  refine r_iload_n K 3 dL_law_465 rfl ?_
  refine r_iconst (v := (3 : Int32)) K dL_law_466 (by decide) ?_
  refine r_iadd K dL_law_467 ?_
  obtain ⟨v80, e81, hf⟩ := ob1_s hf
  refine r_sld K hX hbl hbA dL_law_468 e81 ?_
  refine r_i2l K dL_law_469 ?_
  refine r_ldc2 K dL_law_470 q_1407 ?_
  refine r_land K dL_law_473 ?_
  refine r_lor K dL_law_474 ?_
  obtain ⟨z82, hf⟩ := gd_s hf
  obtain ⟨r83, g84, e85, hf⟩ := ob2_s hf
  refine r_callV (As := [.int v76, .long (((Int32.toInt64 v78) <<< (Int32.toInt64 (32 : Int32) &&& 63)) ||| ((Int32.toInt64 v80) &&& (4294967295 : Int64)))]) (rest := []) (st1 := [.long r83]) (cells1 := cb) (slots1 := sb) (b := a1) (ci := 9) K (fun z => mX9_toll l z e85) dL_law_475 rfl (fun _ => isO_of z82) rfl ceX9_toll q_456 q_457 q_458 q_75 q_459 ⟨Nat.le_of_ble_eq_true rfl, Nat.le_of_ble_eq_true rfl⟩ (Nat.le_of_ble_eq_true rfl) ⟨by show cb ≤ 600000; omega, by show sb ≤ 7302249; omega⟩ ?_ rfl rfl rfl rfl
  refine r_aload_n K 2 dL_law_478 rfl ?_
  refine r_aload_n K 0 dL_law_479 rfl ?_
  refine r_iload_n K 3 dL_law_480 rfl ?_
  refine r_iconst (v := (1 : Int32)) K dL_law_481 (by decide) ?_
  refine r_iadd K dL_law_482 ?_
  obtain ⟨v86, e87, hf⟩ := ob1_s hf
  refine r_sld K hX hbl hbA dL_law_483 e87 ?_
  refine r_aload_n K 0 dL_law_484 rfl ?_
  refine r_iload_n K 3 dL_law_485 rfl ?_
  refine r_iconst (v := (2 : Int32)) K dL_law_486 (by decide) ?_
  refine r_iadd K dL_law_487 ?_
  obtain ⟨v88, e89, hf⟩ := ob1_s hf
  refine r_sld K hX hbl hbA dL_law_488 e89 ?_
  refine r_i2l K dL_law_489 ?_
  refine r_bipush (v := (32 : Int32)) K dL_law_490 (by decide) ?_
  refine r_lshl K dL_law_492 ?_
  refine r_aload_n K 0 dL_law_493 rfl ?_
  refine r_iload_n K 3 dL_law_494 rfl ?_
  refine r_iconst (v := (3 : Int32)) K dL_law_495 (by decide) ?_
  refine r_iadd K dL_law_496 ?_
  obtain ⟨v90, e91, hf⟩ := ob1_s hf
  refine r_sld K hX hbl hbA dL_law_497 e91 ?_
  refine r_i2l K dL_law_498 ?_
  refine r_ldc2 K dL_law_499 q_1407 ?_
  refine r_land K dL_law_502 ?_
  refine r_lor K dL_law_503 ?_
  obtain ⟨z92, hf⟩ := gd_s hf
  obtain ⟨r93, g94, e95, hf⟩ := ob2_s hf
  refine r_callV (As := [.int v86, .long (((Int32.toInt64 v88) <<< (Int32.toInt64 (32 : Int32) &&& 63)) ||| ((Int32.toInt64 v90) &&& (4294967295 : Int64)))]) (rest := [.long r83]) (st1 := [.long r93, .long r83]) (cells1 := cb) (slots1 := sb) (b := a2) (ci := 10) K (fun z => mX10_toll l z e95) dL_law_504 rfl (fun _ => isO_of z92) rfl ceX10_toll q_1044 q_1045 q_1046 q_85 q_1047 ⟨Nat.le_of_ble_eq_true rfl, Nat.le_of_ble_eq_true rfl⟩ (Nat.le_of_ble_eq_true rfl) ⟨by show cb ≤ 600000; omega, by show sb ≤ 7302249; omega⟩ ?_ rfl rfl rfl rfl
  refine r_lif_eq (tgt := 1837) K dL_law_507 dL_law_508 (by decide) (fun c96 => ?_) (fun c96 => ?_)
  · replace hf := ite_t hf c96
    refine r_wide (k1 := cb + 15) (n1 := sb + 105) (by omega) (by omega) ?_
    exact hk g94 hf
  · replace hf := ite_f hf c96
    refine r_iconst (v := (0 : Int32)) K dL_law_511 (by decide) ?_
    exact absurd hf (by decide)
def fL_c4 (L : Nat) (xs : Nat → Int32) (x3 : Int32) (a1 a2 : Nat) (k : AH → Option Int32) (h : AH) : Option Int32 :=
  ob1 (sc L xs (x3 + (1 : Int32))) fun v97 =>
  ob1 (sc L xs (x3 + (2 : Int32))) fun v99 =>
  gd (ckO h a1 9) <|
  ob1 (fX9_of a1 v97 v99 h) fun r102 =>
  ob1 (sc L xs (x3 + (1 : Int32))) fun v104 =>
  ob1 (sc L xs (x3 + (2 : Int32))) fun v106 =>
  gd (ckO h a2 10) <|
  ob1 (fX10_of a2 v104 v106 h) fun r109 =>
  if r102 = r109 then
    k h
  else
    some (0 : Int32)
set_option maxHeartbeats 4000000 in
set_option maxRecDepth 100000 in
theorem wL_c4 {p : Program} {l : Launch} {e : Env} {s : State} {m : MethodId} {args : Array Value} {below : List Frame} {meth : Method} {c : Code} {Q : State → Prop} {G : GG} {b0 : Nat} {h0 : AH} {b L : Nat} {xs : Nat → Int32} {x3 : Int32} {a1 a2 : Nat} {cb sb : Nat} (hcb : cb + 15 ≤ 600000) (hsb : sb + 105 ≤ 7302249) (K : CX p s m args meth c cL_law 4 RL ret G b0) (hX : va_X b L xs s s.heap) (hbl : b < s.heap.size) (hbA : ¬ AB b0 b) (k : AH → Option Int32) (hk : ∀ (h : AH), k h = some 1 → WA p l e room_1 s m args below meth c Q G b0 4 h0 (cb + 15) (sb + 105) h 1837 [(0, .ref b), (1, .ref a1), (2, .ref a2), (3, .int x3)] []) : ∀ (h : AH), fL_c4 L xs x3 a1 a2 k h = some 1 → WA p l e room_1 s m args below meth c Q G b0 4 h0 cb sb h 513 [(0, .ref b), (1, .ref a1), (2, .ref a2), (3, .int x3)] [] := by
  intro h hf
  unfold fL_c4 at hf
  refine r_aload_n K 1 dL_law_513 rfl ?_
  refine r_aload_n K 0 dL_law_514 rfl ?_
  refine r_iload_n K 3 dL_law_515 rfl ?_
  refine r_iconst (v := (1 : Int32)) K dL_law_516 (by decide) ?_
  refine r_iadd K dL_law_517 ?_
  obtain ⟨v97, e98, hf⟩ := ob1_s hf
  refine r_sld K hX hbl hbA dL_law_518 e98 ?_
  refine r_aload_n K 0 dL_law_519 rfl ?_
  refine r_iload_n K 3 dL_law_520 rfl ?_
  refine r_iconst (v := (2 : Int32)) K dL_law_521 (by decide) ?_
  refine r_iadd K dL_law_522 ?_
  obtain ⟨v99, e100, hf⟩ := ob1_s hf
  refine r_sld K hX hbl hbA dL_law_523 e100 ?_
  obtain ⟨z101, hf⟩ := gd_s hf
  obtain ⟨r102, e103, hf⟩ := ob1_s hf
  refine r_callV (As := [.int v97, .int v99]) (rest := []) (st1 := [.long r102]) (cells1 := cb) (slots1 := sb) (b := a1) (ci := 9) K (fun z => mX9_of l z e103) dL_law_524 rfl (fun _ => isO_of z101) rfl ceX9_of q_463 q_464 q_465 q_75 q_466 ⟨Nat.le_of_ble_eq_true rfl, Nat.le_of_ble_eq_true rfl⟩ (Nat.le_of_ble_eq_true rfl) ⟨by show cb ≤ 600000; omega, by show sb ≤ 7302249; omega⟩ ?_ rfl rfl rfl rfl
  refine r_aload_n K 2 dL_law_527 rfl ?_
  refine r_aload_n K 0 dL_law_528 rfl ?_
  refine r_iload_n K 3 dL_law_529 rfl ?_
  refine r_iconst (v := (1 : Int32)) K dL_law_530 (by decide) ?_
  refine r_iadd K dL_law_531 ?_
  obtain ⟨v104, e105, hf⟩ := ob1_s hf
  refine r_sld K hX hbl hbA dL_law_532 e105 ?_
  refine r_aload_n K 0 dL_law_533 rfl ?_
  refine r_iload_n K 3 dL_law_534 rfl ?_
  refine r_iconst (v := (2 : Int32)) K dL_law_535 (by decide) ?_
  refine r_iadd K dL_law_536 ?_
  obtain ⟨v106, e107, hf⟩ := ob1_s hf
  refine r_sld K hX hbl hbA dL_law_537 e107 ?_
  obtain ⟨z108, hf⟩ := gd_s hf
  obtain ⟨r109, e110, hf⟩ := ob1_s hf
  refine r_callV (As := [.int v104, .int v106]) (rest := [.long r102]) (st1 := [.long r109, .long r102]) (cells1 := cb) (slots1 := sb) (b := a2) (ci := 10) K (fun z => mX10_of l z e110) dL_law_538 rfl (fun _ => isO_of z108) rfl ceX10_of q_1055 q_1056 q_1057 q_85 q_1058 ⟨Nat.le_of_ble_eq_true rfl, Nat.le_of_ble_eq_true rfl⟩ (Nat.le_of_ble_eq_true rfl) ⟨by show cb ≤ 600000; omega, by show sb ≤ 7302249; omega⟩ ?_ rfl rfl rfl rfl
  refine r_lif_eq (tgt := 1837) K dL_law_541 dL_law_542 (by decide) (fun c111 => ?_) (fun c111 => ?_)
  · replace hf := ite_t hf c111
    refine r_wide (k1 := cb + 15) (n1 := sb + 105) (by omega) (by omega) ?_
    exact hk h hf
  · replace hf := ite_f hf c111
    refine r_iconst (v := (0 : Int32)) K dL_law_545 (by decide) ?_
    exact absurd hf (by decide)
def fL_c5 (L : Nat) (xs : Nat → Int32) (x3 : Int32) (a1 a2 : Nat) (k : AH → Option Int32) (h : AH) : Option Int32 :=
  ob1 (sc L xs (x3 + (1 : Int32))) fun v112 =>
  ob1 (sc L xs (x3 + (2 : Int32))) fun v114 =>
  ob1 (sc L xs (x3 + (3 : Int32))) fun v116 =>
  gd (ckO h a1 9) <|
  ob1 (fX9_cost a1 v112 v114 v116 h) fun r119 =>
  ob1 (sc L xs (x3 + (1 : Int32))) fun v121 =>
  ob1 (sc L xs (x3 + (2 : Int32))) fun v123 =>
  ob1 (sc L xs (x3 + (3 : Int32))) fun v125 =>
  gd (ckO h a2 10) <|
  ob1 (fX10_cost a2 v121 v123 v125 h) fun r128 =>
  if r119 = r128 then
    k h
  else
    some (0 : Int32)
set_option maxHeartbeats 4000000 in
set_option maxRecDepth 100000 in
theorem wL_c5 {p : Program} {l : Launch} {e : Env} {s : State} {m : MethodId} {args : Array Value} {below : List Frame} {meth : Method} {c : Code} {Q : State → Prop} {G : GG} {b0 : Nat} {h0 : AH} {b L : Nat} {xs : Nat → Int32} {x3 : Int32} {a1 a2 : Nat} {cb sb : Nat} (hcb : cb + 15 ≤ 600000) (hsb : sb + 105 ≤ 7302249) (K : CX p s m args meth c cL_law 4 RL ret G b0) (hX : va_X b L xs s s.heap) (hbl : b < s.heap.size) (hbA : ¬ AB b0 b) (k : AH → Option Int32) (hk : ∀ (h : AH), k h = some 1 → WA p l e room_1 s m args below meth c Q G b0 4 h0 (cb + 15) (sb + 105) h 1837 [(0, .ref b), (1, .ref a1), (2, .ref a2), (3, .int x3)] []) : ∀ (h : AH), fL_c5 L xs x3 a1 a2 k h = some 1 → WA p l e room_1 s m args below meth c Q G b0 4 h0 cb sb h 547 [(0, .ref b), (1, .ref a1), (2, .ref a2), (3, .int x3)] [] := by
  intro h hf
  unfold fL_c5 at hf
  refine r_aload_n K 1 dL_law_547 rfl ?_
  refine r_aload_n K 0 dL_law_548 rfl ?_
  refine r_iload_n K 3 dL_law_549 rfl ?_
  refine r_iconst (v := (1 : Int32)) K dL_law_550 (by decide) ?_
  refine r_iadd K dL_law_551 ?_
  obtain ⟨v112, e113, hf⟩ := ob1_s hf
  refine r_sld K hX hbl hbA dL_law_552 e113 ?_
  refine r_aload_n K 0 dL_law_553 rfl ?_
  refine r_iload_n K 3 dL_law_554 rfl ?_
  refine r_iconst (v := (2 : Int32)) K dL_law_555 (by decide) ?_
  refine r_iadd K dL_law_556 ?_
  obtain ⟨v114, e115, hf⟩ := ob1_s hf
  refine r_sld K hX hbl hbA dL_law_557 e115 ?_
  refine r_aload_n K 0 dL_law_558 rfl ?_
  refine r_iload_n K 3 dL_law_559 rfl ?_
  refine r_iconst (v := (3 : Int32)) K dL_law_560 (by decide) ?_
  refine r_iadd K dL_law_561 ?_
  obtain ⟨v116, e117, hf⟩ := ob1_s hf
  refine r_sld K hX hbl hbA dL_law_562 e117 ?_
  obtain ⟨z118, hf⟩ := gd_s hf
  obtain ⟨r119, e120, hf⟩ := ob1_s hf
  refine r_callV (As := [.int v112, .int v114, .int v116]) (rest := []) (st1 := [.long r119]) (cells1 := cb) (slots1 := sb) (b := a1) (ci := 9) K (fun z => mX9_cost l z e120) dL_law_563 rfl (fun _ => isO_of z118) rfl ceX9_cost q_468 q_469 q_470 q_75 q_471 ⟨Nat.le_of_ble_eq_true rfl, Nat.le_of_ble_eq_true rfl⟩ (Nat.le_of_ble_eq_true rfl) ⟨by show cb ≤ 600000; omega, by show sb ≤ 7302249; omega⟩ ?_ rfl rfl rfl rfl
  refine r_aload_n K 2 dL_law_566 rfl ?_
  refine r_aload_n K 0 dL_law_567 rfl ?_
  refine r_iload_n K 3 dL_law_568 rfl ?_
  refine r_iconst (v := (1 : Int32)) K dL_law_569 (by decide) ?_
  refine r_iadd K dL_law_570 ?_
  obtain ⟨v121, e122, hf⟩ := ob1_s hf
  refine r_sld K hX hbl hbA dL_law_571 e122 ?_
  refine r_aload_n K 0 dL_law_572 rfl ?_
  refine r_iload_n K 3 dL_law_573 rfl ?_
  refine r_iconst (v := (2 : Int32)) K dL_law_574 (by decide) ?_
  refine r_iadd K dL_law_575 ?_
  obtain ⟨v123, e124, hf⟩ := ob1_s hf
  refine r_sld K hX hbl hbA dL_law_576 e124 ?_
  refine r_aload_n K 0 dL_law_577 rfl ?_
  refine r_iload_n K 3 dL_law_578 rfl ?_
  refine r_iconst (v := (3 : Int32)) K dL_law_579 (by decide) ?_
  refine r_iadd K dL_law_580 ?_
  obtain ⟨v125, e126, hf⟩ := ob1_s hf
  refine r_sld K hX hbl hbA dL_law_581 e126 ?_
  obtain ⟨z127, hf⟩ := gd_s hf
  obtain ⟨r128, e129, hf⟩ := ob1_s hf
  refine r_callV (As := [.int v121, .int v123, .int v125]) (rest := [.long r119]) (st1 := [.long r128, .long r119]) (cells1 := cb) (slots1 := sb) (b := a2) (ci := 10) K (fun z => mX10_cost l z e129) dL_law_582 rfl (fun _ => isO_of z127) rfl ceX10_cost q_1061 q_1062 q_1063 q_85 q_1064 ⟨Nat.le_of_ble_eq_true rfl, Nat.le_of_ble_eq_true rfl⟩ (Nat.le_of_ble_eq_true rfl) ⟨by show cb ≤ 600000; omega, by show sb ≤ 7302249; omega⟩ ?_ rfl rfl rfl rfl
  refine r_lif_eq (tgt := 1837) K dL_law_585 dL_law_586 (by decide) (fun c130 => ?_) (fun c130 => ?_)
  · replace hf := ite_t hf c130
    refine r_wide (k1 := cb + 15) (n1 := sb + 105) (by omega) (by omega) ?_
    exact hk h hf
  · replace hf := ite_f hf c130
    refine r_iconst (v := (0 : Int32)) K dL_law_589 (by decide) ?_
    exact absurd hf (by decide)
def fL_c6 (L : Nat) (xs : Nat → Int32) (x3 : Int32) (a1 a2 : Nat) (k : AH → Option Int32) (h : AH) : Option Int32 :=
  ob1 (sc L xs (x3 + (1 : Int32))) fun v131 =>
  ob1 (sc L xs (x3 + (2 : Int32))) fun v133 =>
  ob1 (sc L xs (x3 + (3 : Int32))) fun v135 =>
  gd (ckO h a1 9) <|
  ob2 (fX9_drivers a1 v131 v133 v135 h) fun r138 g139 =>
  ob1 (sc L xs (x3 + (1 : Int32))) fun v141 =>
  ob1 (sc L xs (x3 + (2 : Int32))) fun v143 =>
  ob1 (sc L xs (x3 + (3 : Int32))) fun v145 =>
  gd (ckO g139 a2 10) <|
  ob2 (fX10_drivers a2 v141 v143 v145 g139) fun r148 g149 =>
  if r138 = r148 then
    k g149
  else
    some (0 : Int32)
set_option maxHeartbeats 4000000 in
set_option maxRecDepth 100000 in
theorem wL_c6 {p : Program} {l : Launch} {e : Env} {s : State} {m : MethodId} {args : Array Value} {below : List Frame} {meth : Method} {c : Code} {Q : State → Prop} {G : GG} {b0 : Nat} {h0 : AH} {b L : Nat} {xs : Nat → Int32} {x3 : Int32} {a1 a2 : Nat} {cb sb : Nat} (hcb : cb + 15 ≤ 600000) (hsb : sb + 105 ≤ 7302249) (K : CX p s m args meth c cL_law 4 RL ret G b0) (hX : va_X b L xs s s.heap) (hbl : b < s.heap.size) (hbA : ¬ AB b0 b) (k : AH → Option Int32) (hk : ∀ (h : AH), k h = some 1 → WA p l e room_1 s m args below meth c Q G b0 4 h0 (cb + 15) (sb + 105) h 1837 [(0, .ref b), (1, .ref a1), (2, .ref a2), (3, .int x3)] []) : ∀ (h : AH), fL_c6 L xs x3 a1 a2 k h = some 1 → WA p l e room_1 s m args below meth c Q G b0 4 h0 cb sb h 591 [(0, .ref b), (1, .ref a1), (2, .ref a2), (3, .int x3)] [] := by
  intro h hf
  unfold fL_c6 at hf
  refine r_aload_n K 1 dL_law_591 rfl ?_
  refine r_aload_n K 0 dL_law_592 rfl ?_
  refine r_iload_n K 3 dL_law_593 rfl ?_
  refine r_iconst (v := (1 : Int32)) K dL_law_594 (by decide) ?_
  refine r_iadd K dL_law_595 ?_
  obtain ⟨v131, e132, hf⟩ := ob1_s hf
  refine r_sld K hX hbl hbA dL_law_596 e132 ?_
  refine r_aload_n K 0 dL_law_597 rfl ?_
  refine r_iload_n K 3 dL_law_598 rfl ?_
  refine r_iconst (v := (2 : Int32)) K dL_law_599 (by decide) ?_
  refine r_iadd K dL_law_600 ?_
  obtain ⟨v133, e134, hf⟩ := ob1_s hf
  refine r_sld K hX hbl hbA dL_law_601 e134 ?_
  refine r_aload_n K 0 dL_law_602 rfl ?_
  refine r_iload_n K 3 dL_law_603 rfl ?_
  refine r_iconst (v := (3 : Int32)) K dL_law_604 (by decide) ?_
  refine r_iadd K dL_law_605 ?_
  obtain ⟨v135, e136, hf⟩ := ob1_s hf
  refine r_sld K hX hbl hbA dL_law_606 e136 ?_
  obtain ⟨z137, hf⟩ := gd_s hf
  obtain ⟨r138, g139, e140, hf⟩ := ob2_s hf
  refine r_callV (As := [.int v131, .int v133, .int v135]) (rest := []) (st1 := [.int r138]) (cells1 := cb) (slots1 := sb) (b := a1) (ci := 9) K (fun z => mX9_drivers l z e140) dL_law_607 rfl (fun _ => isO_of z137) rfl ceX9_drivers q_483 q_484 q_485 q_75 q_486 ⟨Nat.le_of_ble_eq_true rfl, Nat.le_of_ble_eq_true rfl⟩ (Nat.le_of_ble_eq_true rfl) ⟨by show cb ≤ 600000; omega, by show sb ≤ 7302249; omega⟩ ?_ rfl rfl rfl rfl
  refine r_aload_n K 2 dL_law_610 rfl ?_
  refine r_aload_n K 0 dL_law_611 rfl ?_
  refine r_iload_n K 3 dL_law_612 rfl ?_
  refine r_iconst (v := (1 : Int32)) K dL_law_613 (by decide) ?_
  refine r_iadd K dL_law_614 ?_
  obtain ⟨v141, e142, hf⟩ := ob1_s hf
  refine r_sld K hX hbl hbA dL_law_615 e142 ?_
  refine r_aload_n K 0 dL_law_616 rfl ?_
  refine r_iload_n K 3 dL_law_617 rfl ?_
  refine r_iconst (v := (2 : Int32)) K dL_law_618 (by decide) ?_
  refine r_iadd K dL_law_619 ?_
  obtain ⟨v143, e144, hf⟩ := ob1_s hf
  refine r_sld K hX hbl hbA dL_law_620 e144 ?_
  refine r_aload_n K 0 dL_law_621 rfl ?_
  refine r_iload_n K 3 dL_law_622 rfl ?_
  refine r_iconst (v := (3 : Int32)) K dL_law_623 (by decide) ?_
  refine r_iadd K dL_law_624 ?_
  obtain ⟨v145, e146, hf⟩ := ob1_s hf
  refine r_sld K hX hbl hbA dL_law_625 e146 ?_
  obtain ⟨z147, hf⟩ := gd_s hf
  obtain ⟨r148, g149, e150, hf⟩ := ob2_s hf
  refine r_callV (As := [.int v141, .int v143, .int v145]) (rest := [.int r138]) (st1 := [.int r148, .int r138]) (cells1 := cb) (slots1 := sb) (b := a2) (ci := 10) K (fun z => mX10_drivers l z e150) dL_law_626 rfl (fun _ => isO_of z147) rfl ceX10_drivers q_1073 q_1074 q_1075 q_85 q_1076 ⟨Nat.le_of_ble_eq_true rfl, Nat.le_of_ble_eq_true rfl⟩ (Nat.le_of_ble_eq_true rfl) ⟨by show cb ≤ 600000; omega, by show sb ≤ 7302249; omega⟩ ?_ rfl rfl rfl rfl
  refine r_icmp_eq (tgt := 1837) K dL_law_629 (by decide) (fun c151 => ?_) (fun c151 => ?_)
  · replace hf := ite_t hf c151
    refine r_wide (k1 := cb + 15) (n1 := sb + 105) (by omega) (by omega) ?_
    exact hk g149 hf
  · replace hf := ite_f hf c151
    refine r_iconst (v := (0 : Int32)) K dL_law_632 (by decide) ?_
    exact absurd hf (by decide)
def fL_c7 (L : Nat) (xs : Nat → Int32) (x3 : Int32) (a1 a2 : Nat) (k : AH → Option Int32) (h : AH) : Option Int32 :=
  ob1 (sc L xs (x3 + (1 : Int32))) fun v152 =>
  ob1 (sc L xs (x3 + (2 : Int32))) fun v154 =>
  gd (ckO h a1 9) <|
  ob1 (fX9_driversOf a1 v152 v154 h) fun r157 =>
  ob1 (sc L xs (x3 + (1 : Int32))) fun v159 =>
  ob1 (sc L xs (x3 + (2 : Int32))) fun v161 =>
  gd (ckO h a2 10) <|
  ob1 (fX10_driversOf a2 v159 v161 h) fun r164 =>
  if r157 = r164 then
    k h
  else
    some (0 : Int32)
set_option maxHeartbeats 4000000 in
set_option maxRecDepth 100000 in
theorem wL_c7 {p : Program} {l : Launch} {e : Env} {s : State} {m : MethodId} {args : Array Value} {below : List Frame} {meth : Method} {c : Code} {Q : State → Prop} {G : GG} {b0 : Nat} {h0 : AH} {b L : Nat} {xs : Nat → Int32} {x3 : Int32} {a1 a2 : Nat} {cb sb : Nat} (hcb : cb + 15 ≤ 600000) (hsb : sb + 105 ≤ 7302249) (K : CX p s m args meth c cL_law 4 RL ret G b0) (hX : va_X b L xs s s.heap) (hbl : b < s.heap.size) (hbA : ¬ AB b0 b) (k : AH → Option Int32) (hk : ∀ (h : AH), k h = some 1 → WA p l e room_1 s m args below meth c Q G b0 4 h0 (cb + 15) (sb + 105) h 1837 [(0, .ref b), (1, .ref a1), (2, .ref a2), (3, .int x3)] []) : ∀ (h : AH), fL_c7 L xs x3 a1 a2 k h = some 1 → WA p l e room_1 s m args below meth c Q G b0 4 h0 cb sb h 634 [(0, .ref b), (1, .ref a1), (2, .ref a2), (3, .int x3)] [] := by
  intro h hf
  unfold fL_c7 at hf
  refine r_aload_n K 1 dL_law_634 rfl ?_
  refine r_aload_n K 0 dL_law_635 rfl ?_
  refine r_iload_n K 3 dL_law_636 rfl ?_
  refine r_iconst (v := (1 : Int32)) K dL_law_637 (by decide) ?_
  refine r_iadd K dL_law_638 ?_
  obtain ⟨v152, e153, hf⟩ := ob1_s hf
  refine r_sld K hX hbl hbA dL_law_639 e153 ?_
  refine r_aload_n K 0 dL_law_640 rfl ?_
  refine r_iload_n K 3 dL_law_641 rfl ?_
  refine r_iconst (v := (2 : Int32)) K dL_law_642 (by decide) ?_
  refine r_iadd K dL_law_643 ?_
  obtain ⟨v154, e155, hf⟩ := ob1_s hf
  refine r_sld K hX hbl hbA dL_law_644 e155 ?_
  obtain ⟨z156, hf⟩ := gd_s hf
  obtain ⟨r157, e158, hf⟩ := ob1_s hf
  refine r_callV (As := [.int v152, .int v154]) (rest := []) (st1 := [.int r157]) (cells1 := cb) (slots1 := sb) (b := a1) (ci := 9) K (fun z => mX9_driversOf l z e158) dL_law_645 rfl (fun _ => isO_of z156) rfl ceX9_driversOf q_491 q_492 q_493 q_75 q_494 ⟨Nat.le_of_ble_eq_true rfl, Nat.le_of_ble_eq_true rfl⟩ (Nat.le_of_ble_eq_true rfl) ⟨by show cb ≤ 600000; omega, by show sb ≤ 7302249; omega⟩ ?_ rfl rfl rfl rfl
  refine r_aload_n K 2 dL_law_648 rfl ?_
  refine r_aload_n K 0 dL_law_649 rfl ?_
  refine r_iload_n K 3 dL_law_650 rfl ?_
  refine r_iconst (v := (1 : Int32)) K dL_law_651 (by decide) ?_
  refine r_iadd K dL_law_652 ?_
  obtain ⟨v159, e160, hf⟩ := ob1_s hf
  refine r_sld K hX hbl hbA dL_law_653 e160 ?_
  refine r_aload_n K 0 dL_law_654 rfl ?_
  refine r_iload_n K 3 dL_law_655 rfl ?_
  refine r_iconst (v := (2 : Int32)) K dL_law_656 (by decide) ?_
  refine r_iadd K dL_law_657 ?_
  obtain ⟨v161, e162, hf⟩ := ob1_s hf
  refine r_sld K hX hbl hbA dL_law_658 e162 ?_
  obtain ⟨z163, hf⟩ := gd_s hf
  obtain ⟨r164, e165, hf⟩ := ob1_s hf
  refine r_callV (As := [.int v159, .int v161]) (rest := [.int r157]) (st1 := [.int r164, .int r157]) (cells1 := cb) (slots1 := sb) (b := a2) (ci := 10) K (fun z => mX10_driversOf l z e165) dL_law_659 rfl (fun _ => isO_of z163) rfl ceX10_driversOf q_1090 q_1091 q_1092 q_85 q_1093 ⟨Nat.le_of_ble_eq_true rfl, Nat.le_of_ble_eq_true rfl⟩ (Nat.le_of_ble_eq_true rfl) ⟨by show cb ≤ 600000; omega, by show sb ≤ 7302249; omega⟩ ?_ rfl rfl rfl rfl
  refine r_icmp_eq (tgt := 1837) K dL_law_662 (by decide) (fun c166 => ?_) (fun c166 => ?_)
  · replace hf := ite_t hf c166
    refine r_wide (k1 := cb + 15) (n1 := sb + 105) (by omega) (by omega) ?_
    exact hk h hf
  · replace hf := ite_f hf c166
    refine r_iconst (v := (0 : Int32)) K dL_law_665 (by decide) ?_
    exact absurd hf (by decide)
def fL_c8 (L : Nat) (xs : Nat → Int32) (x3 : Int32) (a1 a2 : Nat) (k : AH → Option Int32) (h : AH) : Option Int32 :=
  ob1 (sc L xs (x3 + (1 : Int32))) fun v167 =>
  gd (ckO h a1 9) <|
  ob2 (fX9_feed a1 v167 h) fun r170 g171 =>
  ob1 (sc L xs (x3 + (1 : Int32))) fun v173 =>
  gd (ckO g171 a2 10) <|
  ob2 (fX10_feed a2 v173 g171) fun r176 g177 =>
  if r170 = r176 then
    k g177
  else
    some (0 : Int32)
set_option maxHeartbeats 4000000 in
set_option maxRecDepth 100000 in
theorem wL_c8 {p : Program} {l : Launch} {e : Env} {s : State} {m : MethodId} {args : Array Value} {below : List Frame} {meth : Method} {c : Code} {Q : State → Prop} {G : GG} {b0 : Nat} {h0 : AH} {b L : Nat} {xs : Nat → Int32} {x3 : Int32} {a1 a2 : Nat} {cb sb : Nat} (hcb : cb + 15 ≤ 600000) (hsb : sb + 105 ≤ 7302249) (K : CX p s m args meth c cL_law 4 RL ret G b0) (hX : va_X b L xs s s.heap) (hbl : b < s.heap.size) (hbA : ¬ AB b0 b) (k : AH → Option Int32) (hk : ∀ (h : AH), k h = some 1 → WA p l e room_1 s m args below meth c Q G b0 4 h0 (cb + 15) (sb + 105) h 1837 [(0, .ref b), (1, .ref a1), (2, .ref a2), (3, .int x3)] []) : ∀ (h : AH), fL_c8 L xs x3 a1 a2 k h = some 1 → WA p l e room_1 s m args below meth c Q G b0 4 h0 cb sb h 667 [(0, .ref b), (1, .ref a1), (2, .ref a2), (3, .int x3)] [] := by
  intro h hf
  unfold fL_c8 at hf
  refine r_aload_n K 1 dL_law_667 rfl ?_
  refine r_aload_n K 0 dL_law_668 rfl ?_
  refine r_iload_n K 3 dL_law_669 rfl ?_
  refine r_iconst (v := (1 : Int32)) K dL_law_670 (by decide) ?_
  refine r_iadd K dL_law_671 ?_
  obtain ⟨v167, e168, hf⟩ := ob1_s hf
  refine r_sld K hX hbl hbA dL_law_672 e168 ?_
  obtain ⟨z169, hf⟩ := gd_s hf
  obtain ⟨r170, g171, e172, hf⟩ := ob2_s hf
  refine r_callV (As := [.int v167]) (rest := []) (st1 := [.int r170]) (cells1 := cb) (slots1 := sb) (b := a1) (ci := 9) K (fun z => mX9_feed l z e172) dL_law_673 rfl (fun _ => isO_of z169) rfl ceX9_feed q_495 q_496 q_497 q_75 q_498 ⟨Nat.le_of_ble_eq_true rfl, Nat.le_of_ble_eq_true rfl⟩ (Nat.le_of_ble_eq_true rfl) ⟨by show cb ≤ 600000; omega, by show sb ≤ 7302249; omega⟩ ?_ rfl rfl rfl rfl
  refine r_aload_n K 2 dL_law_676 rfl ?_
  refine r_aload_n K 0 dL_law_677 rfl ?_
  refine r_iload_n K 3 dL_law_678 rfl ?_
  refine r_iconst (v := (1 : Int32)) K dL_law_679 (by decide) ?_
  refine r_iadd K dL_law_680 ?_
  obtain ⟨v173, e174, hf⟩ := ob1_s hf
  refine r_sld K hX hbl hbA dL_law_681 e174 ?_
  obtain ⟨z175, hf⟩ := gd_s hf
  obtain ⟨r176, g177, e178, hf⟩ := ob2_s hf
  refine r_callV (As := [.int v173]) (rest := [.int r170]) (st1 := [.int r176, .int r170]) (cells1 := cb) (slots1 := sb) (b := a2) (ci := 10) K (fun z => mX10_feed l z e178) dL_law_682 rfl (fun _ => isO_of z175) rfl ceX10_feed q_1094 q_1095 q_1096 q_85 q_1097 ⟨Nat.le_of_ble_eq_true rfl, Nat.le_of_ble_eq_true rfl⟩ (Nat.le_of_ble_eq_true rfl) ⟨by show cb ≤ 600000; omega, by show sb ≤ 7302249; omega⟩ ?_ rfl rfl rfl rfl
  refine r_icmp_eq (tgt := 1837) K dL_law_685 (by decide) (fun c179 => ?_) (fun c179 => ?_)
  · replace hf := ite_t hf c179
    refine r_wide (k1 := cb + 15) (n1 := sb + 105) (by omega) (by omega) ?_
    exact hk g177 hf
  · replace hf := ite_f hf c179
    refine r_iconst (v := (0 : Int32)) K dL_law_688 (by decide) ?_
    exact absurd hf (by decide)
def fL_c9 (L : Nat) (xs : Nat → Int32) (x3 : Int32) (a1 a2 : Nat) (k : AH → Option Int32) (h : AH) : Option Int32 :=
  gd (ckO h a1 9) <|
  ob2 (fX9_clear a1 h) fun r181 g182 =>
  gd (ckO g182 a2 10) <|
  ob2 (fX10_clear a2 g182) fun r185 g186 =>
  if r181 = r185 then
    k g186
  else
    some (0 : Int32)
set_option maxHeartbeats 4000000 in
set_option maxRecDepth 100000 in
theorem wL_c9 {p : Program} {l : Launch} {e : Env} {s : State} {m : MethodId} {args : Array Value} {below : List Frame} {meth : Method} {c : Code} {Q : State → Prop} {G : GG} {b0 : Nat} {h0 : AH} {b L : Nat} {xs : Nat → Int32} {x3 : Int32} {a1 a2 : Nat} {cb sb : Nat} (hcb : cb + 15 ≤ 600000) (hsb : sb + 105 ≤ 7302249) (K : CX p s m args meth c cL_law 4 RL ret G b0) (hX : va_X b L xs s s.heap) (hbl : b < s.heap.size) (hbA : ¬ AB b0 b) (k : AH → Option Int32) (hk : ∀ (h : AH), k h = some 1 → WA p l e room_1 s m args below meth c Q G b0 4 h0 (cb + 15) (sb + 105) h 1837 [(0, .ref b), (1, .ref a1), (2, .ref a2), (3, .int x3)] []) : ∀ (h : AH), fL_c9 L xs x3 a1 a2 k h = some 1 → WA p l e room_1 s m args below meth c Q G b0 4 h0 cb sb h 690 [(0, .ref b), (1, .ref a1), (2, .ref a2), (3, .int x3)] [] := by
  intro h hf
  unfold fL_c9 at hf
  refine r_aload_n K 1 dL_law_690 rfl ?_
  obtain ⟨z180, hf⟩ := gd_s hf
  obtain ⟨r181, g182, e183, hf⟩ := ob2_s hf
  refine r_callV (As := []) (rest := []) (st1 := [.int r181]) (cells1 := cb) (slots1 := sb) (b := a1) (ci := 9) K (fun z => mX9_clear l z e183) dL_law_691 rfl (fun _ => isO_of z180) rfl ceX9_clear q_503 q_504 q_505 q_75 q_506 ⟨Nat.le_of_ble_eq_true rfl, Nat.le_of_ble_eq_true rfl⟩ (Nat.le_of_ble_eq_true rfl) ⟨by show cb ≤ 600000; omega, by show sb ≤ 7302249; omega⟩ ?_ rfl rfl rfl rfl
  refine r_aload_n K 2 dL_law_694 rfl ?_
  obtain ⟨z184, hf⟩ := gd_s hf
  obtain ⟨r185, g186, e187, hf⟩ := ob2_s hf
  refine r_callV (As := []) (rest := [.int r181]) (st1 := [.int r185, .int r181]) (cells1 := cb) (slots1 := sb) (b := a2) (ci := 10) K (fun z => mX10_clear l z e187) dL_law_695 rfl (fun _ => isO_of z184) rfl ceX10_clear q_1099 q_1100 q_1101 q_85 q_1102 ⟨Nat.le_of_ble_eq_true rfl, Nat.le_of_ble_eq_true rfl⟩ (Nat.le_of_ble_eq_true rfl) ⟨by show cb ≤ 600000; omega, by show sb ≤ 7302249; omega⟩ ?_ rfl rfl rfl rfl
  refine r_icmp_eq (tgt := 1837) K dL_law_698 (by decide) (fun c188 => ?_) (fun c188 => ?_)
  · replace hf := ite_t hf c188
    refine r_wide (k1 := cb + 15) (n1 := sb + 105) (by omega) (by omega) ?_
    exact hk g186 hf
  · replace hf := ite_f hf c188
    refine r_iconst (v := (0 : Int32)) K dL_law_701 (by decide) ?_
    exact absurd hf (by decide)
def fL_c10 (L : Nat) (xs : Nat → Int32) (x3 : Int32) (a1 a2 : Nat) (k : AH → Option Int32) (h : AH) : Option Int32 :=
  gd (ckO h a1 9) <|
  ob2 (fX9_roads a1 h) fun r190 g191 =>
  gd (ckO g191 a2 10) <|
  ob2 (fX10_roads a2 g191) fun r194 g195 =>
  if r190 = r194 then
    k g195
  else
    some (0 : Int32)
set_option maxHeartbeats 4000000 in
set_option maxRecDepth 100000 in
theorem wL_c10 {p : Program} {l : Launch} {e : Env} {s : State} {m : MethodId} {args : Array Value} {below : List Frame} {meth : Method} {c : Code} {Q : State → Prop} {G : GG} {b0 : Nat} {h0 : AH} {b L : Nat} {xs : Nat → Int32} {x3 : Int32} {a1 a2 : Nat} {cb sb : Nat} (hcb : cb + 15 ≤ 600000) (hsb : sb + 105 ≤ 7302249) (K : CX p s m args meth c cL_law 4 RL ret G b0) (hX : va_X b L xs s s.heap) (hbl : b < s.heap.size) (hbA : ¬ AB b0 b) (k : AH → Option Int32) (hk : ∀ (h : AH), k h = some 1 → WA p l e room_1 s m args below meth c Q G b0 4 h0 (cb + 15) (sb + 105) h 1837 [(0, .ref b), (1, .ref a1), (2, .ref a2), (3, .int x3)] []) : ∀ (h : AH), fL_c10 L xs x3 a1 a2 k h = some 1 → WA p l e room_1 s m args below meth c Q G b0 4 h0 cb sb h 703 [(0, .ref b), (1, .ref a1), (2, .ref a2), (3, .int x3)] [] := by
  intro h hf
  unfold fL_c10 at hf
  refine r_aload_n K 1 dL_law_703 rfl ?_
  obtain ⟨z189, hf⟩ := gd_s hf
  obtain ⟨r190, g191, e192, hf⟩ := ob2_s hf
  refine r_callV (As := []) (rest := []) (st1 := [.int r190]) (cells1 := cb + 14) (slots1 := sb + 98) (b := a1) (ci := 9) K (fun z => mX9_roads l z e192) dL_law_704 rfl (fun _ => isO_of z189) rfl ceX9_roads q_507 q_508 q_509 q_75 q_510 ⟨Nat.le_of_ble_eq_true rfl, Nat.le_of_ble_eq_true rfl⟩ (Nat.le_of_ble_eq_true rfl) ⟨by show cb + 14 ≤ 600000; omega, by show sb + 98 ≤ 7302249; omega⟩ ?_ rfl rfl rfl rfl
  refine r_aload_n K 2 dL_law_707 rfl ?_
  obtain ⟨z193, hf⟩ := gd_s hf
  obtain ⟨r194, g195, e196, hf⟩ := ob2_s hf
  refine r_callV (As := []) (rest := [.int r190]) (st1 := [.int r194, .int r190]) (cells1 := cb + 14) (slots1 := sb + 98) (b := a2) (ci := 10) K (fun z => mX10_roads l z e196) dL_law_708 rfl (fun _ => isO_of z193) rfl ceX10_roads q_1103 q_1104 q_1105 q_85 q_1106 ⟨Nat.le_of_ble_eq_true rfl, Nat.le_of_ble_eq_true rfl⟩ (Nat.le_of_ble_eq_true rfl) ⟨by show cb + 14 ≤ 600000; omega, by show sb + 98 ≤ 7302249; omega⟩ ?_ rfl rfl rfl rfl
  refine r_icmp_eq (tgt := 1837) K dL_law_711 (by decide) (fun c197 => ?_) (fun c197 => ?_)
  · replace hf := ite_t hf c197
    refine r_wide (k1 := cb + 15) (n1 := sb + 105) (by omega) (by omega) ?_
    exact hk g195 hf
  · replace hf := ite_f hf c197
    refine r_iconst (v := (0 : Int32)) K dL_law_714 (by decide) ?_
    exact absurd hf (by decide)
def fL_c11 (L : Nat) (xs : Nat → Int32) (x3 : Int32) (a1 a2 : Nat) (k : AH → Option Int32) (h : AH) : Option Int32 :=
  ob1 (sc L xs (x3 + (1 : Int32))) fun v198 =>
  gd (ckO h a1 9) <|
  ob2 (fX9_ways a1 v198 h) fun r201 g202 =>
  ob1 (sc L xs (x3 + (1 : Int32))) fun v204 =>
  gd (ckO g202 a2 10) <|
  ob2 (fX10_ways a2 v204 g202) fun r207 g208 =>
  if r201 = r207 then
    k g208
  else
    some (0 : Int32)
set_option maxHeartbeats 4000000 in
set_option maxRecDepth 100000 in
theorem wL_c11 {p : Program} {l : Launch} {e : Env} {s : State} {m : MethodId} {args : Array Value} {below : List Frame} {meth : Method} {c : Code} {Q : State → Prop} {G : GG} {b0 : Nat} {h0 : AH} {b L : Nat} {xs : Nat → Int32} {x3 : Int32} {a1 a2 : Nat} {cb sb : Nat} (hcb : cb + 15 ≤ 600000) (hsb : sb + 105 ≤ 7302249) (K : CX p s m args meth c cL_law 4 RL ret G b0) (hX : va_X b L xs s s.heap) (hbl : b < s.heap.size) (hbA : ¬ AB b0 b) (k : AH → Option Int32) (hk : ∀ (h : AH), k h = some 1 → WA p l e room_1 s m args below meth c Q G b0 4 h0 (cb + 15) (sb + 105) h 1837 [(0, .ref b), (1, .ref a1), (2, .ref a2), (3, .int x3)] []) : ∀ (h : AH), fL_c11 L xs x3 a1 a2 k h = some 1 → WA p l e room_1 s m args below meth c Q G b0 4 h0 cb sb h 716 [(0, .ref b), (1, .ref a1), (2, .ref a2), (3, .int x3)] [] := by
  intro h hf
  unfold fL_c11 at hf
  refine r_aload_n K 1 dL_law_716 rfl ?_
  refine r_aload_n K 0 dL_law_717 rfl ?_
  refine r_iload_n K 3 dL_law_718 rfl ?_
  refine r_iconst (v := (1 : Int32)) K dL_law_719 (by decide) ?_
  refine r_iadd K dL_law_720 ?_
  obtain ⟨v198, e199, hf⟩ := ob1_s hf
  refine r_sld K hX hbl hbA dL_law_721 e199 ?_
  obtain ⟨z200, hf⟩ := gd_s hf
  obtain ⟨r201, g202, e203, hf⟩ := ob2_s hf
  refine r_callV (As := [.int v198]) (rest := []) (st1 := [.int r201]) (cells1 := cb) (slots1 := sb) (b := a1) (ci := 9) K (fun z => mX9_ways l z e203) dL_law_722 rfl (fun _ => isO_of z200) rfl ceX9_ways q_557 q_558 q_559 q_75 q_560 ⟨Nat.le_of_ble_eq_true rfl, Nat.le_of_ble_eq_true rfl⟩ (Nat.le_of_ble_eq_true rfl) ⟨by show cb ≤ 600000; omega, by show sb ≤ 7302249; omega⟩ ?_ rfl rfl rfl rfl
  refine r_aload_n K 2 dL_law_725 rfl ?_
  refine r_aload_n K 0 dL_law_726 rfl ?_
  refine r_iload_n K 3 dL_law_727 rfl ?_
  refine r_iconst (v := (1 : Int32)) K dL_law_728 (by decide) ?_
  refine r_iadd K dL_law_729 ?_
  obtain ⟨v204, e205, hf⟩ := ob1_s hf
  refine r_sld K hX hbl hbA dL_law_730 e205 ?_
  obtain ⟨z206, hf⟩ := gd_s hf
  obtain ⟨r207, g208, e209, hf⟩ := ob2_s hf
  refine r_callV (As := [.int v204]) (rest := [.int r201]) (st1 := [.int r207, .int r201]) (cells1 := cb) (slots1 := sb) (b := a2) (ci := 10) K (fun z => mX10_ways l z e209) dL_law_731 rfl (fun _ => isO_of z206) rfl ceX10_ways q_1130 q_1131 q_1132 q_85 q_1133 ⟨Nat.le_of_ble_eq_true rfl, Nat.le_of_ble_eq_true rfl⟩ (Nat.le_of_ble_eq_true rfl) ⟨by show cb ≤ 600000; omega, by show sb ≤ 7302249; omega⟩ ?_ rfl rfl rfl rfl
  refine r_icmp_eq (tgt := 1837) K dL_law_734 (by decide) (fun c210 => ?_) (fun c210 => ?_)
  · replace hf := ite_t hf c210
    refine r_wide (k1 := cb + 15) (n1 := sb + 105) (by omega) (by omega) ?_
    exact hk g208 hf
  · replace hf := ite_f hf c210
    refine r_iconst (v := (0 : Int32)) K dL_law_737 (by decide) ?_
    exact absurd hf (by decide)
def fL_c12 (L : Nat) (xs : Nat → Int32) (x3 : Int32) (a1 a2 : Nat) (k : AH → Option Int32) (h : AH) : Option Int32 :=
  ob1 (sc L xs (x3 + (1 : Int32))) fun v211 =>
  ob1 (sc L xs (x3 + (2 : Int32))) fun v213 =>
  ob1 (sc L xs (x3 + (3 : Int32))) fun v215 =>
  gd (ckO h a1 9) <|
  ob2 (fX9_way a1 v211 v213 v215 h) fun r218 g219 =>
  ob1 (sc L xs (x3 + (1 : Int32))) fun v221 =>
  ob1 (sc L xs (x3 + (2 : Int32))) fun v223 =>
  ob1 (sc L xs (x3 + (3 : Int32))) fun v225 =>
  gd (ckO g219 a2 10) <|
  ob2 (fX10_way a2 v221 v223 v225 g219) fun r228 g229 =>
  if r218 = r228 then
    k g229
  else
    some (0 : Int32)
set_option maxHeartbeats 4000000 in
set_option maxRecDepth 100000 in
theorem wL_c12 {p : Program} {l : Launch} {e : Env} {s : State} {m : MethodId} {args : Array Value} {below : List Frame} {meth : Method} {c : Code} {Q : State → Prop} {G : GG} {b0 : Nat} {h0 : AH} {b L : Nat} {xs : Nat → Int32} {x3 : Int32} {a1 a2 : Nat} {cb sb : Nat} (hcb : cb + 15 ≤ 600000) (hsb : sb + 105 ≤ 7302249) (K : CX p s m args meth c cL_law 4 RL ret G b0) (hX : va_X b L xs s s.heap) (hbl : b < s.heap.size) (hbA : ¬ AB b0 b) (k : AH → Option Int32) (hk : ∀ (h : AH), k h = some 1 → WA p l e room_1 s m args below meth c Q G b0 4 h0 (cb + 15) (sb + 105) h 1837 [(0, .ref b), (1, .ref a1), (2, .ref a2), (3, .int x3)] []) : ∀ (h : AH), fL_c12 L xs x3 a1 a2 k h = some 1 → WA p l e room_1 s m args below meth c Q G b0 4 h0 cb sb h 739 [(0, .ref b), (1, .ref a1), (2, .ref a2), (3, .int x3)] [] := by
  intro h hf
  unfold fL_c12 at hf
  refine r_aload_n K 1 dL_law_739 rfl ?_
  refine r_aload_n K 0 dL_law_740 rfl ?_
  refine r_iload_n K 3 dL_law_741 rfl ?_
  refine r_iconst (v := (1 : Int32)) K dL_law_742 (by decide) ?_
  refine r_iadd K dL_law_743 ?_
  obtain ⟨v211, e212, hf⟩ := ob1_s hf
  refine r_sld K hX hbl hbA dL_law_744 e212 ?_
  refine r_aload_n K 0 dL_law_745 rfl ?_
  refine r_iload_n K 3 dL_law_746 rfl ?_
  refine r_iconst (v := (2 : Int32)) K dL_law_747 (by decide) ?_
  refine r_iadd K dL_law_748 ?_
  obtain ⟨v213, e214, hf⟩ := ob1_s hf
  refine r_sld K hX hbl hbA dL_law_749 e214 ?_
  refine r_aload_n K 0 dL_law_750 rfl ?_
  refine r_iload_n K 3 dL_law_751 rfl ?_
  refine r_iconst (v := (3 : Int32)) K dL_law_752 (by decide) ?_
  refine r_iadd K dL_law_753 ?_
  obtain ⟨v215, e216, hf⟩ := ob1_s hf
  refine r_sld K hX hbl hbA dL_law_754 e216 ?_
  obtain ⟨z217, hf⟩ := gd_s hf
  obtain ⟨r218, g219, e220, hf⟩ := ob2_s hf
  refine r_callV (As := [.int v211, .int v213, .int v215]) (rest := []) (st1 := [.int r218]) (cells1 := cb) (slots1 := sb) (b := a1) (ci := 9) K (fun z => mX9_way l z e220) dL_law_755 rfl (fun _ => isO_of z217) rfl ceX9_way q_577 q_578 q_579 q_75 q_580 ⟨Nat.le_of_ble_eq_true rfl, Nat.le_of_ble_eq_true rfl⟩ (Nat.le_of_ble_eq_true rfl) ⟨by show cb ≤ 600000; omega, by show sb ≤ 7302249; omega⟩ ?_ rfl rfl rfl rfl
  refine r_aload_n K 2 dL_law_758 rfl ?_
  refine r_aload_n K 0 dL_law_759 rfl ?_
  refine r_iload_n K 3 dL_law_760 rfl ?_
  refine r_iconst (v := (1 : Int32)) K dL_law_761 (by decide) ?_
  refine r_iadd K dL_law_762 ?_
  obtain ⟨v221, e222, hf⟩ := ob1_s hf
  refine r_sld K hX hbl hbA dL_law_763 e222 ?_
  refine r_aload_n K 0 dL_law_764 rfl ?_
  refine r_iload_n K 3 dL_law_765 rfl ?_
  refine r_iconst (v := (2 : Int32)) K dL_law_766 (by decide) ?_
  refine r_iadd K dL_law_767 ?_
  obtain ⟨v223, e224, hf⟩ := ob1_s hf
  refine r_sld K hX hbl hbA dL_law_768 e224 ?_
  refine r_aload_n K 0 dL_law_769 rfl ?_
  refine r_iload_n K 3 dL_law_770 rfl ?_
  refine r_iconst (v := (3 : Int32)) K dL_law_771 (by decide) ?_
  refine r_iadd K dL_law_772 ?_
  obtain ⟨v225, e226, hf⟩ := ob1_s hf
  refine r_sld K hX hbl hbA dL_law_773 e226 ?_
  obtain ⟨z227, hf⟩ := gd_s hf
  obtain ⟨r228, g229, e230, hf⟩ := ob2_s hf
  refine r_callV (As := [.int v221, .int v223, .int v225]) (rest := [.int r218]) (st1 := [.int r228, .int r218]) (cells1 := cb) (slots1 := sb) (b := a2) (ci := 10) K (fun z => mX10_way l z e230) dL_law_774 rfl (fun _ => isO_of z227) rfl ceX10_way q_1146 q_1147 q_1148 q_85 q_1149 ⟨Nat.le_of_ble_eq_true rfl, Nat.le_of_ble_eq_true rfl⟩ (Nat.le_of_ble_eq_true rfl) ⟨by show cb ≤ 600000; omega, by show sb ≤ 7302249; omega⟩ ?_ rfl rfl rfl rfl
  refine r_icmp_eq (tgt := 1837) K dL_law_777 (by decide) (fun c231 => ?_) (fun c231 => ?_)
  · replace hf := ite_t hf c231
    refine r_wide (k1 := cb + 15) (n1 := sb + 105) (by omega) (by omega) ?_
    exact hk g229 hf
  · replace hf := ite_f hf c231
    refine r_iconst (v := (0 : Int32)) K dL_law_780 (by decide) ?_
    exact absurd hf (by decide)
def fL_c13 (L : Nat) (xs : Nat → Int32) (x3 : Int32) (a1 a2 : Nat) (k : AH → Option Int32) (h : AH) : Option Int32 :=
  ob1 (sc L xs (x3 + (1 : Int32))) fun v232 =>
  gd (ckO h a1 9) <|
  ob2 (fX9_is a1 v232 h) fun r235 g236 =>
  ob1 (sc L xs (x3 + (1 : Int32))) fun v238 =>
  gd (ckO g236 a2 10) <|
  ob2 (fX10_is a2 v238 g236) fun r241 g242 =>
  if r235 = r241 then
    k g242
  else
    some (0 : Int32)
set_option maxHeartbeats 4000000 in
set_option maxRecDepth 100000 in
theorem wL_c13 {p : Program} {l : Launch} {e : Env} {s : State} {m : MethodId} {args : Array Value} {below : List Frame} {meth : Method} {c : Code} {Q : State → Prop} {G : GG} {b0 : Nat} {h0 : AH} {b L : Nat} {xs : Nat → Int32} {x3 : Int32} {a1 a2 : Nat} {cb sb : Nat} (hcb : cb + 15 ≤ 600000) (hsb : sb + 105 ≤ 7302249) (K : CX p s m args meth c cL_law 4 RL ret G b0) (hX : va_X b L xs s s.heap) (hbl : b < s.heap.size) (hbA : ¬ AB b0 b) (k : AH → Option Int32) (hk : ∀ (h : AH), k h = some 1 → WA p l e room_1 s m args below meth c Q G b0 4 h0 (cb + 15) (sb + 105) h 1837 [(0, .ref b), (1, .ref a1), (2, .ref a2), (3, .int x3)] []) : ∀ (h : AH), fL_c13 L xs x3 a1 a2 k h = some 1 → WA p l e room_1 s m args below meth c Q G b0 4 h0 cb sb h 782 [(0, .ref b), (1, .ref a1), (2, .ref a2), (3, .int x3)] [] := by
  intro h hf
  unfold fL_c13 at hf
  refine r_aload_n K 1 dL_law_782 rfl ?_
  refine r_aload_n K 0 dL_law_783 rfl ?_
  refine r_iload_n K 3 dL_law_784 rfl ?_
  refine r_iconst (v := (1 : Int32)) K dL_law_785 (by decide) ?_
  refine r_iadd K dL_law_786 ?_
  obtain ⟨v232, e233, hf⟩ := ob1_s hf
  refine r_sld K hX hbl hbA dL_law_787 e233 ?_
  obtain ⟨z234, hf⟩ := gd_s hf
  obtain ⟨r235, g236, e237, hf⟩ := ob2_s hf
  refine r_callV (As := [.int v232]) (rest := []) (st1 := [.int r235]) (cells1 := cb) (slots1 := sb) (b := a1) (ci := 9) K (fun z => mX9_is l z e237) dL_law_788 rfl (fun _ => isO_of z234) rfl ceX9_is q_593 q_594 q_595 q_75 q_596 ⟨Nat.le_of_ble_eq_true rfl, Nat.le_of_ble_eq_true rfl⟩ (Nat.le_of_ble_eq_true rfl) ⟨by show cb ≤ 600000; omega, by show sb ≤ 7302249; omega⟩ ?_ rfl rfl rfl rfl
  refine r_aload_n K 2 dL_law_791 rfl ?_
  refine r_aload_n K 0 dL_law_792 rfl ?_
  refine r_iload_n K 3 dL_law_793 rfl ?_
  refine r_iconst (v := (1 : Int32)) K dL_law_794 (by decide) ?_
  refine r_iadd K dL_law_795 ?_
  obtain ⟨v238, e239, hf⟩ := ob1_s hf
  refine r_sld K hX hbl hbA dL_law_796 e239 ?_
  obtain ⟨z240, hf⟩ := gd_s hf
  obtain ⟨r241, g242, e243, hf⟩ := ob2_s hf
  refine r_callV (As := [.int v238]) (rest := [.int r235]) (st1 := [.int r241, .int r235]) (cells1 := cb) (slots1 := sb) (b := a2) (ci := 10) K (fun z => mX10_is l z e243) dL_law_797 rfl (fun _ => isO_of z240) rfl ceX10_is q_1154 q_1155 q_1156 q_85 q_1157 ⟨Nat.le_of_ble_eq_true rfl, Nat.le_of_ble_eq_true rfl⟩ (Nat.le_of_ble_eq_true rfl) ⟨by show cb ≤ 600000; omega, by show sb ≤ 7302249; omega⟩ ?_ rfl rfl rfl rfl
  refine r_icmp_eq (tgt := 1837) K dL_law_800 (by decide) (fun c244 => ?_) (fun c244 => ?_)
  · replace hf := ite_t hf c244
    refine r_wide (k1 := cb + 15) (n1 := sb + 105) (by omega) (by omega) ?_
    exact hk g242 hf
  · replace hf := ite_f hf c244
    refine r_iconst (v := (0 : Int32)) K dL_law_803 (by decide) ?_
    exact absurd hf (by decide)
