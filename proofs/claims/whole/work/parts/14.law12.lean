def fL_c28 (L : Nat) (xs : Nat → Int32) (x3 : Int32) (a1 a2 : Nat) (k : AH → Option Int32) (h : AH) : Option Int32 :=
  ob1 (sc L xs (x3 + (1 : Int32))) fun v475 =>
  ob1 (sc L xs (x3 + (2 : Int32))) fun v477 =>
  ob1 (sc L xs (x3 + (3 : Int32))) fun v479 =>
  ob1 (sc L xs (x3 + (4 : Int32))) fun v481 =>
  ob1 (sc L xs (x3 + (5 : Int32))) fun v483 =>
  ob1 (sc L xs (x3 + (6 : Int32))) fun v485 =>
  ob1 (sc L xs (x3 + (7 : Int32))) fun v487 =>
  gd (ckO h a1 9) <|
  ob2 (fX9_adding a1 v475 v477 v479 (((Int32.toInt64 v481) <<< (Int32.toInt64 (32 : Int32) &&& 63)) ||| ((Int32.toInt64 v483) &&& (4294967295 : Int64))) (((Int32.toInt64 v485) <<< (Int32.toInt64 (32 : Int32) &&& 63)) ||| ((Int32.toInt64 v487) &&& (4294967295 : Int64))) h) fun r490 g491 =>
  ob1 (sc L xs (x3 + (1 : Int32))) fun v493 =>
  ob1 (sc L xs (x3 + (2 : Int32))) fun v495 =>
  ob1 (sc L xs (x3 + (3 : Int32))) fun v497 =>
  ob1 (sc L xs (x3 + (4 : Int32))) fun v499 =>
  ob1 (sc L xs (x3 + (5 : Int32))) fun v501 =>
  ob1 (sc L xs (x3 + (6 : Int32))) fun v503 =>
  ob1 (sc L xs (x3 + (7 : Int32))) fun v505 =>
  gd (ckO g491 a2 10) <|
  ob2 (fX10_adding a2 v493 v495 v497 (((Int32.toInt64 v499) <<< (Int32.toInt64 (32 : Int32) &&& 63)) ||| ((Int32.toInt64 v501) &&& (4294967295 : Int64))) (((Int32.toInt64 v503) <<< (Int32.toInt64 (32 : Int32) &&& 63)) ||| ((Int32.toInt64 v505) &&& (4294967295 : Int64))) g491) fun r508 g509 =>
  if r490 = r508 then
    k g509
  else
    some (0 : Int32)
set_option maxHeartbeats 4000000 in
set_option maxRecDepth 100000 in
theorem wL_c28 {p : Program} {l : Launch} {e : Env} {s : State} {m : MethodId} {args : Array Value} {below : List Frame} {meth : Method} {c : Code} {Q : State → Prop} {G : GG} {b0 : Nat} {h0 : AH} {b L : Nat} {xs : Nat → Int32} {x3 : Int32} {a1 a2 : Nat} {cb sb : Nat} (hcb : cb + 15 ≤ 600000) (hsb : sb + 105 ≤ 7302249) (K : CX p s m args meth c cL_law 4 RL ret G b0) (hX : va_X b L xs s s.heap) (hbl : b < s.heap.size) (hbA : ¬ AB b0 b) (k : AH → Option Int32) (hk : ∀ (h : AH), k h = some 1 → WA p l e room_1 s m args below meth c Q G b0 4 h0 (cb + 15) (sb + 105) h 1837 [(0, .ref b), (1, .ref a1), (2, .ref a2), (3, .int x3)] []) : ∀ (h : AH), fL_c28 L xs x3 a1 a2 k h = some 1 → WA p l e room_1 s m args below meth c Q G b0 4 h0 cb sb h 1254 [(0, .ref b), (1, .ref a1), (2, .ref a2), (3, .int x3)] [] := by
  intro h hf
  unfold fL_c28 at hf
  refine r_aload_n K 1 dL_law_1254 rfl ?_
  refine r_aload_n K 0 dL_law_1255 rfl ?_
  refine r_iload_n K 3 dL_law_1256 rfl ?_
  refine r_iconst (v := (1 : Int32)) K dL_law_1257 (by decide) ?_
  refine r_iadd K dL_law_1258 ?_
  obtain ⟨v475, e476, hf⟩ := ob1_s hf
  refine r_sld K hX hbl hbA dL_law_1259 e476 ?_
  refine r_aload_n K 0 dL_law_1260 rfl ?_
  refine r_iload_n K 3 dL_law_1261 rfl ?_
  refine r_iconst (v := (2 : Int32)) K dL_law_1262 (by decide) ?_
  refine r_iadd K dL_law_1263 ?_
  obtain ⟨v477, e478, hf⟩ := ob1_s hf
  refine r_sld K hX hbl hbA dL_law_1264 e478 ?_
  refine r_aload_n K 0 dL_law_1265 rfl ?_
  refine r_iload_n K 3 dL_law_1266 rfl ?_
  refine r_iconst (v := (3 : Int32)) K dL_law_1267 (by decide) ?_
  refine r_iadd K dL_law_1268 ?_
  obtain ⟨v479, e480, hf⟩ := ob1_s hf
  refine r_sld K hX hbl hbA dL_law_1269 e480 ?_
  refine r_aload_n K 0 dL_law_1270 rfl ?_
  refine r_iload_n K 3 dL_law_1271 rfl ?_
  refine r_iconst (v := (4 : Int32)) K dL_law_1272 (by decide) ?_
  refine r_iadd K dL_law_1273 ?_
  obtain ⟨v481, e482, hf⟩ := ob1_s hf
  refine r_sld K hX hbl hbA dL_law_1274 e482 ?_
  refine r_i2l K dL_law_1275 ?_
  refine r_bipush (v := (32 : Int32)) K dL_law_1276 (by decide) ?_
  refine r_lshl K dL_law_1278 ?_
  refine r_aload_n K 0 dL_law_1279 rfl ?_
  refine r_iload_n K 3 dL_law_1280 rfl ?_
  refine r_iconst (v := (5 : Int32)) K dL_law_1281 (by decide) ?_
  refine r_iadd K dL_law_1282 ?_
  obtain ⟨v483, e484, hf⟩ := ob1_s hf
  refine r_sld K hX hbl hbA dL_law_1283 e484 ?_
  refine r_i2l K dL_law_1284 ?_
  refine r_ldc2 K dL_law_1285 q_1407 ?_
  refine r_land K dL_law_1288 ?_
  refine r_lor K dL_law_1289 ?_
  refine r_aload_n K 0 dL_law_1290 rfl ?_
  refine r_iload_n K 3 dL_law_1291 rfl ?_
  refine r_bipush (v := (6 : Int32)) K dL_law_1292 (by decide) ?_
  refine r_iadd K dL_law_1294 ?_
  obtain ⟨v485, e486, hf⟩ := ob1_s hf
  refine r_sld K hX hbl hbA dL_law_1295 e486 ?_
  refine r_i2l K dL_law_1296 ?_
  refine r_bipush (v := (32 : Int32)) K dL_law_1297 (by decide) ?_
  refine r_lshl K dL_law_1299 ?_
  refine r_aload_n K 0 dL_law_1300 rfl ?_
  refine r_iload_n K 3 dL_law_1301 rfl ?_
  refine r_bipush (v := (7 : Int32)) K dL_law_1302 (by decide) ?_
  refine r_iadd K dL_law_1304 ?_
  obtain ⟨v487, e488, hf⟩ := ob1_s hf
  refine r_sld K hX hbl hbA dL_law_1305 e488 ?_
  refine r_i2l K dL_law_1306 ?_
  refine r_ldc2 K dL_law_1307 q_1407 ?_
  refine r_land K dL_law_1310 ?_
  refine r_lor K dL_law_1311 ?_
  obtain ⟨z489, hf⟩ := gd_s hf
  obtain ⟨r490, g491, e492, hf⟩ := ob2_s hf
  refine r_callV (As := [.int v475, .int v477, .int v479, .long (((Int32.toInt64 v481) <<< (Int32.toInt64 (32 : Int32) &&& 63)) ||| ((Int32.toInt64 v483) &&& (4294967295 : Int64))), .long (((Int32.toInt64 v485) <<< (Int32.toInt64 (32 : Int32) &&& 63)) ||| ((Int32.toInt64 v487) &&& (4294967295 : Int64)))]) (rest := []) (st1 := [.long r490]) (cells1 := cb + 1) (slots1 := sb + 7) (b := a1) (ci := 9) K (fun z => mX9_adding l z e492) dL_law_1312 rfl (fun _ => isO_of z489) rfl ceX9_adding q_787 q_788 q_789 q_75 q_790 ⟨Nat.le_of_ble_eq_true rfl, Nat.le_of_ble_eq_true rfl⟩ (Nat.le_of_ble_eq_true rfl) ⟨by show cb + 1 ≤ 600000; omega, by show sb + 7 ≤ 7302249; omega⟩ ?_ rfl rfl rfl rfl
  refine r_aload_n K 2 dL_law_1315 rfl ?_
  refine r_aload_n K 0 dL_law_1316 rfl ?_
  refine r_iload_n K 3 dL_law_1317 rfl ?_
  refine r_iconst (v := (1 : Int32)) K dL_law_1318 (by decide) ?_
  refine r_iadd K dL_law_1319 ?_
  obtain ⟨v493, e494, hf⟩ := ob1_s hf
  refine r_sld K hX hbl hbA dL_law_1320 e494 ?_
  refine r_aload_n K 0 dL_law_1321 rfl ?_
  refine r_iload_n K 3 dL_law_1322 rfl ?_
  refine r_iconst (v := (2 : Int32)) K dL_law_1323 (by decide) ?_
  refine r_iadd K dL_law_1324 ?_
  obtain ⟨v495, e496, hf⟩ := ob1_s hf
  refine r_sld K hX hbl hbA dL_law_1325 e496 ?_
  refine r_aload_n K 0 dL_law_1326 rfl ?_
  refine r_iload_n K 3 dL_law_1327 rfl ?_
  refine r_iconst (v := (3 : Int32)) K dL_law_1328 (by decide) ?_
  refine r_iadd K dL_law_1329 ?_
  obtain ⟨v497, e498, hf⟩ := ob1_s hf
  refine r_sld K hX hbl hbA dL_law_1330 e498 ?_
  refine r_aload_n K 0 dL_law_1331 rfl ?_
  refine r_iload_n K 3 dL_law_1332 rfl ?_
  refine r_iconst (v := (4 : Int32)) K dL_law_1333 (by decide) ?_
  refine r_iadd K dL_law_1334 ?_
  obtain ⟨v499, e500, hf⟩ := ob1_s hf
  refine r_sld K hX hbl hbA dL_law_1335 e500 ?_
  refine r_i2l K dL_law_1336 ?_
  refine r_bipush (v := (32 : Int32)) K dL_law_1337 (by decide) ?_
  refine r_lshl K dL_law_1339 ?_
  refine r_aload_n K 0 dL_law_1340 rfl ?_
  refine r_iload_n K 3 dL_law_1341 rfl ?_
  refine r_iconst (v := (5 : Int32)) K dL_law_1342 (by decide) ?_
  refine r_iadd K dL_law_1343 ?_
  obtain ⟨v501, e502, hf⟩ := ob1_s hf
  refine r_sld K hX hbl hbA dL_law_1344 e502 ?_
  refine r_i2l K dL_law_1345 ?_
  refine r_ldc2 K dL_law_1346 q_1407 ?_
  refine r_land K dL_law_1349 ?_
  refine r_lor K dL_law_1350 ?_
  refine r_aload_n K 0 dL_law_1351 rfl ?_
  refine r_iload_n K 3 dL_law_1352 rfl ?_
  refine r_bipush (v := (6 : Int32)) K dL_law_1353 (by decide) ?_
  refine r_iadd K dL_law_1355 ?_
  obtain ⟨v503, e504, hf⟩ := ob1_s hf
  refine r_sld K hX hbl hbA dL_law_1356 e504 ?_
  refine r_i2l K dL_law_1357 ?_
  refine r_bipush (v := (32 : Int32)) K dL_law_1358 (by decide) ?_
  refine r_lshl K dL_law_1360 ?_
  refine r_aload_n K 0 dL_law_1361 rfl ?_
  refine r_iload_n K 3 dL_law_1362 rfl ?_
  refine r_bipush (v := (7 : Int32)) K dL_law_1363 (by decide) ?_
  refine r_iadd K dL_law_1365 ?_
  obtain ⟨v505, e506, hf⟩ := ob1_s hf
  refine r_sld K hX hbl hbA dL_law_1366 e506 ?_
  refine r_i2l K dL_law_1367 ?_
  refine r_ldc2 K dL_law_1368 q_1407 ?_
  refine r_land K dL_law_1371 ?_
  refine r_lor K dL_law_1372 ?_
  obtain ⟨z507, hf⟩ := gd_s hf
  obtain ⟨r508, g509, e510, hf⟩ := ob2_s hf
  refine r_callV (As := [.int v493, .int v495, .int v497, .long (((Int32.toInt64 v499) <<< (Int32.toInt64 (32 : Int32) &&& 63)) ||| ((Int32.toInt64 v501) &&& (4294967295 : Int64))), .long (((Int32.toInt64 v503) <<< (Int32.toInt64 (32 : Int32) &&& 63)) ||| ((Int32.toInt64 v505) &&& (4294967295 : Int64)))]) (rest := [.long r490]) (st1 := [.long r508, .long r490]) (cells1 := cb + 1) (slots1 := sb + 7) (b := a2) (ci := 10) K (fun z => mX10_adding l z e510) dL_law_1373 rfl (fun _ => isO_of z507) rfl ceX10_adding q_1327 q_1328 q_1329 q_85 q_1330 ⟨Nat.le_of_ble_eq_true rfl, Nat.le_of_ble_eq_true rfl⟩ (Nat.le_of_ble_eq_true rfl) ⟨by show cb + 1 ≤ 600000; omega, by show sb + 7 ≤ 7302249; omega⟩ ?_ rfl rfl rfl rfl
  refine r_lif_eq (tgt := 1837) K dL_law_1376 dL_law_1377 (by decide) (fun c511 => ?_) (fun c511 => ?_)
  · replace hf := ite_t hf c511
    refine r_wide (k1 := cb + 15) (n1 := sb + 105) (by omega) (by omega) ?_
    exact hk g509 hf
  · replace hf := ite_f hf c511
    refine r_iconst (v := (0 : Int32)) K dL_law_1380 (by decide) ?_
    exact absurd hf (by decide)
def fL_c29 (L : Nat) (xs : Nat → Int32) (x3 : Int32) (a1 a2 : Nat) (k : AH → Option Int32) (h : AH) : Option Int32 :=
  gd (ckO h a1 9) <|
  ob2 (fX9_fix a1 h) fun r513 g514 =>
  gd (ckO g514 a2 10) <|
  ob2 (fX10_fix a2 g514) fun r517 g518 =>
  if r513 = r517 then
    k g518
  else
    some (0 : Int32)
set_option maxHeartbeats 4000000 in
set_option maxRecDepth 100000 in
theorem wL_c29 {p : Program} {l : Launch} {e : Env} {s : State} {m : MethodId} {args : Array Value} {below : List Frame} {meth : Method} {c : Code} {Q : State → Prop} {G : GG} {b0 : Nat} {h0 : AH} {b L : Nat} {xs : Nat → Int32} {x3 : Int32} {a1 a2 : Nat} {cb sb : Nat} (hcb : cb + 15 ≤ 600000) (hsb : sb + 105 ≤ 7302249) (K : CX p s m args meth c cL_law 4 RL ret G b0) (hX : va_X b L xs s s.heap) (hbl : b < s.heap.size) (hbA : ¬ AB b0 b) (k : AH → Option Int32) (hk : ∀ (h : AH), k h = some 1 → WA p l e room_1 s m args below meth c Q G b0 4 h0 (cb + 15) (sb + 105) h 1837 [(0, .ref b), (1, .ref a1), (2, .ref a2), (3, .int x3)] []) : ∀ (h : AH), fL_c29 L xs x3 a1 a2 k h = some 1 → WA p l e room_1 s m args below meth c Q G b0 4 h0 cb sb h 1382 [(0, .ref b), (1, .ref a1), (2, .ref a2), (3, .int x3)] [] := by
  intro h hf
  unfold fL_c29 at hf
  refine r_aload_n K 1 dL_law_1382 rfl ?_
  obtain ⟨z512, hf⟩ := gd_s hf
  obtain ⟨r513, g514, e515, hf⟩ := ob2_s hf
  refine r_callV (As := []) (rest := []) (st1 := [.int r513]) (cells1 := cb) (slots1 := sb) (b := a1) (ci := 9) K (fun z => mX9_fix l z e515) dL_law_1383 rfl (fun _ => isO_of z512) rfl ceX9_fix q_791 q_792 q_793 q_75 q_794 ⟨Nat.le_of_ble_eq_true rfl, Nat.le_of_ble_eq_true rfl⟩ (Nat.le_of_ble_eq_true rfl) ⟨by show cb ≤ 600000; omega, by show sb ≤ 7302249; omega⟩ ?_ rfl rfl rfl rfl
  refine r_aload_n K 2 dL_law_1386 rfl ?_
  obtain ⟨z516, hf⟩ := gd_s hf
  obtain ⟨r517, g518, e519, hf⟩ := ob2_s hf
  refine r_callV (As := []) (rest := [.int r513]) (st1 := [.int r517, .int r513]) (cells1 := cb) (slots1 := sb) (b := a2) (ci := 10) K (fun z => mX10_fix l z e519) dL_law_1387 rfl (fun _ => isO_of z516) rfl ceX10_fix q_1331 q_1332 q_1333 q_85 q_1334 ⟨Nat.le_of_ble_eq_true rfl, Nat.le_of_ble_eq_true rfl⟩ (Nat.le_of_ble_eq_true rfl) ⟨by show cb ≤ 600000; omega, by show sb ≤ 7302249; omega⟩ ?_ rfl rfl rfl rfl
  refine r_icmp_eq (tgt := 1837) K dL_law_1390 (by decide) (fun c520 => ?_) (fun c520 => ?_)
  · replace hf := ite_t hf c520
    refine r_wide (k1 := cb + 15) (n1 := sb + 105) (by omega) (by omega) ?_
    exact hk g518 hf
  · replace hf := ite_f hf c520
    refine r_iconst (v := (0 : Int32)) K dL_law_1393 (by decide) ?_
    exact absurd hf (by decide)
def fL_c30 (L : Nat) (xs : Nat → Int32) (x3 : Int32) (a1 a2 : Nat) (k : AH → Option Int32) (h : AH) : Option Int32 :=
  gd (ckO h a1 9) <|
  ob2 (fX9_free a1 h) fun r522 g523 =>
  gd (ckO g523 a2 10) <|
  ob2 (fX10_free a2 g523) fun r526 g527 =>
  if r522 = r526 then
    k g527
  else
    some (0 : Int32)
set_option maxHeartbeats 4000000 in
set_option maxRecDepth 100000 in
theorem wL_c30 {p : Program} {l : Launch} {e : Env} {s : State} {m : MethodId} {args : Array Value} {below : List Frame} {meth : Method} {c : Code} {Q : State → Prop} {G : GG} {b0 : Nat} {h0 : AH} {b L : Nat} {xs : Nat → Int32} {x3 : Int32} {a1 a2 : Nat} {cb sb : Nat} (hcb : cb + 15 ≤ 600000) (hsb : sb + 105 ≤ 7302249) (K : CX p s m args meth c cL_law 4 RL ret G b0) (hX : va_X b L xs s s.heap) (hbl : b < s.heap.size) (hbA : ¬ AB b0 b) (k : AH → Option Int32) (hk : ∀ (h : AH), k h = some 1 → WA p l e room_1 s m args below meth c Q G b0 4 h0 (cb + 15) (sb + 105) h 1837 [(0, .ref b), (1, .ref a1), (2, .ref a2), (3, .int x3)] []) : ∀ (h : AH), fL_c30 L xs x3 a1 a2 k h = some 1 → WA p l e room_1 s m args below meth c Q G b0 4 h0 cb sb h 1395 [(0, .ref b), (1, .ref a1), (2, .ref a2), (3, .int x3)] [] := by
  intro h hf
  unfold fL_c30 at hf
  refine r_aload_n K 1 dL_law_1395 rfl ?_
  obtain ⟨z521, hf⟩ := gd_s hf
  obtain ⟨r522, g523, e524, hf⟩ := ob2_s hf
  refine r_callV (As := []) (rest := []) (st1 := [.int r522]) (cells1 := cb) (slots1 := sb) (b := a1) (ci := 9) K (fun z => mX9_free l z e524) dL_law_1396 rfl (fun _ => isO_of z521) rfl ceX9_free q_798 q_799 q_800 q_75 q_801 ⟨Nat.le_of_ble_eq_true rfl, Nat.le_of_ble_eq_true rfl⟩ (Nat.le_of_ble_eq_true rfl) ⟨by show cb ≤ 600000; omega, by show sb ≤ 7302249; omega⟩ ?_ rfl rfl rfl rfl
  refine r_aload_n K 2 dL_law_1399 rfl ?_
  obtain ⟨z525, hf⟩ := gd_s hf
  obtain ⟨r526, g527, e528, hf⟩ := ob2_s hf
  refine r_callV (As := []) (rest := [.int r522]) (st1 := [.int r526, .int r522]) (cells1 := cb) (slots1 := sb) (b := a2) (ci := 10) K (fun z => mX10_free l z e528) dL_law_1400 rfl (fun _ => isO_of z525) rfl ceX10_free q_1339 q_1340 q_1341 q_85 q_1342 ⟨Nat.le_of_ble_eq_true rfl, Nat.le_of_ble_eq_true rfl⟩ (Nat.le_of_ble_eq_true rfl) ⟨by show cb ≤ 600000; omega, by show sb ≤ 7302249; omega⟩ ?_ rfl rfl rfl rfl
  refine r_icmp_eq (tgt := 1837) K dL_law_1403 (by decide) (fun c529 => ?_) (fun c529 => ?_)
  · replace hf := ite_t hf c529
    refine r_wide (k1 := cb + 15) (n1 := sb + 105) (by omega) (by omega) ?_
    exact hk g527 hf
  · replace hf := ite_f hf c529
    refine r_iconst (v := (0 : Int32)) K dL_law_1406 (by decide) ?_
    exact absurd hf (by decide)
def fL_c31 (L : Nat) (xs : Nat → Int32) (x3 : Int32) (a1 a2 : Nat) (k : AH → Option Int32) (h : AH) : Option Int32 :=
  ob1 (sc L xs (x3 + (1 : Int32))) fun v530 =>
  ob1 (sc L xs (x3 + (2 : Int32))) fun v532 =>
  ob1 (sc L xs (x3 + (3 : Int32))) fun v534 =>
  gd (ckO h a1 9) <|
  ob2 (fX9_lay a1 v530 v532 v534 h) fun r537 g538 =>
  ob1 (sc L xs (x3 + (1 : Int32))) fun v540 =>
  ob1 (sc L xs (x3 + (2 : Int32))) fun v542 =>
  ob1 (sc L xs (x3 + (3 : Int32))) fun v544 =>
  gd (ckO g538 a2 10) <|
  ob2 (fX10_lay a2 v540 v542 v544 g538) fun r547 g548 =>
  if r537 = r547 then
    k g548
  else
    some (0 : Int32)
set_option maxHeartbeats 4000000 in
set_option maxRecDepth 100000 in
theorem wL_c31 {p : Program} {l : Launch} {e : Env} {s : State} {m : MethodId} {args : Array Value} {below : List Frame} {meth : Method} {c : Code} {Q : State → Prop} {G : GG} {b0 : Nat} {h0 : AH} {b L : Nat} {xs : Nat → Int32} {x3 : Int32} {a1 a2 : Nat} {cb sb : Nat} (hcb : cb + 15 ≤ 600000) (hsb : sb + 105 ≤ 7302249) (K : CX p s m args meth c cL_law 4 RL ret G b0) (hX : va_X b L xs s s.heap) (hbl : b < s.heap.size) (hbA : ¬ AB b0 b) (k : AH → Option Int32) (hk : ∀ (h : AH), k h = some 1 → WA p l e room_1 s m args below meth c Q G b0 4 h0 (cb + 15) (sb + 105) h 1837 [(0, .ref b), (1, .ref a1), (2, .ref a2), (3, .int x3)] []) : ∀ (h : AH), fL_c31 L xs x3 a1 a2 k h = some 1 → WA p l e room_1 s m args below meth c Q G b0 4 h0 cb sb h 1408 [(0, .ref b), (1, .ref a1), (2, .ref a2), (3, .int x3)] [] := by
  intro h hf
  unfold fL_c31 at hf
  refine r_aload_n K 1 dL_law_1408 rfl ?_
  refine r_aload_n K 0 dL_law_1409 rfl ?_
  refine r_iload_n K 3 dL_law_1410 rfl ?_
  refine r_iconst (v := (1 : Int32)) K dL_law_1411 (by decide) ?_
  refine r_iadd K dL_law_1412 ?_
  obtain ⟨v530, e531, hf⟩ := ob1_s hf
  refine r_sld K hX hbl hbA dL_law_1413 e531 ?_
  refine r_aload_n K 0 dL_law_1414 rfl ?_
  refine r_iload_n K 3 dL_law_1415 rfl ?_
  refine r_iconst (v := (2 : Int32)) K dL_law_1416 (by decide) ?_
  refine r_iadd K dL_law_1417 ?_
  obtain ⟨v532, e533, hf⟩ := ob1_s hf
  refine r_sld K hX hbl hbA dL_law_1418 e533 ?_
  refine r_aload_n K 0 dL_law_1419 rfl ?_
  refine r_iload_n K 3 dL_law_1420 rfl ?_
  refine r_iconst (v := (3 : Int32)) K dL_law_1421 (by decide) ?_
  refine r_iadd K dL_law_1422 ?_
  obtain ⟨v534, e535, hf⟩ := ob1_s hf
  refine r_sld K hX hbl hbA dL_law_1423 e535 ?_
  obtain ⟨z536, hf⟩ := gd_s hf
  obtain ⟨r537, g538, e539, hf⟩ := ob2_s hf
  refine r_callV (As := [.int v530, .int v532, .int v534]) (rest := []) (st1 := [.int r537]) (cells1 := cb) (slots1 := sb) (b := a1) (ci := 9) K (fun z => mX9_lay l z e539) dL_law_1424 rfl (fun _ => isO_of z536) rfl ceX9_lay q_802 q_803 q_804 q_75 q_805 ⟨Nat.le_of_ble_eq_true rfl, Nat.le_of_ble_eq_true rfl⟩ (Nat.le_of_ble_eq_true rfl) ⟨by show cb ≤ 600000; omega, by show sb ≤ 7302249; omega⟩ ?_ rfl rfl rfl rfl
  refine r_aload_n K 2 dL_law_1427 rfl ?_
  refine r_aload_n K 0 dL_law_1428 rfl ?_
  refine r_iload_n K 3 dL_law_1429 rfl ?_
  refine r_iconst (v := (1 : Int32)) K dL_law_1430 (by decide) ?_
  refine r_iadd K dL_law_1431 ?_
  obtain ⟨v540, e541, hf⟩ := ob1_s hf
  refine r_sld K hX hbl hbA dL_law_1432 e541 ?_
  refine r_aload_n K 0 dL_law_1433 rfl ?_
  refine r_iload_n K 3 dL_law_1434 rfl ?_
  refine r_iconst (v := (2 : Int32)) K dL_law_1435 (by decide) ?_
  refine r_iadd K dL_law_1436 ?_
  obtain ⟨v542, e543, hf⟩ := ob1_s hf
  refine r_sld K hX hbl hbA dL_law_1437 e543 ?_
  refine r_aload_n K 0 dL_law_1438 rfl ?_
  refine r_iload_n K 3 dL_law_1439 rfl ?_
  refine r_iconst (v := (3 : Int32)) K dL_law_1440 (by decide) ?_
  refine r_iadd K dL_law_1441 ?_
  obtain ⟨v544, e545, hf⟩ := ob1_s hf
  refine r_sld K hX hbl hbA dL_law_1442 e545 ?_
  obtain ⟨z546, hf⟩ := gd_s hf
  obtain ⟨r547, g548, e549, hf⟩ := ob2_s hf
  refine r_callV (As := [.int v540, .int v542, .int v544]) (rest := [.int r537]) (st1 := [.int r547, .int r537]) (cells1 := cb) (slots1 := sb) (b := a2) (ci := 10) K (fun z => mX10_lay l z e549) dL_law_1443 rfl (fun _ => isO_of z546) rfl ceX10_lay q_1358 q_1359 q_1360 q_85 q_1361 ⟨Nat.le_of_ble_eq_true rfl, Nat.le_of_ble_eq_true rfl⟩ (Nat.le_of_ble_eq_true rfl) ⟨by show cb ≤ 600000; omega, by show sb ≤ 7302249; omega⟩ ?_ rfl rfl rfl rfl
  refine r_icmp_eq (tgt := 1837) K dL_law_1446 (by decide) (fun c550 => ?_) (fun c550 => ?_)
  · replace hf := ite_t hf c550
    refine r_wide (k1 := cb + 15) (n1 := sb + 105) (by omega) (by omega) ?_
    exact hk g548 hf
  · replace hf := ite_f hf c550
    refine r_iconst (v := (0 : Int32)) K dL_law_1449 (by decide) ?_
    exact absurd hf (by decide)
def fL_c32 (L : Nat) (xs : Nat → Int32) (x3 : Int32) (a1 a2 : Nat) (k : AH → Option Int32) (h : AH) : Option Int32 :=
  ob1 (sc L xs (x3 + (1 : Int32))) fun v551 =>
  ob1 (sc L xs (x3 + (2 : Int32))) fun v553 =>
  gd (ckO h a1 9) <|
  ob2 (fX9_judge a1 v551 v553 h) fun r556 g557 =>
  ob1 (sc L xs (x3 + (1 : Int32))) fun v559 =>
  ob1 (sc L xs (x3 + (2 : Int32))) fun v561 =>
  gd (ckO g557 a2 10) <|
  ob2 (fX10_judge a2 v559 v561 g557) fun r564 g565 =>
  if r556 = r564 then
    k g565
  else
    some (0 : Int32)
set_option maxHeartbeats 4000000 in
set_option maxRecDepth 100000 in
theorem wL_c32 {p : Program} {l : Launch} {e : Env} {s : State} {m : MethodId} {args : Array Value} {below : List Frame} {meth : Method} {c : Code} {Q : State → Prop} {G : GG} {b0 : Nat} {h0 : AH} {b L : Nat} {xs : Nat → Int32} {x3 : Int32} {a1 a2 : Nat} {cb sb : Nat} (hcb : cb + 15 ≤ 600000) (hsb : sb + 105 ≤ 7302249) (K : CX p s m args meth c cL_law 4 RL ret G b0) (hX : va_X b L xs s s.heap) (hbl : b < s.heap.size) (hbA : ¬ AB b0 b) (k : AH → Option Int32) (hk : ∀ (h : AH), k h = some 1 → WA p l e room_1 s m args below meth c Q G b0 4 h0 (cb + 15) (sb + 105) h 1837 [(0, .ref b), (1, .ref a1), (2, .ref a2), (3, .int x3)] []) : ∀ (h : AH), fL_c32 L xs x3 a1 a2 k h = some 1 → WA p l e room_1 s m args below meth c Q G b0 4 h0 cb sb h 1451 [(0, .ref b), (1, .ref a1), (2, .ref a2), (3, .int x3)] [] := by
  intro h hf
  unfold fL_c32 at hf
  refine r_aload_n K 1 dL_law_1451 rfl ?_
  refine r_aload_n K 0 dL_law_1452 rfl ?_
  refine r_iload_n K 3 dL_law_1453 rfl ?_
  refine r_iconst (v := (1 : Int32)) K dL_law_1454 (by decide) ?_
  refine r_iadd K dL_law_1455 ?_
  obtain ⟨v551, e552, hf⟩ := ob1_s hf
  refine r_sld K hX hbl hbA dL_law_1456 e552 ?_
  refine r_aload_n K 0 dL_law_1457 rfl ?_
  refine r_iload_n K 3 dL_law_1458 rfl ?_
  refine r_iconst (v := (2 : Int32)) K dL_law_1459 (by decide) ?_
  refine r_iadd K dL_law_1460 ?_
  obtain ⟨v553, e554, hf⟩ := ob1_s hf
  refine r_sld K hX hbl hbA dL_law_1461 e554 ?_
  obtain ⟨z555, hf⟩ := gd_s hf
  obtain ⟨r556, g557, e558, hf⟩ := ob2_s hf
  refine r_callV (As := [.int v551, .int v553]) (rest := []) (st1 := [.int r556]) (cells1 := cb) (slots1 := sb) (b := a1) (ci := 9) K (fun z => mX9_judge l z e558) dL_law_1462 rfl (fun _ => isO_of z555) rfl ceX9_judge q_810 q_811 q_812 q_75 q_813 ⟨Nat.le_of_ble_eq_true rfl, Nat.le_of_ble_eq_true rfl⟩ (Nat.le_of_ble_eq_true rfl) ⟨by show cb ≤ 600000; omega, by show sb ≤ 7302249; omega⟩ ?_ rfl rfl rfl rfl
  refine r_aload_n K 2 dL_law_1465 rfl ?_
  refine r_aload_n K 0 dL_law_1466 rfl ?_
  refine r_iload_n K 3 dL_law_1467 rfl ?_
  refine r_iconst (v := (1 : Int32)) K dL_law_1468 (by decide) ?_
  refine r_iadd K dL_law_1469 ?_
  obtain ⟨v559, e560, hf⟩ := ob1_s hf
  refine r_sld K hX hbl hbA dL_law_1470 e560 ?_
  refine r_aload_n K 0 dL_law_1471 rfl ?_
  refine r_iload_n K 3 dL_law_1472 rfl ?_
  refine r_iconst (v := (2 : Int32)) K dL_law_1473 (by decide) ?_
  refine r_iadd K dL_law_1474 ?_
  obtain ⟨v561, e562, hf⟩ := ob1_s hf
  refine r_sld K hX hbl hbA dL_law_1475 e562 ?_
  obtain ⟨z563, hf⟩ := gd_s hf
  obtain ⟨r564, g565, e566, hf⟩ := ob2_s hf
  refine r_callV (As := [.int v559, .int v561]) (rest := [.int r556]) (st1 := [.int r564, .int r556]) (cells1 := cb) (slots1 := sb) (b := a2) (ci := 10) K (fun z => mX10_judge l z e566) dL_law_1476 rfl (fun _ => isO_of z563) rfl ceX10_judge q_1362 q_1363 q_1364 q_85 q_1365 ⟨Nat.le_of_ble_eq_true rfl, Nat.le_of_ble_eq_true rfl⟩ (Nat.le_of_ble_eq_true rfl) ⟨by show cb ≤ 600000; omega, by show sb ≤ 7302249; omega⟩ ?_ rfl rfl rfl rfl
  refine r_icmp_eq (tgt := 1837) K dL_law_1479 (by decide) (fun c567 => ?_) (fun c567 => ?_)
  · replace hf := ite_t hf c567
    refine r_wide (k1 := cb + 15) (n1 := sb + 105) (by omega) (by omega) ?_
    exact hk g565 hf
  · replace hf := ite_f hf c567
    refine r_iconst (v := (0 : Int32)) K dL_law_1482 (by decide) ?_
    exact absurd hf (by decide)
def fL_c33 (L : Nat) (xs : Nat → Int32) (x3 : Int32) (a1 a2 : Nat) (k : AH → Option Int32) (h : AH) : Option Int32 :=
  ob1 (sc L xs (x3 + (1 : Int32))) fun v568 =>
  ob1 (sc L xs (x3 + (2 : Int32))) fun v570 =>
  ob1 (sc L xs (x3 + (3 : Int32))) fun v572 =>
  gd (ckO h a1 9) <|
  ob2 (fX9_tray a1 v568 v570 v572 h) fun r575 g576 =>
  ob1 (sc L xs (x3 + (1 : Int32))) fun v578 =>
  ob1 (sc L xs (x3 + (2 : Int32))) fun v580 =>
  ob1 (sc L xs (x3 + (3 : Int32))) fun v582 =>
  gd (ckO g576 a2 10) <|
  ob2 (fX10_tray a2 v578 v580 v582 g576) fun r585 g586 =>
  if r575 = r585 then
    k g586
  else
    some (0 : Int32)
set_option maxHeartbeats 4000000 in
set_option maxRecDepth 100000 in
theorem wL_c33 {p : Program} {l : Launch} {e : Env} {s : State} {m : MethodId} {args : Array Value} {below : List Frame} {meth : Method} {c : Code} {Q : State → Prop} {G : GG} {b0 : Nat} {h0 : AH} {b L : Nat} {xs : Nat → Int32} {x3 : Int32} {a1 a2 : Nat} {cb sb : Nat} (hcb : cb + 15 ≤ 600000) (hsb : sb + 105 ≤ 7302249) (K : CX p s m args meth c cL_law 4 RL ret G b0) (hX : va_X b L xs s s.heap) (hbl : b < s.heap.size) (hbA : ¬ AB b0 b) (k : AH → Option Int32) (hk : ∀ (h : AH), k h = some 1 → WA p l e room_1 s m args below meth c Q G b0 4 h0 (cb + 15) (sb + 105) h 1837 [(0, .ref b), (1, .ref a1), (2, .ref a2), (3, .int x3)] []) : ∀ (h : AH), fL_c33 L xs x3 a1 a2 k h = some 1 → WA p l e room_1 s m args below meth c Q G b0 4 h0 cb sb h 1484 [(0, .ref b), (1, .ref a1), (2, .ref a2), (3, .int x3)] [] := by
  intro h hf
  unfold fL_c33 at hf
  refine r_aload_n K 1 dL_law_1484 rfl ?_
  refine r_aload_n K 0 dL_law_1485 rfl ?_
  refine r_iload_n K 3 dL_law_1486 rfl ?_
  refine r_iconst (v := (1 : Int32)) K dL_law_1487 (by decide) ?_
  refine r_iadd K dL_law_1488 ?_
  obtain ⟨v568, e569, hf⟩ := ob1_s hf
  refine r_sld K hX hbl hbA dL_law_1489 e569 ?_
  refine r_aload_n K 0 dL_law_1490 rfl ?_
  refine r_iload_n K 3 dL_law_1491 rfl ?_
  refine r_iconst (v := (2 : Int32)) K dL_law_1492 (by decide) ?_
  refine r_iadd K dL_law_1493 ?_
  obtain ⟨v570, e571, hf⟩ := ob1_s hf
  refine r_sld K hX hbl hbA dL_law_1494 e571 ?_
  refine r_aload_n K 0 dL_law_1495 rfl ?_
  refine r_iload_n K 3 dL_law_1496 rfl ?_
  refine r_iconst (v := (3 : Int32)) K dL_law_1497 (by decide) ?_
  refine r_iadd K dL_law_1498 ?_
  obtain ⟨v572, e573, hf⟩ := ob1_s hf
  refine r_sld K hX hbl hbA dL_law_1499 e573 ?_
  obtain ⟨z574, hf⟩ := gd_s hf
  obtain ⟨r575, g576, e577, hf⟩ := ob2_s hf
  refine r_callV (As := [.int v568, .int v570, .int v572]) (rest := []) (st1 := [.int r575]) (cells1 := cb) (slots1 := sb) (b := a1) (ci := 9) K (fun z => mX9_tray l z e577) dL_law_1500 rfl (fun _ => isO_of z574) rfl ceX9_tray q_832 q_833 q_834 q_75 q_835 ⟨Nat.le_of_ble_eq_true rfl, Nat.le_of_ble_eq_true rfl⟩ (Nat.le_of_ble_eq_true rfl) ⟨by show cb ≤ 600000; omega, by show sb ≤ 7302249; omega⟩ ?_ rfl rfl rfl rfl
  refine r_aload_n K 2 dL_law_1503 rfl ?_
  refine r_aload_n K 0 dL_law_1504 rfl ?_
  refine r_iload_n K 3 dL_law_1505 rfl ?_
  refine r_iconst (v := (1 : Int32)) K dL_law_1506 (by decide) ?_
  refine r_iadd K dL_law_1507 ?_
  obtain ⟨v578, e579, hf⟩ := ob1_s hf
  refine r_sld K hX hbl hbA dL_law_1508 e579 ?_
  refine r_aload_n K 0 dL_law_1509 rfl ?_
  refine r_iload_n K 3 dL_law_1510 rfl ?_
  refine r_iconst (v := (2 : Int32)) K dL_law_1511 (by decide) ?_
  refine r_iadd K dL_law_1512 ?_
  obtain ⟨v580, e581, hf⟩ := ob1_s hf
  refine r_sld K hX hbl hbA dL_law_1513 e581 ?_
  refine r_aload_n K 0 dL_law_1514 rfl ?_
  refine r_iload_n K 3 dL_law_1515 rfl ?_
  refine r_iconst (v := (3 : Int32)) K dL_law_1516 (by decide) ?_
  refine r_iadd K dL_law_1517 ?_
  obtain ⟨v582, e583, hf⟩ := ob1_s hf
  refine r_sld K hX hbl hbA dL_law_1518 e583 ?_
  obtain ⟨z584, hf⟩ := gd_s hf
  obtain ⟨r585, g586, e587, hf⟩ := ob2_s hf
  refine r_callV (As := [.int v578, .int v580, .int v582]) (rest := [.int r575]) (st1 := [.int r585, .int r575]) (cells1 := cb) (slots1 := sb) (b := a2) (ci := 10) K (fun z => mX10_tray l z e587) dL_law_1519 rfl (fun _ => isO_of z584) rfl ceX10_tray q_1376 q_1377 q_1378 q_85 q_1379 ⟨Nat.le_of_ble_eq_true rfl, Nat.le_of_ble_eq_true rfl⟩ (Nat.le_of_ble_eq_true rfl) ⟨by show cb ≤ 600000; omega, by show sb ≤ 7302249; omega⟩ ?_ rfl rfl rfl rfl
  refine r_icmp_eq (tgt := 1837) K dL_law_1522 (by decide) (fun c588 => ?_) (fun c588 => ?_)
  · replace hf := ite_t hf c588
    refine r_wide (k1 := cb + 15) (n1 := sb + 105) (by omega) (by omega) ?_
    exact hk g586 hf
  · replace hf := ite_f hf c588
    refine r_iconst (v := (0 : Int32)) K dL_law_1525 (by decide) ?_
    exact absurd hf (by decide)
def fL_c34 (L : Nat) (xs : Nat → Int32) (x3 : Int32) (a1 a2 : Nat) (k : AH → Option Int32) (h : AH) : Option Int32 :=
  ob1 (sc L xs (x3 + (1 : Int32))) fun v589 =>
  ob1 (sc L xs (x3 + (2 : Int32))) fun v591 =>
  ob1 (sc L xs (x3 + (3 : Int32))) fun v593 =>
  gd (ckO h a1 9) <|
  ob2 (fX9_lays a1 v589 v591 v593 h) fun r596 g597 =>
  ob1 (sc L xs (x3 + (1 : Int32))) fun v599 =>
  ob1 (sc L xs (x3 + (2 : Int32))) fun v601 =>
  ob1 (sc L xs (x3 + (3 : Int32))) fun v603 =>
  gd (ckO g597 a2 10) <|
  ob2 (fX10_lays a2 v599 v601 v603 g597) fun r606 g607 =>
  if r596 = r606 then
    k g607
  else
    some (0 : Int32)
set_option maxHeartbeats 4000000 in
set_option maxRecDepth 100000 in
theorem wL_c34 {p : Program} {l : Launch} {e : Env} {s : State} {m : MethodId} {args : Array Value} {below : List Frame} {meth : Method} {c : Code} {Q : State → Prop} {G : GG} {b0 : Nat} {h0 : AH} {b L : Nat} {xs : Nat → Int32} {x3 : Int32} {a1 a2 : Nat} {cb sb : Nat} (hcb : cb + 15 ≤ 600000) (hsb : sb + 105 ≤ 7302249) (K : CX p s m args meth c cL_law 4 RL ret G b0) (hX : va_X b L xs s s.heap) (hbl : b < s.heap.size) (hbA : ¬ AB b0 b) (k : AH → Option Int32) (hk : ∀ (h : AH), k h = some 1 → WA p l e room_1 s m args below meth c Q G b0 4 h0 (cb + 15) (sb + 105) h 1837 [(0, .ref b), (1, .ref a1), (2, .ref a2), (3, .int x3)] []) : ∀ (h : AH), fL_c34 L xs x3 a1 a2 k h = some 1 → WA p l e room_1 s m args below meth c Q G b0 4 h0 cb sb h 1527 [(0, .ref b), (1, .ref a1), (2, .ref a2), (3, .int x3)] [] := by
  intro h hf
  unfold fL_c34 at hf
  refine r_aload_n K 1 dL_law_1527 rfl ?_
  refine r_aload_n K 0 dL_law_1528 rfl ?_
  refine r_iload_n K 3 dL_law_1529 rfl ?_
  refine r_iconst (v := (1 : Int32)) K dL_law_1530 (by decide) ?_
  refine r_iadd K dL_law_1531 ?_
  obtain ⟨v589, e590, hf⟩ := ob1_s hf
  refine r_sld K hX hbl hbA dL_law_1532 e590 ?_
  refine r_aload_n K 0 dL_law_1533 rfl ?_
  refine r_iload_n K 3 dL_law_1534 rfl ?_
  refine r_iconst (v := (2 : Int32)) K dL_law_1535 (by decide) ?_
  refine r_iadd K dL_law_1536 ?_
  obtain ⟨v591, e592, hf⟩ := ob1_s hf
  refine r_sld K hX hbl hbA dL_law_1537 e592 ?_
  refine r_aload_n K 0 dL_law_1538 rfl ?_
  refine r_iload_n K 3 dL_law_1539 rfl ?_
  refine r_iconst (v := (3 : Int32)) K dL_law_1540 (by decide) ?_
  refine r_iadd K dL_law_1541 ?_
  obtain ⟨v593, e594, hf⟩ := ob1_s hf
  refine r_sld K hX hbl hbA dL_law_1542 e594 ?_
  obtain ⟨z595, hf⟩ := gd_s hf
  obtain ⟨r596, g597, e598, hf⟩ := ob2_s hf
  refine r_callV (As := [.int v589, .int v591, .int v593]) (rest := []) (st1 := [.int r596]) (cells1 := cb) (slots1 := sb) (b := a1) (ci := 9) K (fun z => mX9_lays l z e598) dL_law_1543 rfl (fun _ => isO_of z595) rfl ceX9_lays q_840 q_841 q_842 q_75 q_843 ⟨Nat.le_of_ble_eq_true rfl, Nat.le_of_ble_eq_true rfl⟩ (Nat.le_of_ble_eq_true rfl) ⟨by show cb ≤ 600000; omega, by show sb ≤ 7302249; omega⟩ ?_ rfl rfl rfl rfl
  refine r_aload_n K 2 dL_law_1546 rfl ?_
  refine r_aload_n K 0 dL_law_1547 rfl ?_
  refine r_iload_n K 3 dL_law_1548 rfl ?_
  refine r_iconst (v := (1 : Int32)) K dL_law_1549 (by decide) ?_
  refine r_iadd K dL_law_1550 ?_
  obtain ⟨v599, e600, hf⟩ := ob1_s hf
  refine r_sld K hX hbl hbA dL_law_1551 e600 ?_
  refine r_aload_n K 0 dL_law_1552 rfl ?_
  refine r_iload_n K 3 dL_law_1553 rfl ?_
  refine r_iconst (v := (2 : Int32)) K dL_law_1554 (by decide) ?_
  refine r_iadd K dL_law_1555 ?_
  obtain ⟨v601, e602, hf⟩ := ob1_s hf
  refine r_sld K hX hbl hbA dL_law_1556 e602 ?_
  refine r_aload_n K 0 dL_law_1557 rfl ?_
  refine r_iload_n K 3 dL_law_1558 rfl ?_
  refine r_iconst (v := (3 : Int32)) K dL_law_1559 (by decide) ?_
  refine r_iadd K dL_law_1560 ?_
  obtain ⟨v603, e604, hf⟩ := ob1_s hf
  refine r_sld K hX hbl hbA dL_law_1561 e604 ?_
  obtain ⟨z605, hf⟩ := gd_s hf
  obtain ⟨r606, g607, e608, hf⟩ := ob2_s hf
  refine r_callV (As := [.int v599, .int v601, .int v603]) (rest := [.int r596]) (st1 := [.int r606, .int r596]) (cells1 := cb) (slots1 := sb) (b := a2) (ci := 10) K (fun z => mX10_lays l z e608) dL_law_1562 rfl (fun _ => isO_of z605) rfl ceX10_lays q_1383 q_1384 q_1385 q_85 q_1386 ⟨Nat.le_of_ble_eq_true rfl, Nat.le_of_ble_eq_true rfl⟩ (Nat.le_of_ble_eq_true rfl) ⟨by show cb ≤ 600000; omega, by show sb ≤ 7302249; omega⟩ ?_ rfl rfl rfl rfl
  refine r_icmp_eq (tgt := 1837) K dL_law_1565 (by decide) (fun c609 => ?_) (fun c609 => ?_)
  · replace hf := ite_t hf c609
    refine r_wide (k1 := cb + 15) (n1 := sb + 105) (by omega) (by omega) ?_
    exact hk g607 hf
  · replace hf := ite_f hf c609
    refine r_iconst (v := (0 : Int32)) K dL_law_1568 (by decide) ?_
    exact absurd hf (by decide)
def fL_c35 (L : Nat) (xs : Nat → Int32) (x3 : Int32) (a1 a2 : Nat) (k : AH → Option Int32) (h : AH) : Option Int32 :=
  ob1 (sc L xs (x3 + (1 : Int32))) fun v610 =>
  ob1 (sc L xs (x3 + (2 : Int32))) fun v612 =>
  ob1 (sc L xs (x3 + (3 : Int32))) fun v614 =>
  gd (ckO h a1 9) <|
  ob1 (fX9_laid a1 v610 v612 v614 h) fun r617 =>
  ob1 (sc L xs (x3 + (1 : Int32))) fun v619 =>
  ob1 (sc L xs (x3 + (2 : Int32))) fun v621 =>
  ob1 (sc L xs (x3 + (3 : Int32))) fun v623 =>
  gd (ckO h a2 10) <|
  ob1 (fX10_laid a2 v619 v621 v623 h) fun r626 =>
  if r617 = r626 then
    k h
  else
    some (0 : Int32)
set_option maxHeartbeats 4000000 in
set_option maxRecDepth 100000 in
theorem wL_c35 {p : Program} {l : Launch} {e : Env} {s : State} {m : MethodId} {args : Array Value} {below : List Frame} {meth : Method} {c : Code} {Q : State → Prop} {G : GG} {b0 : Nat} {h0 : AH} {b L : Nat} {xs : Nat → Int32} {x3 : Int32} {a1 a2 : Nat} {cb sb : Nat} (hcb : cb + 15 ≤ 600000) (hsb : sb + 105 ≤ 7302249) (K : CX p s m args meth c cL_law 4 RL ret G b0) (hX : va_X b L xs s s.heap) (hbl : b < s.heap.size) (hbA : ¬ AB b0 b) (k : AH → Option Int32) (hk : ∀ (h : AH), k h = some 1 → WA p l e room_1 s m args below meth c Q G b0 4 h0 (cb + 15) (sb + 105) h 1837 [(0, .ref b), (1, .ref a1), (2, .ref a2), (3, .int x3)] []) : ∀ (h : AH), fL_c35 L xs x3 a1 a2 k h = some 1 → WA p l e room_1 s m args below meth c Q G b0 4 h0 cb sb h 1570 [(0, .ref b), (1, .ref a1), (2, .ref a2), (3, .int x3)] [] := by
  intro h hf
  unfold fL_c35 at hf
  refine r_aload_n K 1 dL_law_1570 rfl ?_
  refine r_aload_n K 0 dL_law_1571 rfl ?_
  refine r_iload_n K 3 dL_law_1572 rfl ?_
  refine r_iconst (v := (1 : Int32)) K dL_law_1573 (by decide) ?_
  refine r_iadd K dL_law_1574 ?_
  obtain ⟨v610, e611, hf⟩ := ob1_s hf
  refine r_sld K hX hbl hbA dL_law_1575 e611 ?_
  refine r_aload_n K 0 dL_law_1576 rfl ?_
  refine r_iload_n K 3 dL_law_1577 rfl ?_
  refine r_iconst (v := (2 : Int32)) K dL_law_1578 (by decide) ?_
  refine r_iadd K dL_law_1579 ?_
  obtain ⟨v612, e613, hf⟩ := ob1_s hf
  refine r_sld K hX hbl hbA dL_law_1580 e613 ?_
  refine r_aload_n K 0 dL_law_1581 rfl ?_
  refine r_iload_n K 3 dL_law_1582 rfl ?_
  refine r_iconst (v := (3 : Int32)) K dL_law_1583 (by decide) ?_
  refine r_iadd K dL_law_1584 ?_
  obtain ⟨v614, e615, hf⟩ := ob1_s hf
  refine r_sld K hX hbl hbA dL_law_1585 e615 ?_
  obtain ⟨z616, hf⟩ := gd_s hf
  obtain ⟨r617, e618, hf⟩ := ob1_s hf
  refine r_callV (As := [.int v610, .int v612, .int v614]) (rest := []) (st1 := [.long r617]) (cells1 := cb) (slots1 := sb) (b := a1) (ci := 9) K (fun z => mX9_laid l z e618) dL_law_1586 rfl (fun _ => isO_of z616) rfl ceX9_laid q_848 q_849 q_850 q_75 q_851 ⟨Nat.le_of_ble_eq_true rfl, Nat.le_of_ble_eq_true rfl⟩ (Nat.le_of_ble_eq_true rfl) ⟨by show cb ≤ 600000; omega, by show sb ≤ 7302249; omega⟩ ?_ rfl rfl rfl rfl
  refine r_aload_n K 2 dL_law_1589 rfl ?_
  refine r_aload_n K 0 dL_law_1590 rfl ?_
  refine r_iload_n K 3 dL_law_1591 rfl ?_
  refine r_iconst (v := (1 : Int32)) K dL_law_1592 (by decide) ?_
  refine r_iadd K dL_law_1593 ?_
  obtain ⟨v619, e620, hf⟩ := ob1_s hf
  refine r_sld K hX hbl hbA dL_law_1594 e620 ?_
  refine r_aload_n K 0 dL_law_1595 rfl ?_
  refine r_iload_n K 3 dL_law_1596 rfl ?_
  refine r_iconst (v := (2 : Int32)) K dL_law_1597 (by decide) ?_
  refine r_iadd K dL_law_1598 ?_
  obtain ⟨v621, e622, hf⟩ := ob1_s hf
  refine r_sld K hX hbl hbA dL_law_1599 e622 ?_
  refine r_aload_n K 0 dL_law_1600 rfl ?_
  refine r_iload_n K 3 dL_law_1601 rfl ?_
  refine r_iconst (v := (3 : Int32)) K dL_law_1602 (by decide) ?_
  refine r_iadd K dL_law_1603 ?_
  obtain ⟨v623, e624, hf⟩ := ob1_s hf
  refine r_sld K hX hbl hbA dL_law_1604 e624 ?_
  obtain ⟨z625, hf⟩ := gd_s hf
  obtain ⟨r626, e627, hf⟩ := ob1_s hf
  refine r_callV (As := [.int v619, .int v621, .int v623]) (rest := [.long r617]) (st1 := [.long r626, .long r617]) (cells1 := cb) (slots1 := sb) (b := a2) (ci := 10) K (fun z => mX10_laid l z e627) dL_law_1605 rfl (fun _ => isO_of z625) rfl ceX10_laid q_1387 q_1388 q_1389 q_85 q_1390 ⟨Nat.le_of_ble_eq_true rfl, Nat.le_of_ble_eq_true rfl⟩ (Nat.le_of_ble_eq_true rfl) ⟨by show cb ≤ 600000; omega, by show sb ≤ 7302249; omega⟩ ?_ rfl rfl rfl rfl
  refine r_lif_eq (tgt := 1837) K dL_law_1608 dL_law_1609 (by decide) (fun c628 => ?_) (fun c628 => ?_)
  · replace hf := ite_t hf c628
    refine r_wide (k1 := cb + 15) (n1 := sb + 105) (by omega) (by omega) ?_
    exact hk h hf
  · replace hf := ite_f hf c628
    refine r_iconst (v := (0 : Int32)) K dL_law_1612 (by decide) ?_
    exact absurd hf (by decide)
def fL_c36 (L : Nat) (xs : Nat → Int32) (x3 : Int32) (a1 a2 : Nat) (k : AH → Option Int32) (h : AH) : Option Int32 :=
  ob1 (sc L xs (x3 + (1 : Int32))) fun v629 =>
  ob1 (sc L xs (x3 + (2 : Int32))) fun v631 =>
  gd (ckO h a1 9) <|
  ob2 (fX9_like a1 v629 v631 h) fun r634 g635 =>
  ob1 (sc L xs (x3 + (1 : Int32))) fun v637 =>
  ob1 (sc L xs (x3 + (2 : Int32))) fun v639 =>
  gd (ckO g635 a2 10) <|
  ob2 (fX10_like a2 v637 v639 g635) fun r642 g643 =>
  if r634 = r642 then
    k g643
  else
    some (0 : Int32)
set_option maxHeartbeats 4000000 in
set_option maxRecDepth 100000 in
theorem wL_c36 {p : Program} {l : Launch} {e : Env} {s : State} {m : MethodId} {args : Array Value} {below : List Frame} {meth : Method} {c : Code} {Q : State → Prop} {G : GG} {b0 : Nat} {h0 : AH} {b L : Nat} {xs : Nat → Int32} {x3 : Int32} {a1 a2 : Nat} {cb sb : Nat} (hcb : cb + 15 ≤ 600000) (hsb : sb + 105 ≤ 7302249) (K : CX p s m args meth c cL_law 4 RL ret G b0) (hX : va_X b L xs s s.heap) (hbl : b < s.heap.size) (hbA : ¬ AB b0 b) (k : AH → Option Int32) (hk : ∀ (h : AH), k h = some 1 → WA p l e room_1 s m args below meth c Q G b0 4 h0 (cb + 15) (sb + 105) h 1837 [(0, .ref b), (1, .ref a1), (2, .ref a2), (3, .int x3)] []) : ∀ (h : AH), fL_c36 L xs x3 a1 a2 k h = some 1 → WA p l e room_1 s m args below meth c Q G b0 4 h0 cb sb h 1614 [(0, .ref b), (1, .ref a1), (2, .ref a2), (3, .int x3)] [] := by
  intro h hf
  unfold fL_c36 at hf
  refine r_aload_n K 1 dL_law_1614 rfl ?_
  refine r_aload_n K 0 dL_law_1615 rfl ?_
  refine r_iload_n K 3 dL_law_1616 rfl ?_
  refine r_iconst (v := (1 : Int32)) K dL_law_1617 (by decide) ?_
  refine r_iadd K dL_law_1618 ?_
  obtain ⟨v629, e630, hf⟩ := ob1_s hf
  refine r_sld K hX hbl hbA dL_law_1619 e630 ?_
  refine r_aload_n K 0 dL_law_1620 rfl ?_
  refine r_iload_n K 3 dL_law_1621 rfl ?_
  refine r_iconst (v := (2 : Int32)) K dL_law_1622 (by decide) ?_
  refine r_iadd K dL_law_1623 ?_
  obtain ⟨v631, e632, hf⟩ := ob1_s hf
  refine r_sld K hX hbl hbA dL_law_1624 e632 ?_
  obtain ⟨z633, hf⟩ := gd_s hf
  obtain ⟨r634, g635, e636, hf⟩ := ob2_s hf
  refine r_callV (As := [.int v629, .int v631]) (rest := []) (st1 := [.int r634]) (cells1 := cb) (slots1 := sb) (b := a1) (ci := 9) K (fun z => mX9_like l z e636) dL_law_1625 rfl (fun _ => isO_of z633) rfl ceX9_like q_852 q_853 q_854 q_75 q_855 ⟨Nat.le_of_ble_eq_true rfl, Nat.le_of_ble_eq_true rfl⟩ (Nat.le_of_ble_eq_true rfl) ⟨by show cb ≤ 600000; omega, by show sb ≤ 7302249; omega⟩ ?_ rfl rfl rfl rfl
  refine r_aload_n K 2 dL_law_1628 rfl ?_
  refine r_aload_n K 0 dL_law_1629 rfl ?_
  refine r_iload_n K 3 dL_law_1630 rfl ?_
  refine r_iconst (v := (1 : Int32)) K dL_law_1631 (by decide) ?_
  refine r_iadd K dL_law_1632 ?_
  obtain ⟨v637, e638, hf⟩ := ob1_s hf
  refine r_sld K hX hbl hbA dL_law_1633 e638 ?_
  refine r_aload_n K 0 dL_law_1634 rfl ?_
  refine r_iload_n K 3 dL_law_1635 rfl ?_
  refine r_iconst (v := (2 : Int32)) K dL_law_1636 (by decide) ?_
  refine r_iadd K dL_law_1637 ?_
  obtain ⟨v639, e640, hf⟩ := ob1_s hf
  refine r_sld K hX hbl hbA dL_law_1638 e640 ?_
  obtain ⟨z641, hf⟩ := gd_s hf
  obtain ⟨r642, g643, e644, hf⟩ := ob2_s hf
  refine r_callV (As := [.int v637, .int v639]) (rest := [.int r634]) (st1 := [.int r642, .int r634]) (cells1 := cb) (slots1 := sb) (b := a2) (ci := 10) K (fun z => mX10_like l z e644) dL_law_1639 rfl (fun _ => isO_of z641) rfl ceX10_like q_1391 q_1392 q_1393 q_85 q_1394 ⟨Nat.le_of_ble_eq_true rfl, Nat.le_of_ble_eq_true rfl⟩ (Nat.le_of_ble_eq_true rfl) ⟨by show cb ≤ 600000; omega, by show sb ≤ 7302249; omega⟩ ?_ rfl rfl rfl rfl
  refine r_icmp_eq (tgt := 1837) K dL_law_1642 (by decide) (fun c645 => ?_) (fun c645 => ?_)
  · replace hf := ite_t hf c645
    refine r_wide (k1 := cb + 15) (n1 := sb + 105) (by omega) (by omega) ?_
    exact hk g643 hf
  · replace hf := ite_f hf c645
    refine r_iconst (v := (0 : Int32)) K dL_law_1645 (by decide) ?_
    exact absurd hf (by decide)
def fL_c37 (L : Nat) (xs : Nat → Int32) (x3 : Int32) (a1 a2 : Nat) (k : AH → Option Int32) (h : AH) : Option Int32 :=
  ob1 (sc L xs (x3 + (1 : Int32))) fun v646 =>
  gd (ckO h a1 9) <|
  ob1 (fX9_told a1 v646 h) fun r649 =>
  ob1 (sc L xs (x3 + (1 : Int32))) fun v651 =>
  gd (ckO h a2 10) <|
  ob1 (fX10_told a2 v651 h) fun r654 =>
  if r649 = r654 then
    k h
  else
    some (0 : Int32)
set_option maxHeartbeats 4000000 in
set_option maxRecDepth 100000 in
theorem wL_c37 {p : Program} {l : Launch} {e : Env} {s : State} {m : MethodId} {args : Array Value} {below : List Frame} {meth : Method} {c : Code} {Q : State → Prop} {G : GG} {b0 : Nat} {h0 : AH} {b L : Nat} {xs : Nat → Int32} {x3 : Int32} {a1 a2 : Nat} {cb sb : Nat} (hcb : cb + 15 ≤ 600000) (hsb : sb + 105 ≤ 7302249) (K : CX p s m args meth c cL_law 4 RL ret G b0) (hX : va_X b L xs s s.heap) (hbl : b < s.heap.size) (hbA : ¬ AB b0 b) (k : AH → Option Int32) (hk : ∀ (h : AH), k h = some 1 → WA p l e room_1 s m args below meth c Q G b0 4 h0 (cb + 15) (sb + 105) h 1837 [(0, .ref b), (1, .ref a1), (2, .ref a2), (3, .int x3)] []) : ∀ (h : AH), fL_c37 L xs x3 a1 a2 k h = some 1 → WA p l e room_1 s m args below meth c Q G b0 4 h0 cb sb h 1647 [(0, .ref b), (1, .ref a1), (2, .ref a2), (3, .int x3)] [] := by
  intro h hf
  unfold fL_c37 at hf
  refine r_aload_n K 1 dL_law_1647 rfl ?_
  refine r_aload_n K 0 dL_law_1648 rfl ?_
  refine r_iload_n K 3 dL_law_1649 rfl ?_
  refine r_iconst (v := (1 : Int32)) K dL_law_1650 (by decide) ?_
  refine r_iadd K dL_law_1651 ?_
  obtain ⟨v646, e647, hf⟩ := ob1_s hf
  refine r_sld K hX hbl hbA dL_law_1652 e647 ?_
  obtain ⟨z648, hf⟩ := gd_s hf
  obtain ⟨r649, e650, hf⟩ := ob1_s hf
  refine r_callV (As := [.int v646]) (rest := []) (st1 := [.long r649]) (cells1 := cb) (slots1 := sb) (b := a1) (ci := 9) K (fun z => mX9_told l z e650) dL_law_1653 rfl (fun _ => isO_of z648) rfl ceX9_told q_860 q_861 q_862 q_75 q_863 ⟨Nat.le_of_ble_eq_true rfl, Nat.le_of_ble_eq_true rfl⟩ (Nat.le_of_ble_eq_true rfl) ⟨by show cb ≤ 600000; omega, by show sb ≤ 7302249; omega⟩ ?_ rfl rfl rfl rfl
  refine r_aload_n K 2 dL_law_1656 rfl ?_
  refine r_aload_n K 0 dL_law_1657 rfl ?_
  refine r_iload_n K 3 dL_law_1658 rfl ?_
  refine r_iconst (v := (1 : Int32)) K dL_law_1659 (by decide) ?_
  refine r_iadd K dL_law_1660 ?_
  obtain ⟨v651, e652, hf⟩ := ob1_s hf
  refine r_sld K hX hbl hbA dL_law_1661 e652 ?_
  obtain ⟨z653, hf⟩ := gd_s hf
  obtain ⟨r654, e655, hf⟩ := ob1_s hf
  refine r_callV (As := [.int v651]) (rest := [.long r649]) (st1 := [.long r654, .long r649]) (cells1 := cb) (slots1 := sb) (b := a2) (ci := 10) K (fun z => mX10_told l z e655) dL_law_1662 rfl (fun _ => isO_of z653) rfl ceX10_told q_1395 q_1396 q_1397 q_85 q_1398 ⟨Nat.le_of_ble_eq_true rfl, Nat.le_of_ble_eq_true rfl⟩ (Nat.le_of_ble_eq_true rfl) ⟨by show cb ≤ 600000; omega, by show sb ≤ 7302249; omega⟩ ?_ rfl rfl rfl rfl
  refine r_lif_eq (tgt := 1837) K dL_law_1665 dL_law_1666 (by decide) (fun c656 => ?_) (fun c656 => ?_)
  · replace hf := ite_t hf c656
    refine r_wide (k1 := cb + 15) (n1 := sb + 105) (by omega) (by omega) ?_
    exact hk h hf
  · replace hf := ite_f hf c656
    refine r_iconst (v := (0 : Int32)) K dL_law_1669 (by decide) ?_
    exact absurd hf (by decide)
def fL_c38 (L : Nat) (xs : Nat → Int32) (x3 : Int32) (a1 a2 : Nat) (k : AH → Option Int32) (h : AH) : Option Int32 :=
  ob1 (sc L xs (x3 + (1 : Int32))) fun v657 =>
  ob1 (sc L xs (x3 + (2 : Int32))) fun v659 =>
  gd (ckO h a1 9) <|
  ob2 (fX9_list a1 v657 v659 h) fun r662 g663 =>
  ob1 (sc L xs (x3 + (1 : Int32))) fun v665 =>
  ob1 (sc L xs (x3 + (2 : Int32))) fun v667 =>
  gd (ckO g663 a2 10) <|
  ob2 (fX10_list a2 v665 v667 g663) fun r670 g671 =>
  if r662 = r670 then
    k g671
  else
    some (0 : Int32)
set_option maxHeartbeats 4000000 in
set_option maxRecDepth 100000 in
theorem wL_c38 {p : Program} {l : Launch} {e : Env} {s : State} {m : MethodId} {args : Array Value} {below : List Frame} {meth : Method} {c : Code} {Q : State → Prop} {G : GG} {b0 : Nat} {h0 : AH} {b L : Nat} {xs : Nat → Int32} {x3 : Int32} {a1 a2 : Nat} {cb sb : Nat} (hcb : cb + 15 ≤ 600000) (hsb : sb + 105 ≤ 7302249) (K : CX p s m args meth c cL_law 4 RL ret G b0) (hX : va_X b L xs s s.heap) (hbl : b < s.heap.size) (hbA : ¬ AB b0 b) (k : AH → Option Int32) (hk : ∀ (h : AH), k h = some 1 → WA p l e room_1 s m args below meth c Q G b0 4 h0 (cb + 15) (sb + 105) h 1837 [(0, .ref b), (1, .ref a1), (2, .ref a2), (3, .int x3)] []) : ∀ (h : AH), fL_c38 L xs x3 a1 a2 k h = some 1 → WA p l e room_1 s m args below meth c Q G b0 4 h0 cb sb h 1671 [(0, .ref b), (1, .ref a1), (2, .ref a2), (3, .int x3)] [] := by
  intro h hf
  unfold fL_c38 at hf
  refine r_aload_n K 1 dL_law_1671 rfl ?_
  refine r_aload_n K 0 dL_law_1672 rfl ?_
  refine r_iload_n K 3 dL_law_1673 rfl ?_
  refine r_iconst (v := (1 : Int32)) K dL_law_1674 (by decide) ?_
  refine r_iadd K dL_law_1675 ?_
  obtain ⟨v657, e658, hf⟩ := ob1_s hf
  refine r_sld K hX hbl hbA dL_law_1676 e658 ?_
  refine r_aload_n K 0 dL_law_1677 rfl ?_
  refine r_iload_n K 3 dL_law_1678 rfl ?_
  refine r_iconst (v := (2 : Int32)) K dL_law_1679 (by decide) ?_
  refine r_iadd K dL_law_1680 ?_
  obtain ⟨v659, e660, hf⟩ := ob1_s hf
  refine r_sld K hX hbl hbA dL_law_1681 e660 ?_
  obtain ⟨z661, hf⟩ := gd_s hf
  obtain ⟨r662, g663, e664, hf⟩ := ob2_s hf
  refine r_callV (As := [.int v657, .int v659]) (rest := []) (st1 := [.int r662]) (cells1 := cb) (slots1 := sb) (b := a1) (ci := 9) K (fun z => mX9_list l z e664) dL_law_1682 rfl (fun _ => isO_of z661) rfl ceX9_list q_872 q_873 q_874 q_75 q_875 ⟨Nat.le_of_ble_eq_true rfl, Nat.le_of_ble_eq_true rfl⟩ (Nat.le_of_ble_eq_true rfl) ⟨by show cb ≤ 600000; omega, by show sb ≤ 7302249; omega⟩ ?_ rfl rfl rfl rfl
  refine r_aload_n K 2 dL_law_1685 rfl ?_
  refine r_aload_n K 0 dL_law_1686 rfl ?_
  refine r_iload_n K 3 dL_law_1687 rfl ?_
  refine r_iconst (v := (1 : Int32)) K dL_law_1688 (by decide) ?_
  refine r_iadd K dL_law_1689 ?_
  obtain ⟨v665, e666, hf⟩ := ob1_s hf
  refine r_sld K hX hbl hbA dL_law_1690 e666 ?_
  refine r_aload_n K 0 dL_law_1691 rfl ?_
  refine r_iload_n K 3 dL_law_1692 rfl ?_
  refine r_iconst (v := (2 : Int32)) K dL_law_1693 (by decide) ?_
  refine r_iadd K dL_law_1694 ?_
  obtain ⟨v667, e668, hf⟩ := ob1_s hf
  refine r_sld K hX hbl hbA dL_law_1695 e668 ?_
  obtain ⟨z669, hf⟩ := gd_s hf
  obtain ⟨r670, g671, e672, hf⟩ := ob2_s hf
  refine r_callV (As := [.int v665, .int v667]) (rest := [.int r662]) (st1 := [.int r670, .int r662]) (cells1 := cb) (slots1 := sb) (b := a2) (ci := 10) K (fun z => mX10_list l z e672) dL_law_1696 rfl (fun _ => isO_of z669) rfl ceX10_list q_1343 q_1344 q_1345 q_85 q_1346 ⟨Nat.le_of_ble_eq_true rfl, Nat.le_of_ble_eq_true rfl⟩ (Nat.le_of_ble_eq_true rfl) ⟨by show cb ≤ 600000; omega, by show sb ≤ 7302249; omega⟩ ?_ rfl rfl rfl rfl
  refine r_icmp_eq (tgt := 1837) K dL_law_1699 (by decide) (fun c673 => ?_) (fun c673 => ?_)
  · replace hf := ite_t hf c673
    refine r_wide (k1 := cb + 15) (n1 := sb + 105) (by omega) (by omega) ?_
    exact hk g671 hf
  · replace hf := ite_f hf c673
    refine r_iconst (v := (0 : Int32)) K dL_law_1702 (by decide) ?_
    exact absurd hf (by decide)
def fL_c39 (L : Nat) (xs : Nat → Int32) (x3 : Int32) (a1 a2 : Nat) (k : AH → Option Int32) (h : AH) : Option Int32 :=
  ob1 (sc L xs (x3 + (1 : Int32))) fun v674 =>
  ob1 (sc L xs (x3 + (2 : Int32))) fun v676 =>
  ob1 (sc L xs (x3 + (3 : Int32))) fun v678 =>
  ob1 (sc L xs (x3 + (4 : Int32))) fun v680 =>
  gd (ckO h a1 9) <|
  ob2 (fX9_set a1 v674 v676 (((Int32.toInt64 v678) <<< (Int32.toInt64 (32 : Int32) &&& 63)) ||| ((Int32.toInt64 v680) &&& (4294967295 : Int64))) h) fun r683 g684 =>
  ob1 (sc L xs (x3 + (1 : Int32))) fun v686 =>
  ob1 (sc L xs (x3 + (2 : Int32))) fun v688 =>
  ob1 (sc L xs (x3 + (3 : Int32))) fun v690 =>
  ob1 (sc L xs (x3 + (4 : Int32))) fun v692 =>
  gd (ckO g684 a2 10) <|
  ob2 (fX10_set a2 v686 v688 (((Int32.toInt64 v690) <<< (Int32.toInt64 (32 : Int32) &&& 63)) ||| ((Int32.toInt64 v692) &&& (4294967295 : Int64))) g684) fun r695 g696 =>
  if r683 = r695 then
    k g696
  else
    some (0 : Int32)
set_option maxHeartbeats 4000000 in
set_option maxRecDepth 100000 in
theorem wL_c39 {p : Program} {l : Launch} {e : Env} {s : State} {m : MethodId} {args : Array Value} {below : List Frame} {meth : Method} {c : Code} {Q : State → Prop} {G : GG} {b0 : Nat} {h0 : AH} {b L : Nat} {xs : Nat → Int32} {x3 : Int32} {a1 a2 : Nat} {cb sb : Nat} (hcb : cb + 15 ≤ 600000) (hsb : sb + 105 ≤ 7302249) (K : CX p s m args meth c cL_law 4 RL ret G b0) (hX : va_X b L xs s s.heap) (hbl : b < s.heap.size) (hbA : ¬ AB b0 b) (k : AH → Option Int32) (hk : ∀ (h : AH), k h = some 1 → WA p l e room_1 s m args below meth c Q G b0 4 h0 (cb + 15) (sb + 105) h 1837 [(0, .ref b), (1, .ref a1), (2, .ref a2), (3, .int x3)] []) : ∀ (h : AH), fL_c39 L xs x3 a1 a2 k h = some 1 → WA p l e room_1 s m args below meth c Q G b0 4 h0 cb sb h 1704 [(0, .ref b), (1, .ref a1), (2, .ref a2), (3, .int x3)] [] := by
  intro h hf
  unfold fL_c39 at hf
  refine r_aload_n K 1 dL_law_1704 rfl ?_
  refine r_aload_n K 0 dL_law_1705 rfl ?_
  refine r_iload_n K 3 dL_law_1706 rfl ?_
  refine r_iconst (v := (1 : Int32)) K dL_law_1707 (by decide) ?_
  refine r_iadd K dL_law_1708 ?_
  obtain ⟨v674, e675, hf⟩ := ob1_s hf
  refine r_sld K hX hbl hbA dL_law_1709 e675 ?_
  refine r_aload_n K 0 dL_law_1710 rfl ?_
  refine r_iload_n K 3 dL_law_1711 rfl ?_
  refine r_iconst (v := (2 : Int32)) K dL_law_1712 (by decide) ?_
  refine r_iadd K dL_law_1713 ?_
  obtain ⟨v676, e677, hf⟩ := ob1_s hf
  refine r_sld K hX hbl hbA dL_law_1714 e677 ?_
  refine r_aload_n K 0 dL_law_1715 rfl ?_
  refine r_iload_n K 3 dL_law_1716 rfl ?_
  refine r_iconst (v := (3 : Int32)) K dL_law_1717 (by decide) ?_
  refine r_iadd K dL_law_1718 ?_
  obtain ⟨v678, e679, hf⟩ := ob1_s hf
  refine r_sld K hX hbl hbA dL_law_1719 e679 ?_
  refine r_i2l K dL_law_1720 ?_
  refine r_bipush (v := (32 : Int32)) K dL_law_1721 (by decide) ?_
  refine r_lshl K dL_law_1723 ?_
  refine r_aload_n K 0 dL_law_1724 rfl ?_
  refine r_iload_n K 3 dL_law_1725 rfl ?_
  refine r_iconst (v := (4 : Int32)) K dL_law_1726 (by decide) ?_
  refine r_iadd K dL_law_1727 ?_
  obtain ⟨v680, e681, hf⟩ := ob1_s hf
  refine r_sld K hX hbl hbA dL_law_1728 e681 ?_
  refine r_i2l K dL_law_1729 ?_
  refine r_ldc2 K dL_law_1730 q_1407 ?_
  refine r_land K dL_law_1733 ?_
  refine r_lor K dL_law_1734 ?_
  obtain ⟨z682, hf⟩ := gd_s hf
  obtain ⟨r683, g684, e685, hf⟩ := ob2_s hf
  refine r_callV (As := [.int v674, .int v676, .long (((Int32.toInt64 v678) <<< (Int32.toInt64 (32 : Int32) &&& 63)) ||| ((Int32.toInt64 v680) &&& (4294967295 : Int64)))]) (rest := []) (st1 := [.int r683]) (cells1 := cb) (slots1 := sb) (b := a1) (ci := 9) K (fun z => mX9_set l z e685) dL_law_1735 rfl (fun _ => isO_of z682) rfl ceX9_set q_883 q_884 q_885 q_75 q_886 ⟨Nat.le_of_ble_eq_true rfl, Nat.le_of_ble_eq_true rfl⟩ (Nat.le_of_ble_eq_true rfl) ⟨by show cb ≤ 600000; omega, by show sb ≤ 7302249; omega⟩ ?_ rfl rfl rfl rfl
  refine r_aload_n K 2 dL_law_1738 rfl ?_
  refine r_aload_n K 0 dL_law_1739 rfl ?_
  refine r_iload_n K 3 dL_law_1740 rfl ?_
  refine r_iconst (v := (1 : Int32)) K dL_law_1741 (by decide) ?_
  refine r_iadd K dL_law_1742 ?_
  obtain ⟨v686, e687, hf⟩ := ob1_s hf
  refine r_sld K hX hbl hbA dL_law_1743 e687 ?_
  refine r_aload_n K 0 dL_law_1744 rfl ?_
  refine r_iload_n K 3 dL_law_1745 rfl ?_
  refine r_iconst (v := (2 : Int32)) K dL_law_1746 (by decide) ?_
  refine r_iadd K dL_law_1747 ?_
  obtain ⟨v688, e689, hf⟩ := ob1_s hf
  refine r_sld K hX hbl hbA dL_law_1748 e689 ?_
  refine r_aload_n K 0 dL_law_1749 rfl ?_
  refine r_iload_n K 3 dL_law_1750 rfl ?_
  refine r_iconst (v := (3 : Int32)) K dL_law_1751 (by decide) ?_
  refine r_iadd K dL_law_1752 ?_
  obtain ⟨v690, e691, hf⟩ := ob1_s hf
  refine r_sld K hX hbl hbA dL_law_1753 e691 ?_
  refine r_i2l K dL_law_1754 ?_
  refine r_bipush (v := (32 : Int32)) K dL_law_1755 (by decide) ?_
  refine r_lshl K dL_law_1757 ?_
  refine r_aload_n K 0 dL_law_1758 rfl ?_
  refine r_iload_n K 3 dL_law_1759 rfl ?_
  refine r_iconst (v := (4 : Int32)) K dL_law_1760 (by decide) ?_
  refine r_iadd K dL_law_1761 ?_
  obtain ⟨v692, e693, hf⟩ := ob1_s hf
  refine r_sld K hX hbl hbA dL_law_1762 e693 ?_
  refine r_i2l K dL_law_1763 ?_
  refine r_ldc2 K dL_law_1764 q_1407 ?_
  refine r_land K dL_law_1767 ?_
  refine r_lor K dL_law_1768 ?_
  obtain ⟨z694, hf⟩ := gd_s hf
  obtain ⟨r695, g696, e697, hf⟩ := ob2_s hf
  refine r_callV (As := [.int v686, .int v688, .long (((Int32.toInt64 v690) <<< (Int32.toInt64 (32 : Int32) &&& 63)) ||| ((Int32.toInt64 v692) &&& (4294967295 : Int64)))]) (rest := [.int r683]) (st1 := [.int r695, .int r683]) (cells1 := cb) (slots1 := sb) (b := a2) (ci := 10) K (fun z => mX10_set l z e697) dL_law_1769 rfl (fun _ => isO_of z694) rfl ceX10_set q_1350 q_1351 q_1352 q_85 q_1353 ⟨Nat.le_of_ble_eq_true rfl, Nat.le_of_ble_eq_true rfl⟩ (Nat.le_of_ble_eq_true rfl) ⟨by show cb ≤ 600000; omega, by show sb ≤ 7302249; omega⟩ ?_ rfl rfl rfl rfl
  refine r_icmp_eq (tgt := 1837) K dL_law_1772 (by decide) (fun c698 => ?_) (fun c698 => ?_)
  · replace hf := ite_t hf c698
    refine r_wide (k1 := cb + 15) (n1 := sb + 105) (by omega) (by omega) ?_
    exact hk g696 hf
  · replace hf := ite_f hf c698
    refine r_iconst (v := (0 : Int32)) K dL_law_1775 (by decide) ?_
    exact absurd hf (by decide)
def fL_c40 (L : Nat) (xs : Nat → Int32) (x3 : Int32) (a1 a2 : Nat) (k : AH → Option Int32) (h : AH) : Option Int32 :=
  ob1 (sc L xs (x3 + (1 : Int32))) fun v699 =>
  ob1 (sc L xs (x3 + (2 : Int32))) fun v701 =>
  gd (ckO h a1 9) <|
  ob1 (fX9_get a1 v699 v701 h) fun r704 =>
  ob1 (sc L xs (x3 + (1 : Int32))) fun v706 =>
  ob1 (sc L xs (x3 + (2 : Int32))) fun v708 =>
  gd (ckO h a2 10) <|
  ob1 (fX10_get a2 v706 v708 h) fun r711 =>
  if r704 = r711 then
    k h
  else
    some (0 : Int32)
set_option maxHeartbeats 4000000 in
set_option maxRecDepth 100000 in
theorem wL_c40 {p : Program} {l : Launch} {e : Env} {s : State} {m : MethodId} {args : Array Value} {below : List Frame} {meth : Method} {c : Code} {Q : State → Prop} {G : GG} {b0 : Nat} {h0 : AH} {b L : Nat} {xs : Nat → Int32} {x3 : Int32} {a1 a2 : Nat} {cb sb : Nat} (hcb : cb + 15 ≤ 600000) (hsb : sb + 105 ≤ 7302249) (K : CX p s m args meth c cL_law 4 RL ret G b0) (hX : va_X b L xs s s.heap) (hbl : b < s.heap.size) (hbA : ¬ AB b0 b) (k : AH → Option Int32) (hk : ∀ (h : AH), k h = some 1 → WA p l e room_1 s m args below meth c Q G b0 4 h0 (cb + 15) (sb + 105) h 1837 [(0, .ref b), (1, .ref a1), (2, .ref a2), (3, .int x3)] []) : ∀ (h : AH), fL_c40 L xs x3 a1 a2 k h = some 1 → WA p l e room_1 s m args below meth c Q G b0 4 h0 cb sb h 1777 [(0, .ref b), (1, .ref a1), (2, .ref a2), (3, .int x3)] [] := by
  intro h hf
  unfold fL_c40 at hf
  refine r_aload_n K 1 dL_law_1777 rfl ?_
  refine r_aload_n K 0 dL_law_1778 rfl ?_
  refine r_iload_n K 3 dL_law_1779 rfl ?_
  refine r_iconst (v := (1 : Int32)) K dL_law_1780 (by decide) ?_
  refine r_iadd K dL_law_1781 ?_
  obtain ⟨v699, e700, hf⟩ := ob1_s hf
  refine r_sld K hX hbl hbA dL_law_1782 e700 ?_
  refine r_aload_n K 0 dL_law_1783 rfl ?_
  refine r_iload_n K 3 dL_law_1784 rfl ?_
  refine r_iconst (v := (2 : Int32)) K dL_law_1785 (by decide) ?_
  refine r_iadd K dL_law_1786 ?_
  obtain ⟨v701, e702, hf⟩ := ob1_s hf
  refine r_sld K hX hbl hbA dL_law_1787 e702 ?_
  obtain ⟨z703, hf⟩ := gd_s hf
  obtain ⟨r704, e705, hf⟩ := ob1_s hf
  refine r_callV (As := [.int v699, .int v701]) (rest := []) (st1 := [.long r704]) (cells1 := cb) (slots1 := sb) (b := a1) (ci := 9) K (fun z => mX9_get l z e705) dL_law_1788 rfl (fun _ => isO_of z703) rfl ceX9_get q_887 q_888 q_889 q_75 q_890 ⟨Nat.le_of_ble_eq_true rfl, Nat.le_of_ble_eq_true rfl⟩ (Nat.le_of_ble_eq_true rfl) ⟨by show cb ≤ 600000; omega, by show sb ≤ 7302249; omega⟩ ?_ rfl rfl rfl rfl
  refine r_aload_n K 2 dL_law_1791 rfl ?_
  refine r_aload_n K 0 dL_law_1792 rfl ?_
  refine r_iload_n K 3 dL_law_1793 rfl ?_
  refine r_iconst (v := (1 : Int32)) K dL_law_1794 (by decide) ?_
  refine r_iadd K dL_law_1795 ?_
  obtain ⟨v706, e707, hf⟩ := ob1_s hf
  refine r_sld K hX hbl hbA dL_law_1796 e707 ?_
  refine r_aload_n K 0 dL_law_1797 rfl ?_
  refine r_iload_n K 3 dL_law_1798 rfl ?_
  refine r_iconst (v := (2 : Int32)) K dL_law_1799 (by decide) ?_
  refine r_iadd K dL_law_1800 ?_
  obtain ⟨v708, e709, hf⟩ := ob1_s hf
  refine r_sld K hX hbl hbA dL_law_1801 e709 ?_
  obtain ⟨z710, hf⟩ := gd_s hf
  obtain ⟨r711, e712, hf⟩ := ob1_s hf
  refine r_callV (As := [.int v706, .int v708]) (rest := [.long r704]) (st1 := [.long r711, .long r704]) (cells1 := cb) (slots1 := sb) (b := a2) (ci := 10) K (fun z => mX10_get l z e712) dL_law_1802 rfl (fun _ => isO_of z710) rfl ceX10_get q_1354 q_1355 q_1356 q_85 q_1357 ⟨Nat.le_of_ble_eq_true rfl, Nat.le_of_ble_eq_true rfl⟩ (Nat.le_of_ble_eq_true rfl) ⟨by show cb ≤ 600000; omega, by show sb ≤ 7302249; omega⟩ ?_ rfl rfl rfl rfl
  refine r_lif_eq (tgt := 1837) K dL_law_1805 dL_law_1806 (by decide) (fun c713 => ?_) (fun c713 => ?_)
  · replace hf := ite_t hf c713
    refine r_wide (k1 := cb + 15) (n1 := sb + 105) (by omega) (by omega) ?_
    exact hk h hf
  · replace hf := ite_f hf c713
    refine r_iconst (v := (0 : Int32)) K dL_law_1809 (by decide) ?_
    exact absurd hf (by decide)
def fL_c41 (L : Nat) (xs : Nat → Int32) (x3 : Int32) (a1 a2 : Nat) (k : AH → Option Int32) (h : AH) : Option Int32 :=
  gd (ckO h a1 9) <|
  ob2 (fX9_image a1 h) fun r715 g716 =>
  gd (ckO g716 a2 10) <|
  ob2 (fX10_image a2 g716) fun r719 g720 =>
  if r715 = r719 then
    k g720
  else
    some (0 : Int32)
set_option maxHeartbeats 4000000 in
set_option maxRecDepth 100000 in
theorem wL_c41 {p : Program} {l : Launch} {e : Env} {s : State} {m : MethodId} {args : Array Value} {below : List Frame} {meth : Method} {c : Code} {Q : State → Prop} {G : GG} {b0 : Nat} {h0 : AH} {b L : Nat} {xs : Nat → Int32} {x3 : Int32} {a1 a2 : Nat} {cb sb : Nat} (hcb : cb + 15 ≤ 600000) (hsb : sb + 105 ≤ 7302249) (K : CX p s m args meth c cL_law 4 RL ret G b0) (hX : va_X b L xs s s.heap) (hbl : b < s.heap.size) (hbA : ¬ AB b0 b) (k : AH → Option Int32) (hk : ∀ (h : AH), k h = some 1 → WA p l e room_1 s m args below meth c Q G b0 4 h0 (cb + 15) (sb + 105) h 1837 [(0, .ref b), (1, .ref a1), (2, .ref a2), (3, .int x3)] []) : ∀ (h : AH), fL_c41 L xs x3 a1 a2 k h = some 1 → WA p l e room_1 s m args below meth c Q G b0 4 h0 cb sb h 1811 [(0, .ref b), (1, .ref a1), (2, .ref a2), (3, .int x3)] [] := by
  intro h hf
  unfold fL_c41 at hf
  refine r_aload_n K 1 dL_law_1811 rfl ?_
  obtain ⟨z714, hf⟩ := gd_s hf
  obtain ⟨r715, g716, e717, hf⟩ := ob2_s hf
  refine r_callV (As := []) (rest := []) (st1 := [.int r715]) (cells1 := cb) (slots1 := sb) (b := a1) (ci := 9) K (fun z => mX9_image l z e717) dL_law_1812 rfl (fun _ => isO_of z714) rfl ceX9_image q_891 q_892 q_893 q_75 q_894 ⟨Nat.le_of_ble_eq_true rfl, Nat.le_of_ble_eq_true rfl⟩ (Nat.le_of_ble_eq_true rfl) ⟨by show cb ≤ 600000; omega, by show sb ≤ 7302249; omega⟩ ?_ rfl rfl rfl rfl
  refine r_aload_n K 2 dL_law_1815 rfl ?_
  obtain ⟨z718, hf⟩ := gd_s hf
  obtain ⟨r719, g720, e721, hf⟩ := ob2_s hf
  refine r_callV (As := []) (rest := [.int r715]) (st1 := [.int r719, .int r715]) (cells1 := cb) (slots1 := sb) (b := a2) (ci := 10) K (fun z => mX10_image l z e721) dL_law_1816 rfl (fun _ => isO_of z718) rfl ceX10_image q_1399 q_1400 q_1401 q_85 q_1402 ⟨Nat.le_of_ble_eq_true rfl, Nat.le_of_ble_eq_true rfl⟩ (Nat.le_of_ble_eq_true rfl) ⟨by show cb ≤ 600000; omega, by show sb ≤ 7302249; omega⟩ ?_ rfl rfl rfl rfl
  refine r_icmp_eq (tgt := 1837) K dL_law_1819 (by decide) (fun c722 => ?_) (fun c722 => ?_)
  · replace hf := ite_t hf c722
    refine r_wide (k1 := cb + 15) (n1 := sb + 105) (by omega) (by omega) ?_
    exact hk g720 hf
  · replace hf := ite_f hf c722
    refine r_iconst (v := (0 : Int32)) K dL_law_1822 (by decide) ?_
    exact absurd hf (by decide)
