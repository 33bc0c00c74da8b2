theorem ceX10_ways : CE yX10_ways 1 := ⟨by decide, by decide, by decide +kernel⟩
abbrev rmX10_ways : Room := { frames := 3, cells := 0, slots := 0, locals := 80 }
def fX10_ways (a0 : Nat) (x1 : Int32) (h : AH) : Option (Int32 × AH) :=
  ob1 (fX10_isClass x1) fun r1 =>
  if r1 = (0 : Int32) then
    some ((-1 : Int32), h)
  else
    ob1 (fX10_layWays a0 x1 h) fun g3 =>
    ob1 (gR g3 a0 10 10) fun b5 =>
    ob1 (aI g3 b5 0 x1) fun v7 =>
    some (v7, g3)
set_option maxHeartbeats 4000000 in
set_option maxRecDepth 100000 in
theorem mX10_ways (l : Launch) {G : GG} {b0 : Nat} {h : AH} {a0 : Nat} {x1 : Int32} {rr : Int32} {hh : AH} (ht : isO h a0 10) (hf : fX10_ways a0 x1 h = some (rr, hh)) : MM l yX10_ways cX10_ways 2 (some .int) rmX10_ways G b0 h [.ref a0, .int x1] (some (.int rr)) hh := by
  refine MM.of (own := RX10) (lv0 := [(0, .ref a0), (1, .int x1)]) (by decide) rfl (Nat.le_of_ble_eq_true rfl) rfl ?_
  intro p e s m args below meth c K hnm
  unfold fX10_ways at hf
  refine r_iload_n K 1 dX10_ways_0 rfl ?_
  obtain ⟨r1, e2, hf⟩ := ob1_s hf
  refine r_callS (As := [.int x1]) (rest := []) (st1 := [.int r1]) (cells1 := 0) (slots1 := 0) K (mX10_isClass l e2) dX10_ways_1 ceX10_isClass q_1077 q_1078 q_85 q_1079 ⟨Nat.le_of_ble_eq_true rfl, Nat.le_of_ble_eq_true rfl⟩ (Nat.le_of_ble_eq_true rfl) ⟨Nat.le_of_ble_eq_true rfl, Nat.le_of_ble_eq_true rfl⟩ ?_ rfl rfl rfl rfl
  refine r_if_ne (tgt := 9) K dX10_ways_4 (by decide) (fun c9 => ?_) (fun c9 => ?_)
  · replace hf := ite_f hf c9
    refine r_aload_n K 0 dX10_ways_9 rfl ?_
    refine r_iload_n K 1 dX10_ways_10 rfl ?_
    obtain ⟨g3, e4, hf⟩ := ob1_s hf
    refine r_callV (As := [.int x1]) (rest := []) (st1 := []) (cells1 := 0) (slots1 := 0) (b := a0) (ci := 10) K (fun z => mX10_layWays l z e4) dX10_ways_11 rfl (fun z => z _ _ ht) rfl ceX10_layWays q_1134 q_1136 q_45 q_85 q_1137 ⟨Nat.le_of_ble_eq_true rfl, Nat.le_of_ble_eq_true rfl⟩ (Nat.le_of_ble_eq_true rfl) ⟨Nat.le_of_ble_eq_true rfl, Nat.le_of_ble_eq_true rfl⟩ ?_ rfl rfl rfl rfl
    refine r_aload_n K 0 dX10_ways_14 rfl ?_
    obtain ⟨b5, e6, hf⟩ := ob1_s hf
    refine r_getR (ci := 10) (k := 10) K dX10_ways_15 inX10 rfl (by decide) rfl q_916 e6 ?_
    refine r_iload_n K 1 dX10_ways_18 rfl ?_
    obtain ⟨v7, e8, hf⟩ := ob1_s hf
    refine r_iaload K dX10_ways_19 e8 ?_
    exact r_iret K dX10_ways_20 hf (Nat.le_of_ble_eq_true rfl) (Nat.le_of_ble_eq_true rfl)
  · replace hf := ite_t hf c9
    refine r_iconst (v := (-1 : Int32)) K dX10_ways_7 (by decide) ?_
    exact r_iret K dX10_ways_8 hf (Nat.le_of_ble_eq_true rfl) (Nat.le_of_ble_eq_true rfl)
theorem ceX10_isWay : CE yX10_isWay 2 := ⟨by decide, by decide, by decide +kernel⟩
abbrev rmX10_isWay : Room := { frames := 3, cells := 0, slots := 0, locals := 80 }
def fX10_isWay (a0 : Nat) (x1 : Int32) (x2 : Int32) (h : AH) : Option (Int32 × AH) :=
  ob1 (fX10_isClass x1) fun r1 =>
  if r1 = (0 : Int32) then
    some ((0 : Int32), h)
  else
    ob1 (fX10_layWays a0 x1 h) fun g3 =>
    ob1 (gR g3 a0 10 10) fun b5 =>
    ob1 (aI g3 b5 0 x1) fun v7 =>
    ob1 (fX10_in (Int32.toInt64 x2) (0 : Int64) (Int32.toInt64 (v7 - (1 : Int32)))) fun r9 =>
    gd (zb r9) <|
    some (r9, g3)
set_option maxHeartbeats 4000000 in
set_option maxRecDepth 100000 in
theorem mX10_isWay (l : Launch) {G : GG} {b0 : Nat} {h : AH} {a0 : Nat} {x1 : Int32} {x2 : Int32} {rr : Int32} {hh : AH} (ht : isO h a0 10) (hf : fX10_isWay a0 x1 x2 h = some (rr, hh)) : MM l yX10_isWay cX10_isWay 3 (some .boolean) rmX10_isWay G b0 h [.ref a0, .int x1, .int x2] (some (.int rr)) hh := by
  refine MM.of (own := RX10) (lv0 := [(0, .ref a0), (1, .int x1), (2, .int x2)]) (by decide) rfl (Nat.le_of_ble_eq_true rfl) rfl ?_
  intro p e s m args below meth c K hnm
  unfold fX10_isWay at hf
  refine r_iload_n K 1 dX10_isWay_0 rfl ?_
  obtain ⟨r1, e2, hf⟩ := ob1_s hf
  refine r_callS (As := [.int x1]) (rest := []) (st1 := [.int r1]) (cells1 := 0) (slots1 := 0) K (mX10_isClass l e2) dX10_isWay_1 ceX10_isClass q_1077 q_1078 q_85 q_1079 ⟨Nat.le_of_ble_eq_true rfl, Nat.le_of_ble_eq_true rfl⟩ (Nat.le_of_ble_eq_true rfl) ⟨Nat.le_of_ble_eq_true rfl, Nat.le_of_ble_eq_true rfl⟩ ?_ rfl rfl rfl rfl
  refine r_if_ne (tgt := 9) K dX10_isWay_4 (by decide) (fun c12 => ?_) (fun c12 => ?_)
  · replace hf := ite_f hf c12
    refine r_aload_n K 0 dX10_isWay_9 rfl ?_
    refine r_iload_n K 1 dX10_isWay_10 rfl ?_
    obtain ⟨g3, e4, hf⟩ := ob1_s hf
    refine r_callV (As := [.int x1]) (rest := []) (st1 := []) (cells1 := 0) (slots1 := 0) (b := a0) (ci := 10) K (fun z => mX10_layWays l z e4) dX10_isWay_11 rfl (fun z => z _ _ ht) rfl ceX10_layWays q_1134 q_1136 q_45 q_85 q_1137 ⟨Nat.le_of_ble_eq_true rfl, Nat.le_of_ble_eq_true rfl⟩ (Nat.le_of_ble_eq_true rfl) ⟨Nat.le_of_ble_eq_true rfl, Nat.le_of_ble_eq_true rfl⟩ ?_ rfl rfl rfl rfl
    refine r_iload_n K 2 dX10_isWay_14 rfl ?_
    refine r_i2l K dX10_isWay_15 ?_
    refine r_lconst (v := (0 : Int64)) K dX10_isWay_16 (by decide) ?_
    refine r_aload_n K 0 dX10_isWay_17 rfl ?_
    obtain ⟨b5, e6, hf⟩ := ob1_s hf
    refine r_getR (ci := 10) (k := 10) K dX10_isWay_18 inX10 rfl (by decide) rfl q_916 e6 ?_
    refine r_iload_n K 1 dX10_isWay_21 rfl ?_
    obtain ⟨v7, e8, hf⟩ := ob1_s hf
    refine r_iaload K dX10_isWay_22 e8 ?_
    refine r_iconst (v := (1 : Int32)) K dX10_isWay_23 (by decide) ?_
    refine r_isub K dX10_isWay_24 ?_
    refine r_i2l K dX10_isWay_25 ?_
    obtain ⟨r9, e10, hf⟩ := ob1_s hf
    refine r_callS (As := [.long (Int32.toInt64 x2), .long (0 : Int64), .long (Int32.toInt64 (v7 - (1 : Int32)))]) (rest := []) (st1 := [.int r9]) (cells1 := 0) (slots1 := 0) K (mX10_in l e10) dX10_isWay_26 ceX10_in q_1005 q_1006 q_85 q_1007 ⟨Nat.le_of_ble_eq_true rfl, Nat.le_of_ble_eq_true rfl⟩ (Nat.le_of_ble_eq_true rfl) ⟨Nat.le_of_ble_eq_true rfl, Nat.le_of_ble_eq_true rfl⟩ ?_ rfl rfl rfl rfl
    obtain ⟨z11, hf⟩ := gd_s hf
    exact r_zret K dX10_isWay_29 (zb_n z11) hf (Nat.le_of_ble_eq_true rfl) (Nat.le_of_ble_eq_true rfl)
  · replace hf := ite_t hf c12
    refine r_iconst (v := (0 : Int32)) K dX10_isWay_7 (by decide) ?_
    exact r_zret K dX10_isWay_8 rfl hf (Nat.le_of_ble_eq_true rfl) (Nat.le_of_ble_eq_true rfl)
theorem ceX10_way : CE yX10_way 3 := ⟨by decide, by decide, by decide +kernel⟩
abbrev rmX10_way : Room := { frames := 4, cells := 0, slots := 0, locals := 102 }
def fX10_way (a0 : Nat) (x1 : Int32) (x2 : Int32) (x3 : Int32) (h : AH) : Option (Int32 × AH) :=
  ob2 (fX10_isWay a0 x1 x2 h) fun r1 g2 =>
  if r1 = (0 : Int32) then
    some ((-1 : Int32), g2)
  else
    ob1 (gR g2 a0 10 11) fun b4 =>
    ob1 (aI g2 b4 0 (((256 : Int32) * x1) + x2)) fun v6 =>
    ob1 (fX10_in (Int32.toInt64 x3) (-1 : Int64) (Int32.toInt64 (v6 - (1 : Int32)))) fun r8 =>
    if r8 = (0 : Int32) then
      some ((-1 : Int32), g2)
    else
      if (0 : Int32) ≤ x3 then
        ob1 (gR g2 a0 10 12) fun b10 =>
        ob1 (aI g2 b10 0 (((5 : Int32) * (((256 : Int32) * x1) + x2)) + x3)) fun v12 =>
        some (v12, g2)
      else
        ob1 (gR g2 a0 10 11) fun b14 =>
        ob1 (aI g2 b14 0 (((256 : Int32) * x1) + x2)) fun v16 =>
        some (v16, g2)
set_option maxHeartbeats 4000000 in
set_option maxRecDepth 100000 in
theorem mX10_way (l : Launch) {G : GG} {b0 : Nat} {h : AH} {a0 : Nat} {x1 : Int32} {x2 : Int32} {x3 : Int32} {rr : Int32} {hh : AH} (ht : isO h a0 10) (hf : fX10_way a0 x1 x2 x3 h = some (rr, hh)) : MM l yX10_way cX10_way 4 (some .int) rmX10_way G b0 h [.ref a0, .int x1, .int x2, .int x3] (some (.int rr)) hh := by
  refine MM.of (own := RX10) (lv0 := [(0, .ref a0), (1, .int x1), (2, .int x2), (3, .int x3)]) (by decide) rfl (Nat.le_of_ble_eq_true rfl) rfl ?_
  intro p e s m args below meth c K hnm
  unfold fX10_way at hf
  refine r_aload_n K 0 dX10_way_0 rfl ?_
  refine r_iload_n K 1 dX10_way_1 rfl ?_
  refine r_iload_n K 2 dX10_way_2 rfl ?_
  obtain ⟨r1, g2, e3, hf⟩ := ob2_s hf
  refine r_callV (As := [.int x1, .int x2]) (rest := []) (st1 := [.int r1]) (cells1 := 0) (slots1 := 0) (b := a0) (ci := 10) K (fun z => mX10_isWay l z e3) dX10_way_3 rfl (fun z => z _ _ ht) rfl ceX10_isWay q_1150 q_1152 q_48 q_85 q_1153 ⟨Nat.le_of_ble_eq_true rfl, Nat.le_of_ble_eq_true rfl⟩ (Nat.le_of_ble_eq_true rfl) ⟨Nat.le_of_ble_eq_true rfl, Nat.le_of_ble_eq_true rfl⟩ ?_ rfl rfl rfl rfl
  refine r_if_eq (tgt := 35) K dX10_way_6 (by decide) (fun c20 => ?_) (fun c20 => ?_)
  · replace hf := ite_t hf c20
    refine r_iconst (v := (-1 : Int32)) K dX10_way_35 (by decide) ?_
    exact r_iret K dX10_way_36 hf (Nat.le_of_ble_eq_true rfl) (Nat.le_of_ble_eq_true rfl)
  · replace hf := ite_f hf c20
    refine r_iload_n K 3 dX10_way_9 rfl ?_
    refine r_i2l K dX10_way_10 ?_
    refine r_ldc2 K dX10_way_11 q_1048 ?_
    refine r_aload_n K 0 dX10_way_14 rfl ?_
    obtain ⟨b4, e5, hf⟩ := ob1_s hf
    refine r_getR (ci := 10) (k := 11) K dX10_way_15 inX10 rfl (by decide) rfl q_917 e5 ?_
    refine r_sipush (v := (256 : Int32)) K dX10_way_18 (by decide) ?_
    refine r_iload_n K 1 dX10_way_21 rfl ?_
    refine r_imul K dX10_way_22 ?_
    refine r_iload_n K 2 dX10_way_23 rfl ?_
    refine r_iadd K dX10_way_24 ?_
    obtain ⟨v6, e7, hf⟩ := ob1_s hf
    refine r_iaload K dX10_way_25 e7 ?_
    refine r_iconst (v := (1 : Int32)) K dX10_way_26 (by decide) ?_
    refine r_isub K dX10_way_27 ?_
    refine r_i2l K dX10_way_28 ?_
    obtain ⟨r8, e9, hf⟩ := ob1_s hf
    refine r_callS (As := [.long (Int32.toInt64 x3), .long (-1 : Int64), .long (Int32.toInt64 (v6 - (1 : Int32)))]) (rest := []) (st1 := [.int r8]) (cells1 := 0) (slots1 := 0) K (mX10_in l e9) dX10_way_29 ceX10_in q_1005 q_1006 q_85 q_1007 ⟨Nat.le_of_ble_eq_true rfl, Nat.le_of_ble_eq_true rfl⟩ (Nat.le_of_ble_eq_true rfl) ⟨Nat.le_of_ble_eq_true rfl, Nat.le_of_ble_eq_true rfl⟩ ?_ rfl rfl rfl rfl
    refine r_if_ne (tgt := 37) K dX10_way_32 (by decide) (fun c19 => ?_) (fun c19 => ?_)
    · replace hf := ite_f hf c19
      refine r_iload_n K 3 dX10_way_37 rfl ?_
      refine r_if_ge (tgt := 56) K dX10_way_38 (by decide) (fun c18 => ?_) (fun c18 => ?_)
      · replace hf := ite_t hf c18
        refine r_aload_n K 0 dX10_way_56 rfl ?_
        obtain ⟨b10, e11, hf⟩ := ob1_s hf
        refine r_getR (ci := 10) (k := 12) K dX10_way_57 inX10 rfl (by decide) rfl q_918 e11 ?_
        refine r_iconst (v := (5 : Int32)) K dX10_way_60 (by decide) ?_
        refine r_sipush (v := (256 : Int32)) K dX10_way_61 (by decide) ?_
        refine r_iload_n K 1 dX10_way_64 rfl ?_
        refine r_imul K dX10_way_65 ?_
        refine r_iload_n K 2 dX10_way_66 rfl ?_
        refine r_iadd K dX10_way_67 ?_
        refine r_imul K dX10_way_68 ?_
        refine r_iload_n K 3 dX10_way_69 rfl ?_
        refine r_iadd K dX10_way_70 ?_
        obtain ⟨v12, e13, hf⟩ := ob1_s hf
        refine r_iaload K dX10_way_71 e13 ?_
        exact r_iret K dX10_way_72 hf (Nat.le_of_ble_eq_true rfl) (Nat.le_of_ble_eq_true rfl)
      · replace hf := ite_f hf c18
        refine r_aload_n K 0 dX10_way_41 rfl ?_
        obtain ⟨b14, e15, hf⟩ := ob1_s hf
        refine r_getR (ci := 10) (k := 11) K dX10_way_42 inX10 rfl (by decide) rfl q_917 e15 ?_
        refine r_sipush (v := (256 : Int32)) K dX10_way_45 (by decide) ?_
        refine r_iload_n K 1 dX10_way_48 rfl ?_
        refine r_imul K dX10_way_49 ?_
        refine r_iload_n K 2 dX10_way_50 rfl ?_
        refine r_iadd K dX10_way_51 ?_
        obtain ⟨v16, e17, hf⟩ := ob1_s hf
        refine r_iaload K dX10_way_52 e17 ?_
        refine r_goto (tgt := 72) K dX10_way_53 (by decide) ?_
        exact r_iret K dX10_way_72 hf (Nat.le_of_ble_eq_true rfl) (Nat.le_of_ble_eq_true rfl)
    · replace hf := ite_t hf c19
      refine r_iconst (v := (-1 : Int32)) K dX10_way_35 (by decide) ?_
      exact r_iret K dX10_way_36 hf (Nat.le_of_ble_eq_true rfl) (Nat.le_of_ble_eq_true rfl)
theorem ceX10_priceBy : CE yX10_priceBy 4 := ⟨by decide, by decide, by decide +kernel⟩
abbrev rmX10_priceBy : Room := { frames := 3, cells := 0, slots := 0, locals := 72 }
def fX10_priceBy (a0 : Nat) (x1 : Int32) (x2 : Int32) (x3 : Int32) (x4 : Int32) (h : AH) : Option Int64 :=
  ob1 (fX10_ofClass a0 x2 (2 : Int32) h) fun r1 =>
  ob1 (fX10_costBy a0 x3 x4 h) fun r3 =>
  bnd (r1 * r3) fun y5 =>
  bnd (fun (v7 : Int64) =>
    bnd (y5 + v7) fun y8 =>
    if x1 = (2 : Int32) then
      ob1 (fX10_lossBy a0 x3 x4 h) fun r9 =>
      some (y8 + (r1 * r9))
    else
      some (y8 + (0 : Int64))
  ) fun j6 =>
  if x1 = (1 : Int32) then
    ob1 (fX10_ofClass a0 x2 (3 : Int32) h) fun r12 =>
    ob1 (fX10_ofRoad a0 x3 (7 : Int32) h) fun r14 =>
    j6 (r12 * r14)
  else
    j6 (0 : Int64)
set_option maxHeartbeats 4000000 in
set_option maxRecDepth 100000 in
theorem mX10_priceBy (l : Launch) {G : GG} {b0 : Nat} {h : AH} {a0 : Nat} {x1 : Int32} {x2 : Int32} {x3 : Int32} {x4 : Int32} {rr : Int64} (ht : isO h a0 10) (hf : fX10_priceBy a0 x1 x2 x3 x4 h = some rr) : MM l yX10_priceBy cX10_priceBy 9 (some .long) rmX10_priceBy G b0 h [.ref a0, .int x1, .int x2, .int x3, .int x4] (some (.long rr)) h := by
  refine MM.of (own := RX10) (lv0 := [(0, .ref a0), (1, .int x1), (2, .int x2), (3, .int x3), (4, .int x4)]) (by decide) rfl (Nat.le_of_ble_eq_true rfl) rfl ?_
  intro p e s m args below meth c K hnm
  unfold fX10_priceBy at hf
  refine r_aload_n K 0 dX10_priceBy_0 rfl ?_
  refine r_iload_n K 2 dX10_priceBy_1 rfl ?_
  refine r_iconst (v := (2 : Int32)) K dX10_priceBy_2 (by decide) ?_
  obtain ⟨r1, e2, hf⟩ := ob1_s hf
  refine r_callV (As := [.int x2, .int (2 : Int32)]) (rest := []) (st1 := [.long r1]) (cells1 := 0) (slots1 := 0) (b := a0) (ci := 10) K (fun z => mX10_ofClass l z e2) dX10_priceBy_3 rfl (fun z => z _ _ ht) rfl ceX10_ofClass q_1086 q_1088 q_39 q_85 q_1089 ⟨Nat.le_of_ble_eq_true rfl, Nat.le_of_ble_eq_true rfl⟩ (Nat.le_of_ble_eq_true rfl) ⟨Nat.le_of_ble_eq_true rfl, Nat.le_of_ble_eq_true rfl⟩ ?_ rfl rfl rfl rfl
  refine r_lstore (lv1 := [(5, .long r1), (0, .ref a0), (1, .int x1), (2, .int x2), (3, .int x3), (4, .int x4)]) K dX10_priceBy_6 (by decide) rfl ?_
  refine r_lload K 0 dX10_priceBy_8 rfl ?_
  refine r_aload_n K 1 dX10_priceBy_10 rfl ?_
  refine r_iload_n K 4 dX10_priceBy_11 rfl ?_
  refine r_iload K 5 dX10_priceBy_12 rfl ?_
  obtain ⟨r3, e4, hf⟩ := ob1_s hf
  refine r_callV (As := [.int x3, .int x4]) (rest := [.long r1]) (st1 := [.long r3, .long r1]) (cells1 := 0) (slots1 := 0) (b := a0) (ci := 10) K (fun z => mX10_costBy l z e4) dX10_priceBy_14 rfl (fun z => z _ _ ht) rfl ceX10_costBy q_1065 q_1067 q_37 q_85 q_1068 ⟨Nat.le_of_ble_eq_true rfl, Nat.le_of_ble_eq_true rfl⟩ (Nat.le_of_ble_eq_true rfl) ⟨Nat.le_of_ble_eq_true rfl, Nat.le_of_ble_eq_true rfl⟩ ?_ rfl rfl rfl rfl
  refine r_lmul K dX10_priceBy_17 ?_
  obtain ⟨y5, ey5, hf⟩ := bnd_g hf
  refine r_nml ey5 ?_
  refine r_lstore (lv1 := [(7, .long y5), (5, .long r1), (0, .ref a0), (1, .int x1), (2, .int x2), (3, .int x3), (4, .int x4)]) K dX10_priceBy_18 (by decide) rfl ?_
  refine r_lload K 0 dX10_priceBy_20 rfl ?_
  refine r_iload_n K 3 dX10_priceBy_22 rfl ?_
  refine r_iconst (v := (1 : Int32)) K dX10_priceBy_23 (by decide) ?_
  obtain ⟨j6, ej6, hf⟩ := bnd_g hf
  have Jj6 : ∀ (v7 : Int64), j6 v7 = some rr → WA p l e rmX10_priceBy s m args below meth c (MQ below (QG G b0 h (some (.long rr)) h) args s (rmX10_priceBy).cells (rmX10_priceBy).slots (AB b0)) G b0 9 h 0 0 h 45 [(0, .ref a0), (1, .int x1), (3, .int x3), (4, .int x4), (5, .long r1)] [.long v7, .long y5] := by
    intro v7 hf
    rw [ej6] at hf
    refine r_ladd K dX10_priceBy_45 ?_
    obtain ⟨y8, ey8, hf⟩ := bnd_g hf
    refine r_nml ey8 ?_
    refine r_lstore (lv1 := [(7, .long y8), (0, .ref a0), (1, .int x1), (3, .int x3), (4, .int x4), (5, .long r1)]) K dX10_priceBy_46 (by decide) rfl ?_
    refine r_lload K 0 dX10_priceBy_48 rfl ?_
    refine r_iload_n K 2 dX10_priceBy_50 rfl ?_
    refine r_iconst (v := (2 : Int32)) K dX10_priceBy_51 (by decide) ?_
    refine r_icmp_ne (tgt := 68) K dX10_priceBy_52 (by decide) (fun c11 => ?_) (fun c11 => ?_)
    · replace hf := ite_f hf c11
      refine r_lconst (v := (0 : Int64)) K dX10_priceBy_68 (by decide) ?_
      refine r_ladd K dX10_priceBy_69 ?_
      exact r_lret K dX10_priceBy_70 (retp hf) (Nat.le_of_ble_eq_true rfl) (Nat.le_of_ble_eq_true rfl)
    · replace hf := ite_t hf c11
      refine r_lload K 5 dX10_priceBy_55 rfl ?_
      refine r_aload_n K 1 dX10_priceBy_57 rfl ?_
      refine r_iload_n K 3 dX10_priceBy_58 rfl ?_
      refine r_iload K 4 dX10_priceBy_59 rfl ?_
      obtain ⟨r9, e10, hf⟩ := ob1_s hf
      refine r_callV (As := [.int x3, .int x4]) (rest := [.long r1, .long y8]) (st1 := [.long r9, .long r1, .long y8]) (cells1 := 0) (slots1 := 0) (b := a0) (ci := 10) K (fun z => mX10_lossBy l z e10) dX10_priceBy_61 rfl (fun z => z _ _ ht) rfl ceX10_lossBy q_1069 q_1071 q_38 q_85 q_1072 ⟨Nat.le_of_ble_eq_true rfl, Nat.le_of_ble_eq_true rfl⟩ (Nat.le_of_ble_eq_true rfl) ⟨Nat.le_of_ble_eq_true rfl, Nat.le_of_ble_eq_true rfl⟩ ?_ rfl rfl rfl rfl
      refine r_lmul K dX10_priceBy_64 ?_
      refine r_goto (tgt := 69) K dX10_priceBy_65 (by decide) ?_
      refine r_ladd K dX10_priceBy_69 ?_
      exact r_lret K dX10_priceBy_70 (retp hf) (Nat.le_of_ble_eq_true rfl) (Nat.le_of_ble_eq_true rfl)
  refine r_icmp_ne (tgt := 44) K dX10_priceBy_24 (by decide) (fun c16 => ?_) (fun c16 => ?_)
  · replace hf := ite_f hf c16
    refine r_lconst (v := (0 : Int64)) K dX10_priceBy_44 (by decide) ?_
    refine r_lv [2, 3, 5, 6, 1] rfl ?_
    exact Jj6 (0 : Int64) hf
  · replace hf := ite_t hf c16
    refine r_aload_n K 2 dX10_priceBy_27 rfl ?_
    refine r_iload_n K 4 dX10_priceBy_28 rfl ?_
    refine r_iconst (v := (3 : Int32)) K dX10_priceBy_29 (by decide) ?_
    obtain ⟨r12, e13, hf⟩ := ob1_s hf
    refine r_callV (As := [.int x2, .int (3 : Int32)]) (rest := [.long y5]) (st1 := [.long r12, .long y5]) (cells1 := 0) (slots1 := 0) (b := a0) (ci := 10) K (fun z => mX10_ofClass l z e13) dX10_priceBy_30 rfl (fun z => z _ _ ht) rfl ceX10_ofClass q_1086 q_1088 q_39 q_85 q_1089 ⟨Nat.le_of_ble_eq_true rfl, Nat.le_of_ble_eq_true rfl⟩ (Nat.le_of_ble_eq_true rfl) ⟨Nat.le_of_ble_eq_true rfl, Nat.le_of_ble_eq_true rfl⟩ ?_ rfl rfl rfl rfl
    refine r_aload_n K 2 dX10_priceBy_33 rfl ?_
    refine r_iload_n K 5 dX10_priceBy_34 rfl ?_
    refine r_bipush (v := (7 : Int32)) K dX10_priceBy_35 (by decide) ?_
    obtain ⟨r14, e15, hf⟩ := ob1_s hf
    refine r_callV (As := [.int x3, .int (7 : Int32)]) (rest := [.long r12, .long y5]) (st1 := [.long r14, .long r12, .long y5]) (cells1 := 0) (slots1 := 0) (b := a0) (ci := 10) K (fun z => mX10_ofRoad l z e15) dX10_priceBy_37 rfl (fun z => z _ _ ht) rfl ceX10_ofRoad q_1051 q_1053 q_36 q_85 q_1054 ⟨Nat.le_of_ble_eq_true rfl, Nat.le_of_ble_eq_true rfl⟩ (Nat.le_of_ble_eq_true rfl) ⟨Nat.le_of_ble_eq_true rfl, Nat.le_of_ble_eq_true rfl⟩ ?_ rfl rfl rfl rfl
    refine r_lmul K dX10_priceBy_40 ?_
    refine r_goto (tgt := 45) K dX10_priceBy_41 (by decide) ?_
    refine r_lv [2, 3, 5, 6, 1] rfl ?_
    exact Jj6 (r12 * r14) hf
theorem ceX10_priceMore : CE yX10_priceMore 3 := ⟨by decide, by decide, by decide +kernel⟩
abbrev rmX10_priceMore : Room := { frames := 4, cells := 0, slots := 0, locals := 100 }
def fX10_priceMore_L15 (a0 : Nat) (x1 : Int32) (x2 : Int32) (x6 : Int32) (h : AH) (k : Int64 → Option Int64) : Nat → Int64 → Int32 → Option Int64
  | 0, _, _ => none
  | n + 1, x4, x7 =>
    ob1 (gR h a0 10 11) fun b2 =>
    ob1 (aI h b2 0 x6) fun v4 =>
    if v4 ≤ x7 then
      k x4
    else
      ob1 (gR h a0 10 12) fun b6 =>
      ob1 (aI h b6 0 (((5 : Int32) * x6) + x7)) fun v8 =>
      ob1 (gR h a0 10 16) fun b10 =>
      ob1 (aI h b10 0 v8) fun v12 =>
      ob1 (fX10_priceBy a0 x1 x2 v8 (v12 + (1 : Int32)) h) fun r14 =>
      bnd (x4 + r14) fun y16 =>
      bnd (x7 + (1 : Int32)) fun y17 =>
      fX10_priceMore_L15 a0 x1 x2 x6 h k n y16 y17
def fX10_priceMore (a0 : Nat) (x1 : Int32) (x2 : Int32) (x3 : Int32) (h : AH) : Option Int64 :=
  bnd (((256 : Int32) * x2) + x3) fun y1 =>
  fX10_priceMore_L15 a0 x1 x2 y1 h (fun (y19 : Int64) =>
    some y19
  ) lf (0 : Int64) (0 : Int32)
set_option maxHeartbeats 4000000 in
set_option maxRecDepth 100000 in
theorem wX10_priceMore_L15 {p : Program} {l : Launch} {e : Env} {s : State} {m : MethodId} {args : Array Value} {below : List Frame} {meth : Method} {c : Code} {G : GG} {b0 : Nat} {h0 : AH} {a0 : Nat} {x1 : Int32} {x2 : Int32} {x6 : Int32} {h : AH} {rr : Int64} (K : CX p s m args meth c cX10_priceMore 9 RX10 (some .long) G b0) (ht : isO h0 a0 10) (k : Int64 → Option Int64) (hk : ∀ (x4 : Int64), k x4 = some rr → WA p l e rmX10_priceMore s m args below meth c (MQ below (QG G b0 h0 (some (.long rr)) h) args s (rmX10_priceMore).cells (rmX10_priceMore).slots (AB b0)) G b0 9 h0 0 0 h 69 [(4, .long x4)] []) : ∀ (n : Nat) (x4 : Int64) (x7 : Int32), fX10_priceMore_L15 a0 x1 x2 x6 h k n x4 x7 = some rr → WA p l e rmX10_priceMore s m args below meth c (MQ below (QG G b0 h0 (some (.long rr)) h) args s (rmX10_priceMore).cells (rmX10_priceMore).slots (AB b0)) G b0 9 h0 0 0 h 15 [(0, .ref a0), (1, .int x1), (2, .int x2), (4, .long x4), (6, .int x6), (7, .int x7)] [] := by
  intro n
  induction n with
  | zero =>
    intro x4 x7 hf
    rw [fX10_priceMore_L15] at hf
    cases hf
  | succ n ih =>
    intro x4 x7 hf
    rw [fX10_priceMore_L15] at hf
    refine r_iload K 5 dX10_priceMore_15 rfl ?_
    refine r_aload_n K 0 dX10_priceMore_17 rfl ?_
    obtain ⟨b2, e3, hf⟩ := ob1_s hf
    refine r_getR (ci := 10) (k := 11) K dX10_priceMore_18 inX10 rfl (by decide) rfl q_917 e3 ?_
    refine r_iload K 4 dX10_priceMore_21 rfl ?_
    obtain ⟨v4, e5, hf⟩ := ob1_s hf
    refine r_iaload K dX10_priceMore_23 e5 ?_
    refine r_icmp_ge (tgt := 69) K dX10_priceMore_24 (by decide) (fun c18 => ?_) (fun c18 => ?_)
    · replace hf := ite_t hf c18
      refine r_lv [3] rfl ?_
      exact hk x4 hf
    · replace hf := ite_f hf c18
      refine r_aload_n K 0 dX10_priceMore_27 rfl ?_
      obtain ⟨b6, e7, hf⟩ := ob1_s hf
      refine r_getR (ci := 10) (k := 12) K dX10_priceMore_28 inX10 rfl (by decide) rfl q_918 e7 ?_
      refine r_iconst (v := (5 : Int32)) K dX10_priceMore_31 (by decide) ?_
      refine r_iload K 4 dX10_priceMore_32 rfl ?_
      refine r_imul K dX10_priceMore_34 ?_
      refine r_iload K 5 dX10_priceMore_35 rfl ?_
      refine r_iadd K dX10_priceMore_37 ?_
      obtain ⟨v8, e9, hf⟩ := ob1_s hf
      refine r_iaload K dX10_priceMore_38 e9 ?_
      refine r_istore (lv1 := [(8, .int v8), (0, .ref a0), (1, .int x1), (2, .int x2), (4, .long x4), (6, .int x6), (7, .int x7)]) K dX10_priceMore_39 (by decide) rfl ?_
      refine r_lload K 4 dX10_priceMore_41 rfl ?_
      refine r_aload_n K 1 dX10_priceMore_43 rfl ?_
      refine r_iload_n K 2 dX10_priceMore_44 rfl ?_
      refine r_iload_n K 3 dX10_priceMore_45 rfl ?_
      refine r_iload K 0 dX10_priceMore_46 rfl ?_
      refine r_aload_n K 1 dX10_priceMore_48 rfl ?_
      obtain ⟨b10, e11, hf⟩ := ob1_s hf
      refine r_getR (ci := 10) (k := 16) K dX10_priceMore_49 inX10 rfl (by decide) rfl q_922 e11 ?_
      refine r_iload K 0 dX10_priceMore_52 rfl ?_
      obtain ⟨v12, e13, hf⟩ := ob1_s hf
      refine r_iaload K dX10_priceMore_54 e13 ?_
      refine r_iconst (v := (1 : Int32)) K dX10_priceMore_55 (by decide) ?_
      refine r_iadd K dX10_priceMore_56 ?_
      obtain ⟨r14, e15, hf⟩ := ob1_s hf
      refine r_callV (As := [.int x1, .int x2, .int v8, .int (v12 + (1 : Int32))]) (rest := [.long x4]) (st1 := [.long r14, .long x4]) (cells1 := 0) (slots1 := 0) (b := a0) (ci := 10) K (fun z => mX10_priceBy l z e15) dX10_priceMore_57 rfl (fun z => z _ _ ht) rfl ceX10_priceBy q_1182 q_1184 q_54 q_85 q_1185 ⟨Nat.le_of_ble_eq_true rfl, Nat.le_of_ble_eq_true rfl⟩ (Nat.le_of_ble_eq_true rfl) ⟨Nat.le_of_ble_eq_true rfl, Nat.le_of_ble_eq_true rfl⟩ ?_ rfl rfl rfl rfl
      refine r_ladd K dX10_priceMore_60 ?_
      obtain ⟨y16, ey16, hf⟩ := bnd_g hf
      refine r_nml ey16 ?_
      refine r_lstore (lv1 := [(4, .long y16), (8, .int v8), (0, .ref a0), (1, .int x1), (2, .int x2), (6, .int x6), (7, .int x7)]) K dX10_priceMore_61 (by decide) rfl ?_
      obtain ⟨y17, ey17, hf⟩ := bnd_g hf
      refine r_iinc (lv1 := [(7, .int y17), (4, .long y16), (8, .int v8), (0, .ref a0), (1, .int x1), (2, .int x2), (6, .int x6)]) K 6 dX10_priceMore_63 rfl (by rw [ey17]; rfl) (by decide) rfl ?_
      refine r_goto (tgt := 15) K dX10_priceMore_66 (by decide) ?_
      refine r_lv [3, 4, 5, 1, 6, 0] rfl ?_
      exact ih y16 y17 hf
set_option maxHeartbeats 4000000 in
set_option maxRecDepth 100000 in
theorem mX10_priceMore (l : Launch) {G : GG} {b0 : Nat} {h : AH} {a0 : Nat} {x1 : Int32} {x2 : Int32} {x3 : Int32} {rr : Int64} (ht : isO h a0 10) (hf : fX10_priceMore a0 x1 x2 x3 h = some rr) : MM l yX10_priceMore cX10_priceMore 9 (some .long) rmX10_priceMore G b0 h [.ref a0, .int x1, .int x2, .int x3] (some (.long rr)) h := by
  refine MM.of (own := RX10) (lv0 := [(0, .ref a0), (1, .int x1), (2, .int x2), (3, .int x3)]) (by decide) rfl (Nat.le_of_ble_eq_true rfl) rfl ?_
  intro p e s m args below meth c K hnm
  unfold fX10_priceMore at hf
  refine r_lconst (v := (0 : Int64)) K dX10_priceMore_0 (by decide) ?_
  refine r_lstore (lv1 := [(4, .long (0 : Int64)), (0, .ref a0), (1, .int x1), (2, .int x2), (3, .int x3)]) K dX10_priceMore_1 (by decide) rfl ?_
  refine r_sipush (v := (256 : Int32)) K dX10_priceMore_3 (by decide) ?_
  refine r_iload_n K 3 dX10_priceMore_6 rfl ?_
  refine r_imul K dX10_priceMore_7 ?_
  refine r_iload_n K 4 dX10_priceMore_8 rfl ?_
  refine r_iadd K dX10_priceMore_9 ?_
  obtain ⟨y1, ey1, hf⟩ := bnd_g hf
  refine r_nmi ey1 ?_
  refine r_istore (lv1 := [(6, .int y1), (4, .long (0 : Int64)), (0, .ref a0), (1, .int x1), (2, .int x2), (3, .int x3)]) K dX10_priceMore_10 (by decide) rfl ?_
  refine r_iconst (v := (0 : Int32)) K dX10_priceMore_12 (by decide) ?_
  refine r_istore (lv1 := [(7, .int (0 : Int32)), (6, .int y1), (4, .long (0 : Int64)), (0, .ref a0), (1, .int x1), (2, .int x2), (3, .int x3)]) K dX10_priceMore_13 (by decide) rfl ?_
  refine r_lv [3, 4, 5, 2, 1, 0] rfl ?_
  refine wX10_priceMore_L15 K ht _ (fun y19 hf => ?_) lf (0 : Int64) (0 : Int32) hf
  refine r_lload K 0 dX10_priceMore_69 rfl ?_
  exact r_lret K dX10_priceMore_71 (retp hf) (Nat.le_of_ble_eq_true rfl) (Nat.le_of_ble_eq_true rfl)
theorem ceX10_priceNow : CE yX10_priceNow 3 := ⟨by decide, by decide, by decide +kernel⟩
abbrev rmX10_priceNow : Room := { frames := 4, cells := 0, slots := 0, locals := 100 }
def fX10_priceNow_L15 (a0 : Nat) (x1 : Int32) (x2 : Int32) (x6 : Int32) (h : AH) (k : Int64 → Option Int64) : Nat → Int64 → Int32 → Option Int64
  | 0, _, _ => none
  | n + 1, x4, x7 =>
    ob1 (gR h a0 10 11) fun b2 =>
    ob1 (aI h b2 0 x6) fun v4 =>
    if v4 ≤ x7 then
      k x4
    else
      ob1 (gR h a0 10 12) fun b6 =>
      ob1 (aI h b6 0 (((5 : Int32) * x6) + x7)) fun v8 =>
      ob1 (gR h a0 10 16) fun b10 =>
      ob1 (aI h b10 0 v8) fun v12 =>
      if (1 : Int32) ≤ v12 then
        ob1 (gR h a0 10 16) fun b14 =>
        ob1 (aI h b14 0 v8) fun v16 =>
        ob1 (fX10_priceBy a0 x1 x2 v8 v16 h) fun r18 =>
        bnd (x4 + r18) fun y20 =>
        bnd (x7 + (1 : Int32)) fun y21 =>
        fX10_priceNow_L15 a0 x1 x2 x6 h k n y20 y21
      else
        ob1 (fX10_priceBy a0 x1 x2 v8 (1 : Int32) h) fun r22 =>
        bnd (x4 + r22) fun y24 =>
        bnd (x7 + (1 : Int32)) fun y25 =>
        fX10_priceNow_L15 a0 x1 x2 x6 h k n y24 y25
def fX10_priceNow (a0 : Nat) (x1 : Int32) (x2 : Int32) (x3 : Int32) (h : AH) : Option Int64 :=
  bnd (((256 : Int32) * x2) + x3) fun y1 =>
  fX10_priceNow_L15 a0 x1 x2 y1 h (fun (y28 : Int64) =>
    some y28
  ) lf (0 : Int64) (0 : Int32)
set_option maxHeartbeats 4000000 in
set_option maxRecDepth 100000 in
theorem wX10_priceNow_L15 {p : Program} {l : Launch} {e : Env} {s : State} {m : MethodId} {args : Array Value} {below : List Frame} {meth : Method} {c : Code} {G : GG} {b0 : Nat} {h0 : AH} {a0 : Nat} {x1 : Int32} {x2 : Int32} {x6 : Int32} {h : AH} {rr : Int64} (K : CX p s m args meth c cX10_priceNow 9 RX10 (some .long) G b0) (ht : isO h0 a0 10) (k : Int64 → Option Int64) (hk : ∀ (x4 : Int64), k x4 = some rr → WA p l e rmX10_priceNow s m args below meth c (MQ below (QG G b0 h0 (some (.long rr)) h) args s (rmX10_priceNow).cells (rmX10_priceNow).slots (AB b0)) G b0 9 h0 0 0 h 82 [(4, .long x4)] []) : ∀ (n : Nat) (x4 : Int64) (x7 : Int32), fX10_priceNow_L15 a0 x1 x2 x6 h k n x4 x7 = some rr → WA p l e rmX10_priceNow s m args below meth c (MQ below (QG G b0 h0 (some (.long rr)) h) args s (rmX10_priceNow).cells (rmX10_priceNow).slots (AB b0)) G b0 9 h0 0 0 h 15 [(0, .ref a0), (1, .int x1), (2, .int x2), (4, .long x4), (6, .int x6), (7, .int x7)] [] := by
  intro n
  induction n with
  | zero =>
    intro x4 x7 hf
    rw [fX10_priceNow_L15] at hf
    cases hf
  | succ n ih =>
    intro x4 x7 hf
    rw [fX10_priceNow_L15] at hf
    refine r_iload K 5 dX10_priceNow_15 rfl ?_
    refine r_aload_n K 0 dX10_priceNow_17 rfl ?_
    obtain ⟨b2, e3, hf⟩ := ob1_s hf
    refine r_getR (ci := 10) (k := 11) K dX10_priceNow_18 inX10 rfl (by decide) rfl q_917 e3 ?_
    refine r_iload K 4 dX10_priceNow_21 rfl ?_
    obtain ⟨v4, e5, hf⟩ := ob1_s hf
    refine r_iaload K dX10_priceNow_23 e5 ?_
    refine r_icmp_ge (tgt := 82) K dX10_priceNow_24 (by decide) (fun c27 => ?_) (fun c27 => ?_)
    · replace hf := ite_t hf c27
      refine r_lv [3] rfl ?_
      exact hk x4 hf
    · replace hf := ite_f hf c27
      refine r_aload_n K 0 dX10_priceNow_27 rfl ?_
      obtain ⟨b6, e7, hf⟩ := ob1_s hf
      refine r_getR (ci := 10) (k := 12) K dX10_priceNow_28 inX10 rfl (by decide) rfl q_918 e7 ?_
      refine r_iconst (v := (5 : Int32)) K dX10_priceNow_31 (by decide) ?_
      refine r_iload K 4 dX10_priceNow_32 rfl ?_
      refine r_imul K dX10_priceNow_34 ?_
      refine r_iload K 5 dX10_priceNow_35 rfl ?_
      refine r_iadd K dX10_priceNow_37 ?_
      obtain ⟨v8, e9, hf⟩ := ob1_s hf
      refine r_iaload K dX10_priceNow_38 e9 ?_
      refine r_istore (lv1 := [(8, .int v8), (0, .ref a0), (1, .int x1), (2, .int x2), (4, .long x4), (6, .int x6), (7, .int x7)]) K dX10_priceNow_39 (by decide) rfl ?_
      refine r_lload K 4 dX10_priceNow_41 rfl ?_
      refine r_aload_n K 1 dX10_priceNow_43 rfl ?_
      refine r_iload_n K 2 dX10_priceNow_44 rfl ?_
      refine r_iload_n K 3 dX10_priceNow_45 rfl ?_
      refine r_iload K 0 dX10_priceNow_46 rfl ?_
      refine r_aload_n K 1 dX10_priceNow_48 rfl ?_
      obtain ⟨b10, e11, hf⟩ := ob1_s hf
      refine r_getR (ci := 10) (k := 16) K dX10_priceNow_49 inX10 rfl (by decide) rfl q_922 e11 ?_
      refine r_iload K 0 dX10_priceNow_52 rfl ?_
      obtain ⟨v12, e13, hf⟩ := ob1_s hf
      refine r_iaload K dX10_priceNow_54 e13 ?_
      refine r_iconst (v := (1 : Int32)) K dX10_priceNow_55 (by decide) ?_
      refine r_icmp_ge (tgt := 63) K dX10_priceNow_56 (by decide) (fun c26 => ?_) (fun c26 => ?_)
      · replace hf := ite_t hf c26
        refine r_aload_n K 1 dX10_priceNow_63 rfl ?_
        obtain ⟨b14, e15, hf⟩ := ob1_s hf
        refine r_getR (ci := 10) (k := 16) K dX10_priceNow_64 inX10 rfl (by decide) rfl q_922 e15 ?_
        refine r_iload K 0 dX10_priceNow_67 rfl ?_
        obtain ⟨v16, e17, hf⟩ := ob1_s hf
        refine r_iaload K dX10_priceNow_69 e17 ?_
        obtain ⟨r18, e19, hf⟩ := ob1_s hf
        refine r_callV (As := [.int x1, .int x2, .int v8, .int v16]) (rest := [.long x4]) (st1 := [.long r18, .long x4]) (cells1 := 0) (slots1 := 0) (b := a0) (ci := 10) K (fun z => mX10_priceBy l z e19) dX10_priceNow_70 rfl (fun z => z _ _ ht) rfl ceX10_priceBy q_1182 q_1184 q_54 q_85 q_1185 ⟨Nat.le_of_ble_eq_true rfl, Nat.le_of_ble_eq_true rfl⟩ (Nat.le_of_ble_eq_true rfl) ⟨Nat.le_of_ble_eq_true rfl, Nat.le_of_ble_eq_true rfl⟩ ?_ rfl rfl rfl rfl
        refine r_ladd K dX10_priceNow_73 ?_
        obtain ⟨y20, ey20, hf⟩ := bnd_g hf
        refine r_nml ey20 ?_
        refine r_lstore (lv1 := [(4, .long y20), (8, .int v8), (0, .ref a0), (1, .int x1), (2, .int x2), (6, .int x6), (7, .int x7)]) K dX10_priceNow_74 (by decide) rfl ?_
        obtain ⟨y21, ey21, hf⟩ := bnd_g hf
        refine r_iinc (lv1 := [(7, .int y21), (4, .long y20), (8, .int v8), (0, .ref a0), (1, .int x1), (2, .int x2), (6, .int x6)]) K 6 dX10_priceNow_76 rfl (by rw [ey21]; rfl) (by decide) rfl ?_
        refine r_goto (tgt := 15) K dX10_priceNow_79 (by decide) ?_
        refine r_lv [3, 4, 5, 1, 6, 0] rfl ?_
        exact ih y20 y21 hf
      · replace hf := ite_f hf c26
        refine r_iconst (v := (1 : Int32)) K dX10_priceNow_59 (by decide) ?_
        refine r_goto (tgt := 70) K dX10_priceNow_60 (by decide) ?_
        obtain ⟨r22, e23, hf⟩ := ob1_s hf
        refine r_callV (As := [.int x1, .int x2, .int v8, .int (1 : Int32)]) (rest := [.long x4]) (st1 := [.long r22, .long x4]) (cells1 := 0) (slots1 := 0) (b := a0) (ci := 10) K (fun z => mX10_priceBy l z e23) dX10_priceNow_70 rfl (fun z => z _ _ ht) rfl ceX10_priceBy q_1182 q_1184 q_54 q_85 q_1185 ⟨Nat.le_of_ble_eq_true rfl, Nat.le_of_ble_eq_true rfl⟩ (Nat.le_of_ble_eq_true rfl) ⟨Nat.le_of_ble_eq_true rfl, Nat.le_of_ble_eq_true rfl⟩ ?_ rfl rfl rfl rfl
        refine r_ladd K dX10_priceNow_73 ?_
        obtain ⟨y24, ey24, hf⟩ := bnd_g hf
        refine r_nml ey24 ?_
        refine r_lstore (lv1 := [(4, .long y24), (8, .int v8), (0, .ref a0), (1, .int x1), (2, .int x2), (6, .int x6), (7, .int x7)]) K dX10_priceNow_74 (by decide) rfl ?_
        obtain ⟨y25, ey25, hf⟩ := bnd_g hf
        refine r_iinc (lv1 := [(7, .int y25), (4, .long y24), (8, .int v8), (0, .ref a0), (1, .int x1), (2, .int x2), (6, .int x6)]) K 6 dX10_priceNow_76 rfl (by rw [ey25]; rfl) (by decide) rfl ?_
        refine r_goto (tgt := 15) K dX10_priceNow_79 (by decide) ?_
        refine r_lv [3, 4, 5, 1, 6, 0] rfl ?_
        exact ih y24 y25 hf
set_option maxHeartbeats 4000000 in
set_option maxRecDepth 100000 in
theorem mX10_priceNow (l : Launch) {G : GG} {b0 : Nat} {h : AH} {a0 : Nat} {x1 : Int32} {x2 : Int32} {x3 : Int32} {rr : Int64} (ht : isO h a0 10) (hf : fX10_priceNow a0 x1 x2 x3 h = some rr) : MM l yX10_priceNow cX10_priceNow 9 (some .long) rmX10_priceNow G b0 h [.ref a0, .int x1, .int x2, .int x3] (some (.long rr)) h := by
  refine MM.of (own := RX10) (lv0 := [(0, .ref a0), (1, .int x1), (2, .int x2), (3, .int x3)]) (by decide) rfl (Nat.le_of_ble_eq_true rfl) rfl ?_
  intro p e s m args below meth c K hnm
  unfold fX10_priceNow at hf
  refine r_lconst (v := (0 : Int64)) K dX10_priceNow_0 (by decide) ?_
  refine r_lstore (lv1 := [(4, .long (0 : Int64)), (0, .ref a0), (1, .int x1), (2, .int x2), (3, .int x3)]) K dX10_priceNow_1 (by decide) rfl ?_
  refine r_sipush (v := (256 : Int32)) K dX10_priceNow_3 (by decide) ?_
  refine r_iload_n K 3 dX10_priceNow_6 rfl ?_
  refine r_imul K dX10_priceNow_7 ?_
  refine r_iload_n K 4 dX10_priceNow_8 rfl ?_
  refine r_iadd K dX10_priceNow_9 ?_
  obtain ⟨y1, ey1, hf⟩ := bnd_g hf
  refine r_nmi ey1 ?_
  refine r_istore (lv1 := [(6, .int y1), (4, .long (0 : Int64)), (0, .ref a0), (1, .int x1), (2, .int x2), (3, .int x3)]) K dX10_priceNow_10 (by decide) rfl ?_
  refine r_iconst (v := (0 : Int32)) K dX10_priceNow_12 (by decide) ?_
  refine r_istore (lv1 := [(7, .int (0 : Int32)), (6, .int y1), (4, .long (0 : Int64)), (0, .ref a0), (1, .int x1), (2, .int x2), (3, .int x3)]) K dX10_priceNow_13 (by decide) rfl ?_
  refine r_lv [3, 4, 5, 2, 1, 0] rfl ?_
  refine wX10_priceNow_L15 K ht _ (fun y28 hf => ?_) lf (0 : Int64) (0 : Int32) hf
  refine r_lload K 0 dX10_priceNow_82 rfl ?_
  exact r_lret K dX10_priceNow_84 (retp hf) (Nat.le_of_ble_eq_true rfl) (Nat.le_of_ble_eq_true rfl)
theorem ceX10_goes : CE yX10_goes 3 := ⟨by decide, by decide, by decide +kernel⟩
abbrev rmX10_goes : Room := { frames := 0, cells := 0, slots := 0, locals := 0 }
def fX10_goes_L23 (a0 : Nat) (x3 : Int32) (x4 : Int32) (k : AH → Option AH) : Nat → Int32 → AH → Option AH
  | 0, _, _ => none
  | n + 1, x5, h =>
    ob1 (gR h a0 10 11) fun b8 =>
    ob1 (aI h b8 0 x4) fun v10 =>
    if v10 ≤ x5 then
      k h
    else
      ob1 (gR h a0 10 16) fun b12 =>
      ob1 (gR h a0 10 12) fun b14 =>
      ob1 (aI h b14 0 (((5 : Int32) * x4) + x5)) fun v16 =>
      ob1 (aI h b12 0 v16) fun v18 =>
      ob1 (sI h b12 v16 (v18 + x3)) fun g20 =>
      bnd (x5 + (1 : Int32)) fun y22 =>
      fX10_goes_L23 a0 x3 x4 k n y22 g20
def fX10_goes (a0 : Nat) (x1 : Int32) (x2 : Int32) (x3 : Int32) (h : AH) : Option AH :=
  bnd (((256 : Int32) * x1) + x2) fun y1 =>
  ob1 (gR h a0 10 17) fun b2 =>
  ob1 (aI h b2 0 y1) fun v4 =>
  ob1 (sI h b2 y1 (v4 + x3)) fun g6 =>
  fX10_goes_L23 a0 x3 y1 (fun (g24 : AH) =>
    some g24
  ) lf (0 : Int32) g6
set_option maxHeartbeats 4000000 in
set_option maxRecDepth 100000 in
theorem wX10_goes_L23 {p : Program} {l : Launch} {e : Env} {s : State} {m : MethodId} {args : Array Value} {below : List Frame} {meth : Method} {c : Code} {G : GG} {b0 : Nat} {h0 : AH} {a0 : Nat} {x3 : Int32} {x4 : Int32} {hh : AH} (K : CX p s m args meth c cX10_goes 6 RX10 (none) G b0) (ht : isO h0 a0 10) (k : AH → Option AH) (hk : ∀ (h : AH), k h = some hh → WA p l e rmX10_goes s m args below meth c (MQ below (QG G b0 h0 none hh) args s (rmX10_goes).cells (rmX10_goes).slots (AB b0)) G b0 6 h0 0 0 h 62 [] []) : ∀ (n : Nat) (x5 : Int32) (h : AH), fX10_goes_L23 a0 x3 x4 k n x5 h = some hh → WA p l e rmX10_goes s m args below meth c (MQ below (QG G b0 h0 none hh) args s (rmX10_goes).cells (rmX10_goes).slots (AB b0)) G b0 6 h0 0 0 h 23 [(0, .ref a0), (3, .int x3), (4, .int x4), (5, .int x5)] [] := by
  intro n
  induction n with
  | zero =>
    intro x5 h hf
    rw [fX10_goes_L23] at hf
    cases hf
  | succ n ih =>
    intro x5 h hf
    rw [fX10_goes_L23] at hf
    refine r_iload K 3 dX10_goes_23 rfl ?_
    refine r_aload_n K 0 dX10_goes_25 rfl ?_
    obtain ⟨b8, e9, hf⟩ := ob1_s hf
    refine r_getR (ci := 10) (k := 11) K dX10_goes_26 inX10 rfl (by decide) rfl q_917 e9 ?_
    refine r_iload K 2 dX10_goes_29 rfl ?_
    obtain ⟨v10, e11, hf⟩ := ob1_s hf
    refine r_iaload K dX10_goes_31 e11 ?_
    refine r_icmp_ge (tgt := 62) K dX10_goes_32 (by decide) (fun c23 => ?_) (fun c23 => ?_)
    · replace hf := ite_t hf c23
      refine r_lv [] rfl ?_
      exact hk h hf
    · replace hf := ite_f hf c23
      refine r_aload_n K 0 dX10_goes_35 rfl ?_
      obtain ⟨b12, e13, hf⟩ := ob1_s hf
      refine r_getR (ci := 10) (k := 16) K dX10_goes_36 inX10 rfl (by decide) rfl q_922 e13 ?_
      refine r_aload_n K 0 dX10_goes_39 rfl ?_
      obtain ⟨b14, e15, hf⟩ := ob1_s hf
      refine r_getR (ci := 10) (k := 12) K dX10_goes_40 inX10 rfl (by decide) rfl q_918 e15 ?_
      refine r_iconst (v := (5 : Int32)) K dX10_goes_43 (by decide) ?_
      refine r_iload K 2 dX10_goes_44 rfl ?_
      refine r_imul K dX10_goes_46 ?_
      refine r_iload K 3 dX10_goes_47 rfl ?_
      refine r_iadd K dX10_goes_49 ?_
      obtain ⟨v16, e17, hf⟩ := ob1_s hf
      refine r_iaload K dX10_goes_50 e17 ?_
      refine r_dup2_11 K dX10_goes_51 rfl rfl ?_
      obtain ⟨v18, e19, hf⟩ := ob1_s hf
      refine r_iaload K dX10_goes_52 e19 ?_
      refine r_iload_n K 1 dX10_goes_53 rfl ?_
      refine r_iadd K dX10_goes_54 ?_
      obtain ⟨g20, e21, hf⟩ := ob1_s hf
      refine r_iastore K dX10_goes_55 e21 ?_
      obtain ⟨y22, ey22, hf⟩ := bnd_g hf
      refine r_iinc (lv1 := [(5, .int y22), (0, .ref a0), (3, .int x3), (4, .int x4)]) K 3 dX10_goes_56 rfl (by rw [ey22]; rfl) (by decide) rfl ?_
      refine r_goto (tgt := 23) K dX10_goes_59 (by decide) ?_
      refine r_lv [1, 2, 3, 0] rfl ?_
      exact ih y22 g20 hf
set_option maxHeartbeats 4000000 in
set_option maxRecDepth 100000 in
theorem mX10_goes (l : Launch) {G : GG} {b0 : Nat} {h : AH} {a0 : Nat} {x1 : Int32} {x2 : Int32} {x3 : Int32} {hh : AH} (ht : isO h a0 10) (hf : fX10_goes a0 x1 x2 x3 h = some hh) : MM l yX10_goes cX10_goes 6 (none) rmX10_goes G b0 h [.ref a0, .int x1, .int x2, .int x3] none hh := by
  refine MM.of (own := RX10) (lv0 := [(0, .ref a0), (1, .int x1), (2, .int x2), (3, .int x3)]) (by decide) rfl (Nat.le_of_ble_eq_true rfl) rfl ?_
  intro p e s m args below meth c K hnm
  unfold fX10_goes at hf
  refine r_sipush (v := (256 : Int32)) K dX10_goes_0 (by decide) ?_
  refine r_iload_n K 1 dX10_goes_3 rfl ?_
  refine r_imul K dX10_goes_4 ?_
  refine r_iload_n K 2 dX10_goes_5 rfl ?_
  refine r_iadd K dX10_goes_6 ?_
  obtain ⟨y1, ey1, hf⟩ := bnd_g hf
  refine r_nmi ey1 ?_
  refine r_istore (lv1 := [(4, .int y1), (0, .ref a0), (1, .int x1), (2, .int x2), (3, .int x3)]) K dX10_goes_7 (by decide) rfl ?_
  refine r_aload_n K 1 dX10_goes_9 rfl ?_
  obtain ⟨b2, e3, hf⟩ := ob1_s hf
  refine r_getR (ci := 10) (k := 17) K dX10_goes_10 inX10 rfl (by decide) rfl q_923 e3 ?_
  refine r_iload K 0 dX10_goes_13 rfl ?_
  refine r_dup2_11 K dX10_goes_15 rfl rfl ?_
  obtain ⟨v4, e5, hf⟩ := ob1_s hf
  refine r_iaload K dX10_goes_16 e5 ?_
  refine r_iload_n K 4 dX10_goes_17 rfl ?_
  refine r_iadd K dX10_goes_18 ?_
  obtain ⟨g6, e7, hf⟩ := ob1_s hf
  refine r_iastore K dX10_goes_19 e7 ?_
  refine r_iconst (v := (0 : Int32)) K dX10_goes_20 (by decide) ?_
  refine r_istore (lv1 := [(5, .int (0 : Int32)), (4, .int y1), (0, .ref a0), (1, .int x1), (2, .int x2), (3, .int x3)]) K dX10_goes_21 (by decide) rfl ?_
  refine r_lv [2, 5, 1, 0] rfl ?_
  refine wX10_goes_L23 K ht _ (fun g24 hf => ?_) lf (0 : Int32) g6 hf
  exact r_vret K dX10_goes_62 hf (Nat.le_of_ble_eq_true rfl) (Nat.le_of_ble_eq_true rfl)
theorem ceX10_cheapest : CE yX10_cheapest 3 := ⟨by decide, by decide, by decide +kernel⟩
abbrev rmX10_cheapest : Room := { frames := 5, cells := 0, slots := 0, locals := 128 }
def fX10_cheapest_L11 (a0 : Nat) (x1 : Int32) (x2 : Int32) (x3 : Int32) (h : AH) (k : Int32 → Option Int32) : Nat → Int32 → Int64 → Int32 → Option Int32
  | 0, _, _, _ => none
  | n + 1, x4, x5, x7 =>
    ob1 (gR h a0 10 10) fun b1 =>
    ob1 (aI h b1 0 x2) fun v3 =>
    if v3 ≤ x7 then
      k x4
    else
      bnd (fun (v6 : Int64) =>
        bnd (fun (v8 : Int32) =>
          if x5 ≤ v6 then
            bnd (x7 + (1 : Int32)) fun y9 =>
            fX10_cheapest_L11 a0 x1 x2 x3 h k n v8 x5 y9
          else
            bnd (x7 + (1 : Int32)) fun y10 =>
            fX10_cheapest_L11 a0 x1 x2 x3 h k n v8 v6 y10
        ) fun j7 =>
        if x5 ≤ v6 then
          j7 x4
        else
          j7 x7
      ) fun j5 =>
      if x7 = x3 then
        j5 (9223372036854775807 : Int64)
      else
        ob1 (fX10_priceMore a0 x1 x2 x7 h) fun r13 =>
        j5 r13
def fX10_cheapest (a0 : Nat) (x1 : Int32) (x2 : Int32) (x3 : Int32) (h : AH) : Option Int32 :=
  fX10_cheapest_L11 a0 x1 x2 x3 h (fun (y17 : Int32) =>
    some y17
  ) lf (-1 : Int32) (9223372036854775807 : Int64) (0 : Int32)
set_option maxHeartbeats 4000000 in
set_option maxRecDepth 100000 in
theorem wX10_cheapest_L11 {p : Program} {l : Launch} {e : Env} {s : State} {m : MethodId} {args : Array Value} {below : List Frame} {meth : Method} {c : Code} {G : GG} {b0 : Nat} {h0 : AH} {a0 : Nat} {x1 : Int32} {x2 : Int32} {x3 : Int32} {h : AH} {rr : Int32} (K : CX p s m args meth c cX10_cheapest 10 RX10 (some .int) G b0) (ht : isO h0 a0 10) (k : Int32 → Option Int32) (hk : ∀ (x4 : Int32), k x4 = some rr → WA p l e rmX10_cheapest s m args below meth c (MQ below (QG G b0 h0 (some (.int rr)) h) args s (rmX10_cheapest).cells (rmX10_cheapest).slots (AB b0)) G b0 10 h0 0 0 h 84 [(4, .int x4)] []) : ∀ (n : Nat) (x4 : Int32) (x5 : Int64) (x7 : Int32), fX10_cheapest_L11 a0 x1 x2 x3 h k n x4 x5 x7 = some rr → WA p l e rmX10_cheapest s m args below meth c (MQ below (QG G b0 h0 (some (.int rr)) h) args s (rmX10_cheapest).cells (rmX10_cheapest).slots (AB b0)) G b0 10 h0 0 0 h 11 [(0, .ref a0), (1, .int x1), (2, .int x2), (3, .int x3), (4, .int x4), (5, .long x5), (7, .int x7)] [] := by
  intro n
  induction n with
  | zero =>
    intro x4 x5 x7 hf
    rw [fX10_cheapest_L11] at hf
    cases hf
  | succ n ih =>
    intro x4 x5 x7 hf
    rw [fX10_cheapest_L11] at hf
    refine r_iload K 6 dX10_cheapest_11 rfl ?_
    refine r_aload_n K 0 dX10_cheapest_13 rfl ?_
    obtain ⟨b1, e2, hf⟩ := ob1_s hf
    refine r_getR (ci := 10) (k := 10) K dX10_cheapest_14 inX10 rfl (by decide) rfl q_916 e2 ?_
    refine r_iload_n K 2 dX10_cheapest_17 rfl ?_
    obtain ⟨v3, e4, hf⟩ := ob1_s hf
    refine r_iaload K dX10_cheapest_18 e4 ?_
    refine r_icmp_ge (tgt := 84) K dX10_cheapest_19 (by decide) (fun c16 => ?_) (fun c16 => ?_)
    · replace hf := ite_t hf c16
      refine r_lv [4] rfl ?_
      exact hk x4 hf
    · replace hf := ite_f hf c16
      refine r_iload K 6 dX10_cheapest_22 rfl ?_
      refine r_iload_n K 3 dX10_cheapest_24 rfl ?_
      obtain ⟨j5, ej5, hf⟩ := bnd_g hf
      have Jj5 : ∀ (v6 : Int64), j5 v6 = some rr → WA p l e rmX10_cheapest s m args below meth c (MQ below (QG G b0 h0 (some (.int rr)) h) args s (rmX10_cheapest).cells (rmX10_cheapest).slots (AB b0)) G b0 10 h0 0 0 h 42 [(0, .ref a0), (1, .int x1), (2, .int x2), (3, .int x3), (4, .int x4), (5, .long x5), (7, .int x7)] [.long v6] := by
        intro v6 hf
        rw [ej5] at hf
        refine r_lstore (lv1 := [(8, .long v6), (0, .ref a0), (1, .int x1), (2, .int x2), (3, .int x3), (4, .int x4), (5, .long x5), (7, .int x7)]) K dX10_cheapest_42 (by decide) rfl ?_
        refine r_lload K 0 dX10_cheapest_44 rfl ?_
        refine r_lload K 6 dX10_cheapest_46 rfl ?_
        obtain ⟨j7, ej7, hf⟩ := bnd_g hf
        have Jj7 : ∀ (v8 : Int32), j7 v8 = some rr → WA p l e rmX10_cheapest s m args below meth c (MQ below (QG G b0 h0 (some (.int rr)) h) args s (rmX10_cheapest).cells (rmX10_cheapest).slots (AB b0)) G b0 10 h0 0 0 h 59 [(0, .ref a0), (1, .int x1), (2, .int x2), (3, .int x3), (5, .long x5), (7, .int x7), (8, .long v6)] [.int v8] := by
          intro v8 hf
          rw [ej7] at hf
          refine r_istore (lv1 := [(4, .int v8), (0, .ref a0), (1, .int x1), (2, .int x2), (3, .int x3), (5, .long x5), (7, .int x7), (8, .long v6)]) K dX10_cheapest_59 (by decide) rfl ?_
          refine r_lload K 7 dX10_cheapest_61 rfl ?_
          refine r_lload K 5 dX10_cheapest_63 rfl ?_
          refine r_lif_ge (tgt := 74) K dX10_cheapest_65 dX10_cheapest_66 (by decide) (fun c11 => ?_) (fun c11 => ?_)
          · replace hf := ite_t hf c11
            refine r_lload K 5 dX10_cheapest_74 rfl ?_
            refine r_lstore (lv1 := [(5, .long x5), (4, .int v8), (0, .ref a0), (1, .int x1), (2, .int x2), (3, .int x3), (7, .int x7), (8, .long v6)]) K dX10_cheapest_76 (by decide) rfl ?_
            obtain ⟨y9, ey9, hf⟩ := bnd_g hf
            refine r_iinc (lv1 := [(7, .int y9), (5, .long x5), (4, .int v8), (0, .ref a0), (1, .int x1), (2, .int x2), (3, .int x3), (8, .long v6)]) K 6 dX10_cheapest_78 rfl (by rw [ey9]; rfl) (by decide) rfl ?_
            refine r_goto (tgt := 11) K dX10_cheapest_81 (by decide) ?_
            refine r_lv [3, 4, 5, 6, 2, 1, 0] rfl ?_
            exact ih v8 x5 y9 hf
          · replace hf := ite_f hf c11
            refine r_lload K 7 dX10_cheapest_69 rfl ?_
            refine r_goto (tgt := 76) K dX10_cheapest_71 (by decide) ?_
            refine r_lstore (lv1 := [(5, .long v6), (4, .int v8), (0, .ref a0), (1, .int x1), (2, .int x2), (3, .int x3), (7, .int x7), (8, .long v6)]) K dX10_cheapest_76 (by decide) rfl ?_
            obtain ⟨y10, ey10, hf⟩ := bnd_g hf
            refine r_iinc (lv1 := [(7, .int y10), (5, .long v6), (4, .int v8), (0, .ref a0), (1, .int x1), (2, .int x2), (3, .int x3), (8, .long v6)]) K 6 dX10_cheapest_78 rfl (by rw [ey10]; rfl) (by decide) rfl ?_
            refine r_goto (tgt := 11) K dX10_cheapest_81 (by decide) ?_
            refine r_lv [3, 4, 5, 6, 2, 1, 0] rfl ?_
            exact ih v8 v6 y10 hf
        refine r_lif_ge (tgt := 57) K dX10_cheapest_48 dX10_cheapest_49 (by decide) (fun c12 => ?_) (fun c12 => ?_)
        · replace hf := ite_t hf c12
          refine r_iload K 5 dX10_cheapest_57 rfl ?_
          refine r_lv [1, 2, 3, 4, 6, 7, 0] rfl ?_
          exact Jj7 x4 hf
        · replace hf := ite_f hf c12
          refine r_iload K 7 dX10_cheapest_52 rfl ?_
          refine r_goto (tgt := 59) K dX10_cheapest_54 (by decide) ?_
          refine r_lv [1, 2, 3, 4, 6, 7, 0] rfl ?_
          exact Jj7 x7 hf
      refine r_icmp_ne (tgt := 34) K dX10_cheapest_25 (by decide) (fun c15 => ?_) (fun c15 => ?_)
      · replace hf := ite_f hf c15
        refine r_aload_n K 0 dX10_cheapest_34 rfl ?_
        refine r_iload_n K 1 dX10_cheapest_35 rfl ?_
        refine r_iload_n K 2 dX10_cheapest_36 rfl ?_
        refine r_iload K 6 dX10_cheapest_37 rfl ?_
        obtain ⟨r13, e14, hf⟩ := ob1_s hf
        refine r_callV (As := [.int x1, .int x2, .int x7]) (rest := []) (st1 := [.long r13]) (cells1 := 0) (slots1 := 0) (b := a0) (ci := 10) K (fun z => mX10_priceMore l z e14) dX10_cheapest_39 rfl (fun z => z _ _ ht) rfl ceX10_priceMore q_1178 q_1180 q_53 q_85 q_1181 ⟨Nat.le_of_ble_eq_true rfl, Nat.le_of_ble_eq_true rfl⟩ (Nat.le_of_ble_eq_true rfl) ⟨Nat.le_of_ble_eq_true rfl, Nat.le_of_ble_eq_true rfl⟩ ?_ rfl rfl rfl rfl
        exact Jj5 r13 hf
      · replace hf := ite_t hf c15
        refine r_ldc2 K dX10_cheapest_28 q_1177 ?_
        refine r_goto (tgt := 42) K dX10_cheapest_31 (by decide) ?_
        exact Jj5 (9223372036854775807 : Int64) hf
set_option maxHeartbeats 4000000 in
set_option maxRecDepth 100000 in
theorem mX10_cheapest (l : Launch) {G : GG} {b0 : Nat} {h : AH} {a0 : Nat} {x1 : Int32} {x2 : Int32} {x3 : Int32} {rr : Int32} (ht : isO h a0 10) (hf : fX10_cheapest a0 x1 x2 x3 h = some rr) : MM l yX10_cheapest cX10_cheapest 10 (some .int) rmX10_cheapest G b0 h [.ref a0, .int x1, .int x2, .int x3] (some (.int rr)) h := by
  refine MM.of (own := RX10) (lv0 := [(0, .ref a0), (1, .int x1), (2, .int x2), (3, .int x3)]) (by decide) rfl (Nat.le_of_ble_eq_true rfl) rfl ?_
  intro p e s m args below meth c K hnm
  unfold fX10_cheapest at hf
  refine r_iconst (v := (-1 : Int32)) K dX10_cheapest_0 (by decide) ?_
  refine r_istore (lv1 := [(4, .int (-1 : Int32)), (0, .ref a0), (1, .int x1), (2, .int x2), (3, .int x3)]) K dX10_cheapest_1 (by decide) rfl ?_
  refine r_ldc2 K dX10_cheapest_3 q_1177 ?_
  refine r_lstore (lv1 := [(5, .long (9223372036854775807 : Int64)), (4, .int (-1 : Int32)), (0, .ref a0), (1, .int x1), (2, .int x2), (3, .int x3)]) K dX10_cheapest_6 (by decide) rfl ?_
  refine r_iconst (v := (0 : Int32)) K dX10_cheapest_8 (by decide) ?_
  refine r_istore (lv1 := [(7, .int (0 : Int32)), (5, .long (9223372036854775807 : Int64)), (4, .int (-1 : Int32)), (0, .ref a0), (1, .int x1), (2, .int x2), (3, .int x3)]) K dX10_cheapest_9 (by decide) rfl ?_
  refine r_lv [3, 4, 5, 6, 2, 1, 0] rfl ?_
  refine wX10_cheapest_L11 K ht _ (fun y17 hf => ?_) lf (-1 : Int32) (9223372036854775807 : Int64) (0 : Int32) hf
  refine r_iload K 0 dX10_cheapest_84 rfl ?_
  exact r_iret K dX10_cheapest_86 (retp hf) (Nat.le_of_ble_eq_true rfl) (Nat.le_of_ble_eq_true rfl)
theorem ceX10_isLeft : CE yX10_isLeft 3 := ⟨by decide, by decide, by decide +kernel⟩
abbrev rmX10_isLeft : Room := { frames := 6, cells := 0, slots := 0, locals := 157 }
def fX10_isLeft (a0 : Nat) (x1 : Int32) (x2 : Int32) (x3 : Int32) (h : AH) : Option (Int32 × AH) :=
  ob1 (fX10_goes a0 x2 x3 (-1 : Int32) h) fun g1 =>
  ob1 (fX10_priceMore a0 x1 x2 x3 g1) fun r3 =>
  ob1 (fX10_cheapest a0 x1 x2 x3 g1) fun r5 =>
  bnd (fun (g8 : AH) =>
    if (0 : Int32) = (0 : Int32) then
      ob1 (fX10_goes a0 x2 x3 (1 : Int32) g8) fun g9 =>
      some ((0 : Int32), g9)
    else
      ob1 (fX10_goes a0 x2 r5 (1 : Int32) g8) fun g11 =>
      some ((0 : Int32), g11)
  ) fun j7 =>
  if r5 < (0 : Int32) then
    j7 g1
  else
    ob1 (fX10_priceMore a0 x1 x2 r5 g1) fun r14 =>
    if r3 ≤ r14 then
      j7 g1
    else
      if (1 : Int32) = (0 : Int32) then
        ob1 (fX10_goes a0 x2 x3 (1 : Int32) g1) fun g16 =>
        some ((1 : Int32), g16)
      else
        ob1 (fX10_goes a0 x2 r5 (1 : Int32) g1) fun g18 =>
        some ((1 : Int32), g18)
set_option maxHeartbeats 4000000 in
set_option maxRecDepth 100000 in
theorem mX10_isLeft (l : Launch) {G : GG} {b0 : Nat} {h : AH} {a0 : Nat} {x1 : Int32} {x2 : Int32} {x3 : Int32} {rr : Int32} {hh : AH} (ht : isO h a0 10) (hf : fX10_isLeft a0 x1 x2 x3 h = some (rr, hh)) : MM l yX10_isLeft cX10_isLeft 8 (some .boolean) rmX10_isLeft G b0 h [.ref a0, .int x1, .int x2, .int x3] (some (.int rr)) hh := by
  refine MM.of (own := RX10) (lv0 := [(0, .ref a0), (1, .int x1), (2, .int x2), (3, .int x3)]) (by decide) rfl (Nat.le_of_ble_eq_true rfl) rfl ?_
  intro p e s m args below meth c K hnm
  unfold fX10_isLeft at hf
  refine r_aload_n K 0 dX10_isLeft_0 rfl ?_
  refine r_iload_n K 2 dX10_isLeft_1 rfl ?_
  refine r_iload_n K 3 dX10_isLeft_2 rfl ?_
  refine r_iconst (v := (-1 : Int32)) K dX10_isLeft_3 (by decide) ?_
  obtain ⟨g1, e2, hf⟩ := ob1_s hf
  refine r_callV (As := [.int x2, .int x3, .int (-1 : Int32)]) (rest := []) (st1 := []) (cells1 := 0) (slots1 := 0) (b := a0) (ci := 10) K (fun z => mX10_goes l z e2) dX10_isLeft_4 rfl (fun z => z _ _ ht) rfl ceX10_goes q_1186 q_1188 q_55 q_85 q_1189 ⟨Nat.le_of_ble_eq_true rfl, Nat.le_of_ble_eq_true rfl⟩ (Nat.le_of_ble_eq_true rfl) ⟨Nat.le_of_ble_eq_true rfl, Nat.le_of_ble_eq_true rfl⟩ ?_ rfl rfl rfl rfl
  refine r_aload_n K 0 dX10_isLeft_7 rfl ?_
  refine r_iload_n K 1 dX10_isLeft_8 rfl ?_
  refine r_iload_n K 2 dX10_isLeft_9 rfl ?_
  refine r_iload_n K 3 dX10_isLeft_10 rfl ?_
  obtain ⟨r3, e4, hf⟩ := ob1_s hf
  refine r_callV (As := [.int x1, .int x2, .int x3]) (rest := []) (st1 := [.long r3]) (cells1 := 0) (slots1 := 0) (b := a0) (ci := 10) K (fun z => mX10_priceMore l z e4) dX10_isLeft_11 rfl (fun z => z _ _ ht) rfl ceX10_priceMore q_1178 q_1180 q_53 q_85 q_1181 ⟨Nat.le_of_ble_eq_true rfl, Nat.le_of_ble_eq_true rfl⟩ (Nat.le_of_ble_eq_true rfl) ⟨Nat.le_of_ble_eq_true rfl, Nat.le_of_ble_eq_true rfl⟩ ?_ rfl rfl rfl rfl
  refine r_lstore (lv1 := [(4, .long r3), (0, .ref a0), (1, .int x1), (2, .int x2), (3, .int x3)]) K dX10_isLeft_14 (by decide) rfl ?_
  refine r_aload_n K 1 dX10_isLeft_16 rfl ?_
  refine r_iload_n K 2 dX10_isLeft_17 rfl ?_
  refine r_iload_n K 3 dX10_isLeft_18 rfl ?_
  refine r_iload_n K 4 dX10_isLeft_19 rfl ?_
  obtain ⟨r5, e6, hf⟩ := ob1_s hf
  refine r_callV (As := [.int x1, .int x2, .int x3]) (rest := []) (st1 := [.int r5]) (cells1 := 0) (slots1 := 0) (b := a0) (ci := 10) K (fun z => mX10_cheapest l z e6) dX10_isLeft_20 rfl (fun z => z _ _ ht) rfl ceX10_cheapest q_1173 q_1175 q_52 q_85 q_1176 ⟨Nat.le_of_ble_eq_true rfl, Nat.le_of_ble_eq_true rfl⟩ (Nat.le_of_ble_eq_true rfl) ⟨Nat.le_of_ble_eq_true rfl, Nat.le_of_ble_eq_true rfl⟩ ?_ rfl rfl rfl rfl
  refine r_istore (lv1 := [(6, .int r5), (4, .long r3), (0, .ref a0), (1, .int x1), (2, .int x2), (3, .int x3)]) K dX10_isLeft_23 (by decide) rfl ?_
  refine r_iload K 0 dX10_isLeft_25 rfl ?_
  obtain ⟨j7, ej7, hf⟩ := bnd_g hf
  have Jj7 : ∀ (g8 : AH), j7 g8 = some (rr, hh) → WA p l e rmX10_isLeft s m args below meth c (MQ below (QG G b0 h (some (.int rr)) hh) args s (rmX10_isLeft).cells (rmX10_isLeft).slots (AB b0)) G b0 8 h 0 0 g8 48 [(0, .ref a0), (2, .int x2), (3, .int x3), (6, .int r5)] [] := by
    intro g8 hf
    rw [ej7] at hf
    refine r_iconst (v := (0 : Int32)) K dX10_isLeft_48 (by decide) ?_
    refine r_istore (lv1 := [(7, .int (0 : Int32)), (0, .ref a0), (2, .int x2), (3, .int x3), (6, .int r5)]) K dX10_isLeft_49 (by decide) rfl ?_
    refine r_aload_n K 1 dX10_isLeft_51 rfl ?_
    refine r_iload_n K 2 dX10_isLeft_52 rfl ?_
    refine r_iload K 0 dX10_isLeft_53 rfl ?_
    refine r_if_eq (tgt := 63) K dX10_isLeft_55 (by decide) (fun c13 => ?_) (fun c13 => ?_)
    · replace hf := ite_t hf c13
      refine r_iload_n K 3 dX10_isLeft_63 rfl ?_
      refine r_iconst (v := (1 : Int32)) K dX10_isLeft_64 (by decide) ?_
      obtain ⟨g9, e10, hf⟩ := ob1_s hf
      refine r_callV (As := [.int x2, .int x3, .int (1 : Int32)]) (rest := []) (st1 := []) (cells1 := 0) (slots1 := 0) (b := a0) (ci := 10) K (fun z => mX10_goes l z e10) dX10_isLeft_65 rfl (fun z => z _ _ ht) rfl ceX10_goes q_1186 q_1188 q_55 q_85 q_1189 ⟨Nat.le_of_ble_eq_true rfl, Nat.le_of_ble_eq_true rfl⟩ (Nat.le_of_ble_eq_true rfl) ⟨Nat.le_of_ble_eq_true rfl, Nat.le_of_ble_eq_true rfl⟩ ?_ rfl rfl rfl rfl
      refine r_iload K 0 dX10_isLeft_68 rfl ?_
      exact r_zret K dX10_isLeft_70 rfl hf (Nat.le_of_ble_eq_true rfl) (Nat.le_of_ble_eq_true rfl)
    · replace hf := ite_f hf c13
      refine r_iload K 4 dX10_isLeft_58 rfl ?_
      refine r_goto (tgt := 64) K dX10_isLeft_60 (by decide) ?_
      refine r_iconst (v := (1 : Int32)) K dX10_isLeft_64 (by decide) ?_
      obtain ⟨g11, e12, hf⟩ := ob1_s hf
      refine r_callV (As := [.int x2, .int r5, .int (1 : Int32)]) (rest := []) (st1 := []) (cells1 := 0) (slots1 := 0) (b := a0) (ci := 10) K (fun z => mX10_goes l z e12) dX10_isLeft_65 rfl (fun z => z _ _ ht) rfl ceX10_goes q_1186 q_1188 q_55 q_85 q_1189 ⟨Nat.le_of_ble_eq_true rfl, Nat.le_of_ble_eq_true rfl⟩ (Nat.le_of_ble_eq_true rfl) ⟨Nat.le_of_ble_eq_true rfl, Nat.le_of_ble_eq_true rfl⟩ ?_ rfl rfl rfl rfl
      refine r_iload K 0 dX10_isLeft_68 rfl ?_
      exact r_zret K dX10_isLeft_70 rfl hf (Nat.le_of_ble_eq_true rfl) (Nat.le_of_ble_eq_true rfl)
  refine r_if_lt (tgt := 48) K dX10_isLeft_27 (by decide) (fun c22 => ?_) (fun c22 => ?_)
  · replace hf := ite_t hf c22
    refine r_lv [2, 4, 5, 0] rfl ?_
    exact Jj7 g1 hf
  · replace hf := ite_f hf c22
    refine r_aload_n K 2 dX10_isLeft_30 rfl ?_
    refine r_iload_n K 3 dX10_isLeft_31 rfl ?_
    refine r_iload_n K 4 dX10_isLeft_32 rfl ?_
    refine r_iload K 0 dX10_isLeft_33 rfl ?_
    obtain ⟨r14, e15, hf⟩ := ob1_s hf
    refine r_callV (As := [.int x1, .int x2, .int r5]) (rest := []) (st1 := [.long r14]) (cells1 := 0) (slots1 := 0) (b := a0) (ci := 10) K (fun z => mX10_priceMore l z e15) dX10_isLeft_35 rfl (fun z => z _ _ ht) rfl ceX10_priceMore q_1178 q_1180 q_53 q_85 q_1181 ⟨Nat.le_of_ble_eq_true rfl, Nat.le_of_ble_eq_true rfl⟩ (Nat.le_of_ble_eq_true rfl) ⟨Nat.le_of_ble_eq_true rfl, Nat.le_of_ble_eq_true rfl⟩ ?_ rfl rfl rfl rfl
    refine r_lload K 1 dX10_isLeft_38 rfl ?_
    refine r_lif_ge (tgt := 48) K dX10_isLeft_40 dX10_isLeft_41 (by decide) (fun c21 => ?_) (fun c21 => ?_)
    · replace hf := ite_t hf c21
      refine r_lv [2, 4, 5, 0] rfl ?_
      exact Jj7 g1 hf
    · replace hf := ite_f hf c21
      refine r_iconst (v := (1 : Int32)) K dX10_isLeft_44 (by decide) ?_
      refine r_goto (tgt := 49) K dX10_isLeft_45 (by decide) ?_
      refine r_istore (lv1 := [(7, .int (1 : Int32)), (6, .int r5), (4, .long r3), (0, .ref a0), (1, .int x1), (2, .int x2), (3, .int x3)]) K dX10_isLeft_49 (by decide) rfl ?_
      refine r_aload_n K 3 dX10_isLeft_51 rfl ?_
      refine r_iload_n K 5 dX10_isLeft_52 rfl ?_
      refine r_iload K 0 dX10_isLeft_53 rfl ?_
      refine r_if_eq (tgt := 63) K dX10_isLeft_55 (by decide) (fun c20 => ?_) (fun c20 => ?_)
      · replace hf := ite_t hf c20
        refine r_iload_n K 6 dX10_isLeft_63 rfl ?_
        refine r_iconst (v := (1 : Int32)) K dX10_isLeft_64 (by decide) ?_
        obtain ⟨g16, e17, hf⟩ := ob1_s hf
        refine r_callV (As := [.int x2, .int x3, .int (1 : Int32)]) (rest := []) (st1 := []) (cells1 := 0) (slots1 := 0) (b := a0) (ci := 10) K (fun z => mX10_goes l z e17) dX10_isLeft_65 rfl (fun z => z _ _ ht) rfl ceX10_goes q_1186 q_1188 q_55 q_85 q_1189 ⟨Nat.le_of_ble_eq_true rfl, Nat.le_of_ble_eq_true rfl⟩ (Nat.le_of_ble_eq_true rfl) ⟨Nat.le_of_ble_eq_true rfl, Nat.le_of_ble_eq_true rfl⟩ ?_ rfl rfl rfl rfl
        refine r_iload K 0 dX10_isLeft_68 rfl ?_
        exact r_zret K dX10_isLeft_70 rfl hf (Nat.le_of_ble_eq_true rfl) (Nat.le_of_ble_eq_true rfl)
      · replace hf := ite_f hf c20
        refine r_iload K 1 dX10_isLeft_58 rfl ?_
        refine r_goto (tgt := 64) K dX10_isLeft_60 (by decide) ?_
        refine r_iconst (v := (1 : Int32)) K dX10_isLeft_64 (by decide) ?_
        obtain ⟨g18, e19, hf⟩ := ob1_s hf
        refine r_callV (As := [.int x2, .int r5, .int (1 : Int32)]) (rest := []) (st1 := []) (cells1 := 0) (slots1 := 0) (b := a0) (ci := 10) K (fun z => mX10_goes l z e19) dX10_isLeft_65 rfl (fun z => z _ _ ht) rfl ceX10_goes q_1186 q_1188 q_55 q_85 q_1189 ⟨Nat.le_of_ble_eq_true rfl, Nat.le_of_ble_eq_true rfl⟩ (Nat.le_of_ble_eq_true rfl) ⟨Nat.le_of_ble_eq_true rfl, Nat.le_of_ble_eq_true rfl⟩ ?_ rfl rfl rfl rfl
        refine r_iload K 0 dX10_isLeft_68 rfl ?_
        exact r_zret K dX10_isLeft_70 rfl hf (Nat.le_of_ble_eq_true rfl) (Nat.le_of_ble_eq_true rfl)
theorem ceX10_stepsOn : CE yX10_stepsOn 1 := ⟨by decide, by decide, by decide +kernel⟩
abbrev rmX10_stepsOn : Room := { frames := 7, cells := 0, slots := 0, locals := 184 }
def fX10_stepsOn_L9 (a0 : Nat) (x1 : Int32) (x2 : Int32) (k : AH → Option (Int32 × AH)) : Nat → Int32 → AH → Option (Int32 × AH)
  | 0, _, _ => none
  | n + 1, x3, h =>
    ob1 (gR h a0 10 10) fun b1 =>
    ob1 (aI h b1 0 x2) fun v3 =>
    if v3 ≤ x3 then
      k h
    else
      ob1 (gR h a0 10 17) fun b5 =>
      ob1 (aI h b5 0 (((256 : Int32) * x2) + x3)) fun v7 =>
      if v7 ≤ (0 : Int32) then
        bnd (x3 + (1 : Int32)) fun y9 =>
        fX10_stepsOn_L9 a0 x1 x2 k n y9 h
      else
        ob2 (fX10_isLeft a0 x1 x2 x3 h) fun r10 g11 =>
        if r10 = (0 : Int32) then
          bnd (x3 + (1 : Int32)) fun y13 =>
          fX10_stepsOn_L9 a0 x1 x2 k n y13 g11
        else
          some ((1 : Int32), g11)
def fX10_stepsOn_L2 (a0 : Nat) (x1 : Int32) (k : AH → Option (Int32 × AH)) : Nat → Int32 → AH → Option (Int32 × AH)
  | 0, _, _ => none
  | n + 1, x2, h =>
    if (3 : Int32) ≤ x2 then
      k h
    else
      fX10_stepsOn_L9 a0 x1 x2 (fun (g17 : AH) =>
        bnd (x2 + (1 : Int32)) fun y18 =>
        fX10_stepsOn_L2 a0 x1 k n y18 g17
      ) lf (0 : Int32) h
def fX10_stepsOn (a0 : Nat) (x1 : Int32) (h : AH) : Option (Int32 × AH) :=
  fX10_stepsOn_L2 a0 x1 (fun (g20 : AH) =>
    some ((0 : Int32), g20)
  ) lf (0 : Int32) h
set_option maxHeartbeats 4000000 in
set_option maxRecDepth 100000 in
theorem wX10_stepsOn_L9 {p : Program} {l : Launch} {e : Env} {s : State} {m : MethodId} {args : Array Value} {below : List Frame} {meth : Method} {c : Code} {G : GG} {b0 : Nat} {h0 : AH} {a0 : Nat} {x1 : Int32} {x2 : Int32} {rr : Int32} {hh : AH} (K : CX p s m args meth c cX10_stepsOn 4 RX10 (some .boolean) G b0) (ht : isO h0 a0 10) (k : AH → Option (Int32 × AH)) (hk : ∀ (h : AH), k h = some (rr, hh) → WA p l e rmX10_stepsOn s m args below meth c (MQ below (QG G b0 h0 (some (.int rr)) hh) args s (rmX10_stepsOn).cells (rmX10_stepsOn).slots (AB b0)) G b0 4 h0 0 0 h 52 [(0, .ref a0), (1, .int x1), (2, .int x2)] []) : ∀ (n : Nat) (x3 : Int32) (h : AH), fX10_stepsOn_L9 a0 x1 x2 k n x3 h = some (rr, hh) → WA p l e rmX10_stepsOn s m args below meth c (MQ below (QG G b0 h0 (some (.int rr)) hh) args s (rmX10_stepsOn).cells (rmX10_stepsOn).slots (AB b0)) G b0 4 h0 0 0 h 9 [(0, .ref a0), (1, .int x1), (2, .int x2), (3, .int x3)] [] := by
  intro n
  induction n with
  | zero =>
    intro x3 h hf
    rw [fX10_stepsOn_L9] at hf
    cases hf
  | succ n ih =>
    intro x3 h hf
    rw [fX10_stepsOn_L9] at hf
    refine r_iload_n K 3 dX10_stepsOn_9 rfl ?_
    refine r_aload_n K 0 dX10_stepsOn_10 rfl ?_
    obtain ⟨b1, e2, hf⟩ := ob1_s hf
    refine r_getR (ci := 10) (k := 10) K dX10_stepsOn_11 inX10 rfl (by decide) rfl q_916 e2 ?_
    refine r_iload_n K 2 dX10_stepsOn_14 rfl ?_
    obtain ⟨v3, e4, hf⟩ := ob1_s hf
    refine r_iaload K dX10_stepsOn_15 e4 ?_
    refine r_icmp_ge (tgt := 52) K dX10_stepsOn_16 (by decide) (fun c16 => ?_) (fun c16 => ?_)
    · replace hf := ite_t hf c16
      refine r_lv [0, 1, 2] rfl ?_
      exact hk h hf
    · replace hf := ite_f hf c16
      refine r_aload_n K 0 dX10_stepsOn_19 rfl ?_
      obtain ⟨b5, e6, hf⟩ := ob1_s hf
      refine r_getR (ci := 10) (k := 17) K dX10_stepsOn_20 inX10 rfl (by decide) rfl q_923 e6 ?_
      refine r_sipush (v := (256 : Int32)) K dX10_stepsOn_23 (by decide) ?_
      refine r_iload_n K 2 dX10_stepsOn_26 rfl ?_
      refine r_imul K dX10_stepsOn_27 ?_
      refine r_iload_n K 3 dX10_stepsOn_28 rfl ?_
      refine r_iadd K dX10_stepsOn_29 ?_
      obtain ⟨v7, e8, hf⟩ := ob1_s hf
      refine r_iaload K dX10_stepsOn_30 e8 ?_
      refine r_if_le (tgt := 46) K dX10_stepsOn_31 (by decide) (fun c15 => ?_) (fun c15 => ?_)
      · replace hf := ite_t hf c15
        obtain ⟨y9, ey9, hf⟩ := bnd_g hf
        refine r_iinc (lv1 := [(3, .int y9), (0, .ref a0), (1, .int x1), (2, .int x2)]) K 3 dX10_stepsOn_46 rfl (by rw [ey9]; rfl) (by decide) rfl ?_
        refine r_goto (tgt := 9) K dX10_stepsOn_49 (by decide) ?_
        refine r_lv [1, 2, 3, 0] rfl ?_
        exact ih y9 h hf
      · replace hf := ite_f hf c15
        refine r_aload_n K 0 dX10_stepsOn_34 rfl ?_
        refine r_iload_n K 1 dX10_stepsOn_35 rfl ?_
        refine r_iload_n K 2 dX10_stepsOn_36 rfl ?_
        refine r_iload_n K 3 dX10_stepsOn_37 rfl ?_
        obtain ⟨r10, g11, e12, hf⟩ := ob2_s hf
        refine r_callV (As := [.int x1, .int x2, .int x3]) (rest := []) (st1 := [.int r10]) (cells1 := 0) (slots1 := 0) (b := a0) (ci := 10) K (fun z => mX10_isLeft l z e12) dX10_stepsOn_38 rfl (fun z => z _ _ ht) rfl ceX10_isLeft q_1194 q_1196 q_57 q_85 q_1197 ⟨Nat.le_of_ble_eq_true rfl, Nat.le_of_ble_eq_true rfl⟩ (Nat.le_of_ble_eq_true rfl) ⟨Nat.le_of_ble_eq_true rfl, Nat.le_of_ble_eq_true rfl⟩ ?_ rfl rfl rfl rfl
        refine r_if_eq (tgt := 46) K dX10_stepsOn_41 (by decide) (fun c14 => ?_) (fun c14 => ?_)
        · replace hf := ite_t hf c14
          obtain ⟨y13, ey13, hf⟩ := bnd_g hf
          refine r_iinc (lv1 := [(3, .int y13), (0, .ref a0), (1, .int x1), (2, .int x2)]) K 3 dX10_stepsOn_46 rfl (by rw [ey13]; rfl) (by decide) rfl ?_
          refine r_goto (tgt := 9) K dX10_stepsOn_49 (by decide) ?_
          refine r_lv [1, 2, 3, 0] rfl ?_
          exact ih y13 g11 hf
        · replace hf := ite_f hf c14
          refine r_iconst (v := (1 : Int32)) K dX10_stepsOn_44 (by decide) ?_
          exact r_zret K dX10_stepsOn_45 rfl hf (Nat.le_of_ble_eq_true rfl) (Nat.le_of_ble_eq_true rfl)
set_option maxHeartbeats 4000000 in
set_option maxRecDepth 100000 in
theorem wX10_stepsOn_L2 {p : Program} {l : Launch} {e : Env} {s : State} {m : MethodId} {args : Array Value} {below : List Frame} {meth : Method} {c : Code} {G : GG} {b0 : Nat} {h0 : AH} {a0 : Nat} {x1 : Int32} {rr : Int32} {hh : AH} (K : CX p s m args meth c cX10_stepsOn 4 RX10 (some .boolean) G b0) (ht : isO h0 a0 10) (k : AH → Option (Int32 × AH)) (hk : ∀ (h : AH), k h = some (rr, hh) → WA p l e rmX10_stepsOn s m args below meth c (MQ below (QG G b0 h0 (some (.int rr)) hh) args s (rmX10_stepsOn).cells (rmX10_stepsOn).slots (AB b0)) G b0 4 h0 0 0 h 58 [] []) : ∀ (n : Nat) (x2 : Int32) (h : AH), fX10_stepsOn_L2 a0 x1 k n x2 h = some (rr, hh) → WA p l e rmX10_stepsOn s m args below meth c (MQ below (QG G b0 h0 (some (.int rr)) hh) args s (rmX10_stepsOn).cells (rmX10_stepsOn).slots (AB b0)) G b0 4 h0 0 0 h 2 [(0, .ref a0), (1, .int x1), (2, .int x2)] [] := by
  intro n
  induction n with
  | zero =>
    intro x2 h hf
    rw [fX10_stepsOn_L2] at hf
    cases hf
  | succ n ih =>
    intro x2 h hf
    rw [fX10_stepsOn_L2] at hf
    refine r_iload_n K 2 dX10_stepsOn_2 rfl ?_
    refine r_iconst (v := (3 : Int32)) K dX10_stepsOn_3 (by decide) ?_
    refine r_icmp_ge (tgt := 58) K dX10_stepsOn_4 (by decide) (fun c19 => ?_) (fun c19 => ?_)
    · replace hf := ite_t hf c19
      refine r_lv [] rfl ?_
      exact hk h hf
    · replace hf := ite_f hf c19
      refine r_iconst (v := (0 : Int32)) K dX10_stepsOn_7 (by decide) ?_
      refine r_istore_n (lv1 := [(3, .int (0 : Int32)), (0, .ref a0), (1, .int x1), (2, .int x2)]) K dX10_stepsOn_8 (by decide) rfl ?_
      refine r_lv [1, 2, 3, 0] rfl ?_
      refine wX10_stepsOn_L9 K ht _ (fun g17 hf => ?_) lf (0 : Int32) h hf
      obtain ⟨y18, ey18, hf⟩ := bnd_g hf
      refine r_iinc (lv1 := [(2, .int y18), (0, .ref a0), (1, .int x1)]) K 2 dX10_stepsOn_52 rfl (by rw [ey18]; rfl) (by decide) rfl ?_
      refine r_goto (tgt := 2) K dX10_stepsOn_55 (by decide) ?_
      refine r_lv [1, 2, 0] rfl ?_
      exact ih y18 g17 hf
set_option maxHeartbeats 4000000 in
set_option maxRecDepth 100000 in
theorem mX10_stepsOn (l : Launch) {G : GG} {b0 : Nat} {h : AH} {a0 : Nat} {x1 : Int32} {rr : Int32} {hh : AH} (ht : isO h a0 10) (hf : fX10_stepsOn a0 x1 h = some (rr, hh)) : MM l yX10_stepsOn cX10_stepsOn 4 (some .boolean) rmX10_stepsOn G b0 h [.ref a0, .int x1] (some (.int rr)) hh := by
  refine MM.of (own := RX10) (lv0 := [(0, .ref a0), (1, .int x1)]) (by decide) rfl (Nat.le_of_ble_eq_true rfl) rfl ?_
  intro p e s m args below meth c K hnm
  unfold fX10_stepsOn at hf
  refine r_iconst (v := (0 : Int32)) K dX10_stepsOn_0 (by decide) ?_
  refine r_istore_n (lv1 := [(2, .int (0 : Int32)), (0, .ref a0), (1, .int x1)]) K dX10_stepsOn_1 (by decide) rfl ?_
  refine r_lv [1, 2, 0] rfl ?_
  refine wX10_stepsOn_L2 K ht _ (fun g20 hf => ?_) lf (0 : Int32) h hf
  refine r_iconst (v := (0 : Int32)) K dX10_stepsOn_58 (by decide) ?_
  exact r_zret K dX10_stepsOn_59 rfl hf (Nat.le_of_ble_eq_true rfl) (Nat.le_of_ble_eq_true rfl)
theorem ceX10_steady : CE yX10_steady 1 := ⟨by decide, by decide, by decide +kernel⟩
abbrev rmX10_steady : Room := { frames := 8, cells := 0, slots := 0, locals := 207 }
def fX10_steady_L6 (a0 : Nat) (x1 : Int32) (k : AH → Option (Int32 × AH)) : Nat → Int32 → AH → Option (Int32 × AH)
  | 0, _, _ => none
  | n + 1, x2, h =>
    if (13 : Int32) ≤ x2 then
      k h
    else
      ob1 (gR h a0 10 16) fun b3 =>
      ob1 (sI h b3 x2 (0 : Int32)) fun g5 =>
      bnd (x2 + (1 : Int32)) fun y7 =>
      fX10_steady_L6 a0 x1 k n y7 g5
def fX10_steady_L27 (a0 : Nat) (x1 : Int32) (k : AH → Option (Int32 × AH)) : Nat → Int32 → AH → Option (Int32 × AH)
  | 0, _, _ => none
  | n + 1, x2, h =>
    if (768 : Int32) ≤ x2 then
      k h
    else
      ob1 (gR h a0 10 17) fun b10 =>
      ob1 (sI h b10 x2 (0 : Int32)) fun g12 =>
      bnd (x2 + (1 : Int32)) fun y14 =>
      fX10_steady_L27 a0 x1 k n y14 g12
def fX10_steady_L54 (a0 : Nat) (x1 : Int32) (h : AH) (k : Option (Int32 × AH)) : Nat → Int32 → Option (Int32 × AH)
  | 0, _ => none
  | n + 1, x2 =>
    if (3 : Int32) ≤ x2 then
      k
    else
      ob1 (fX10_ofClass a0 x2 (1 : Int32) h) fun r19 =>
      if r19 ≤ (0 : Int64) then
        bnd (x2 + (1 : Int32)) fun y21 =>
        fX10_steady_L54 a0 x1 h k n y21
      else
        ob1 (gR h a0 10 10) fun b22 =>
        ob1 (aI h b22 0 x2) fun v24 =>
        if v24 = (0 : Int32) then
          some ((0 : Int32), h)
        else
          bnd (x2 + (1 : Int32)) fun y26 =>
          fX10_steady_L54 a0 x1 h k n y26
def fX10_steady_L96 (a0 : Nat) (x1 : Int32) (x2 : Int32) (k : AH → Option (Int32 × AH)) : Nat → Int32 → AH → Option (Int32 × AH)
  | 0, _, _ => none
  | n + 1, x3, h =>
    ob1 (fX10_ofClass a0 x2 (1 : Int32) h) fun r30 =>
    if r30 ≤ (Int32.toInt64 x3) then
      k h
    else
      ob1 (fX10_cheapest a0 x1 x2 (-1 : Int32) h) fun r32 =>
      ob1 (fX10_goes a0 x2 r32 (1 : Int32) h) fun g34 =>
      bnd (x3 + (1 : Int32)) fun y36 =>
      fX10_steady_L96 a0 x1 x2 k n y36 g34
def fX10_steady_L89 (a0 : Nat) (x1 : Int32) (k : AH → Option (Int32 × AH)) : Nat → Int32 → AH → Option (Int32 × AH)
  | 0, _, _ => none
  | n + 1, x2, h =>
    if (3 : Int32) ≤ x2 then
      k h
    else
      fX10_steady_L96 a0 x1 x2 (fun (g38 : AH) =>
        bnd (x2 + (1 : Int32)) fun y39 =>
        fX10_steady_L89 a0 x1 k n y39 g38
      ) lf (0 : Int32) h
def fX10_steady_L133 (a0 : Nat) (x1 : Int32) (k : AH → Option (Int32 × AH)) : Nat → AH → Option (Int32 × AH)
  | 0, _ => none
  | n + 1, h =>
    ob1 (gI h a0 10 18) fun v42 =>
    if (400 : Int32) ≤ v42 then
      k h
    else
      ob2 (fX10_stepsOn a0 x1 h) fun r44 g45 =>
      if r44 = (0 : Int32) then
        k g45
      else
        ob1 (gI g45 a0 10 18) fun v47 =>
        ob1 (pV g45 a0 10 18 (.int (v47 + (1 : Int32)))) fun g49 =>
        fX10_steady_L133 a0 x1 k n g49
def fX10_steady (a0 : Nat) (x1 : Int32) (h : AH) : Option (Int32 × AH) :=
  ob1 (fX10_layAllWays a0 h) fun g1 =>
  fX10_steady_L6 a0 x1 (fun (g9 : AH) =>
    fX10_steady_L27 a0 x1 (fun (g16 : AH) =>
      ob1 (pV g16 a0 10 18 (.int (0 : Int32))) fun g17 =>
      fX10_steady_L54 a0 x1 g17 (
        fX10_steady_L89 a0 x1 (fun (g41 : AH) =>
          fX10_steady_L133 a0 x1 (fun (g53 : AH) =>
            some ((1 : Int32), g53)
          ) lf g41
        ) lf (0 : Int32) g17
      ) lf (0 : Int32)
    ) lf (0 : Int32) g9
  ) lf (0 : Int32) g1
set_option maxHeartbeats 4000000 in
set_option maxRecDepth 100000 in
theorem wX10_steady_L6 {p : Program} {l : Launch} {e : Env} {s : State} {m : MethodId} {args : Array Value} {below : List Frame} {meth : Method} {c : Code} {G : GG} {b0 : Nat} {h0 : AH} {a0 : Nat} {x1 : Int32} {rr : Int32} {hh : AH} (K : CX p s m args meth c cX10_steady 4 RX10 (some .boolean) G b0) (ht : isO h0 a0 10) (k : AH → Option (Int32 × AH)) (hk : ∀ (h : AH), k h = some (rr, hh) → WA p l e rmX10_steady s m args below meth c (MQ below (QG G b0 h0 (some (.int rr)) hh) args s (rmX10_steady).cells (rmX10_steady).slots (AB b0)) G b0 4 h0 0 0 h 25 [(0, .ref a0), (1, .int x1)] []) : ∀ (n : Nat) (x2 : Int32) (h : AH), fX10_steady_L6 a0 x1 k n x2 h = some (rr, hh) → WA p l e rmX10_steady s m args below meth c (MQ below (QG G b0 h0 (some (.int rr)) hh) args s (rmX10_steady).cells (rmX10_steady).slots (AB b0)) G b0 4 h0 0 0 h 6 [(0, .ref a0), (1, .int x1), (2, .int x2)] [] := by
  intro n
  induction n with
  | zero =>
    intro x2 h hf
    rw [fX10_steady_L6] at hf
    cases hf
  | succ n ih =>
    intro x2 h hf
    rw [fX10_steady_L6] at hf
    refine r_iload_n K 2 dX10_steady_6 rfl ?_
    refine r_bipush (v := (13 : Int32)) K dX10_steady_7 (by decide) ?_
    refine r_icmp_ge (tgt := 25) K dX10_steady_9 (by decide) (fun c8 => ?_) (fun c8 => ?_)
    · replace hf := ite_t hf c8
      refine r_lv [0, 1] rfl ?_
      exact hk h hf
    · replace hf := ite_f hf c8
      refine r_aload_n K 0 dX10_steady_12 rfl ?_
      obtain ⟨b3, e4, hf⟩ := ob1_s hf
      refine r_getR (ci := 10) (k := 16) K dX10_steady_13 inX10 rfl (by decide) rfl q_922 e4 ?_
      refine r_iload_n K 2 dX10_steady_16 rfl ?_
      refine r_iconst (v := (0 : Int32)) K dX10_steady_17 (by decide) ?_
      obtain ⟨g5, e6, hf⟩ := ob1_s hf
      refine r_iastore K dX10_steady_18 e6 ?_
      obtain ⟨y7, ey7, hf⟩ := bnd_g hf
      refine r_iinc (lv1 := [(2, .int y7), (0, .ref a0), (1, .int x1)]) K 2 dX10_steady_19 rfl (by rw [ey7]; rfl) (by decide) rfl ?_
      refine r_goto (tgt := 6) K dX10_steady_22 (by decide) ?_
      refine r_lv [1, 2, 0] rfl ?_
      exact ih y7 g5 hf
set_option maxHeartbeats 4000000 in
set_option maxRecDepth 100000 in
theorem wX10_steady_L27 {p : Program} {l : Launch} {e : Env} {s : State} {m : MethodId} {args : Array Value} {below : List Frame} {meth : Method} {c : Code} {G : GG} {b0 : Nat} {h0 : AH} {a0 : Nat} {x1 : Int32} {rr : Int32} {hh : AH} (K : CX p s m args meth c cX10_steady 4 RX10 (some .boolean) G b0) (ht : isO h0 a0 10) (k : AH → Option (Int32 × AH)) (hk : ∀ (h : AH), k h = some (rr, hh) → WA p l e rmX10_steady s m args below meth c (MQ below (QG G b0 h0 (some (.int rr)) hh) args s (rmX10_steady).cells (rmX10_steady).slots (AB b0)) G b0 4 h0 0 0 h 47 [(0, .ref a0), (1, .int x1)] []) : ∀ (n : Nat) (x2 : Int32) (h : AH), fX10_steady_L27 a0 x1 k n x2 h = some (rr, hh) → WA p l e rmX10_steady s m args below meth c (MQ below (QG G b0 h0 (some (.int rr)) hh) args s (rmX10_steady).cells (rmX10_steady).slots (AB b0)) G b0 4 h0 0 0 h 27 [(0, .ref a0), (1, .int x1), (2, .int x2)] [] := by
  intro n
  induction n with
  | zero =>
    intro x2 h hf
    rw [fX10_steady_L27] at hf
    cases hf
  | succ n ih =>
    intro x2 h hf
    rw [fX10_steady_L27] at hf
    refine r_iload_n K 2 dX10_steady_27 rfl ?_
    refine r_sipush (v := (768 : Int32)) K dX10_steady_28 (by decide) ?_
    refine r_icmp_ge (tgt := 47) K dX10_steady_31 (by decide) (fun c15 => ?_) (fun c15 => ?_)
    · replace hf := ite_t hf c15
      refine r_lv [0, 1] rfl ?_
      exact hk h hf
    · replace hf := ite_f hf c15
      refine r_aload_n K 0 dX10_steady_34 rfl ?_
      obtain ⟨b10, e11, hf⟩ := ob1_s hf
      refine r_getR (ci := 10) (k := 17) K dX10_steady_35 inX10 rfl (by decide) rfl q_923 e11 ?_
      refine r_iload_n K 2 dX10_steady_38 rfl ?_
      refine r_iconst (v := (0 : Int32)) K dX10_steady_39 (by decide) ?_
      obtain ⟨g12, e13, hf⟩ := ob1_s hf
      refine r_iastore K dX10_steady_40 e13 ?_
      obtain ⟨y14, ey14, hf⟩ := bnd_g hf
      refine r_iinc (lv1 := [(2, .int y14), (0, .ref a0), (1, .int x1)]) K 2 dX10_steady_41 rfl (by rw [ey14]; rfl) (by decide) rfl ?_
      refine r_goto (tgt := 27) K dX10_steady_44 (by decide) ?_
      refine r_lv [1, 2, 0] rfl ?_
      exact ih y14 g12 hf
set_option maxHeartbeats 4000000 in
set_option maxRecDepth 100000 in
theorem wX10_steady_L54 {p : Program} {l : Launch} {e : Env} {s : State} {m : MethodId} {args : Array Value} {below : List Frame} {meth : Method} {c : Code} {G : GG} {b0 : Nat} {h0 : AH} {a0 : Nat} {x1 : Int32} {h : AH} {rr : Int32} {hh : AH} (K : CX p s m args meth c cX10_steady 4 RX10 (some .boolean) G b0) (ht : isO h0 a0 10) (k : Option (Int32 × AH)) (hk : k = some (rr, hh) → WA p l e rmX10_steady s m args below meth c (MQ below (QG G b0 h0 (some (.int rr)) hh) args s (rmX10_steady).cells (rmX10_steady).slots (AB b0)) G b0 4 h0 0 0 h 87 [(0, .ref a0), (1, .int x1)] []) : ∀ (n : Nat) (x2 : Int32), fX10_steady_L54 a0 x1 h k n x2 = some (rr, hh) → WA p l e rmX10_steady s m args below meth c (MQ below (QG G b0 h0 (some (.int rr)) hh) args s (rmX10_steady).cells (rmX10_steady).slots (AB b0)) G b0 4 h0 0 0 h 54 [(0, .ref a0), (1, .int x1), (2, .int x2)] [] := by
  intro n
  induction n with
  | zero =>
    intro x2 hf
    rw [fX10_steady_L54] at hf
    cases hf
  | succ n ih =>
    intro x2 hf
    rw [fX10_steady_L54] at hf
    refine r_iload_n K 2 dX10_steady_54 rfl ?_
    refine r_iconst (v := (3 : Int32)) K dX10_steady_55 (by decide) ?_
    refine r_icmp_ge (tgt := 87) K dX10_steady_56 (by decide) (fun c29 => ?_) (fun c29 => ?_)
    · replace hf := ite_t hf c29
      refine r_lv [0, 1] rfl ?_
      exact hk  hf
    · replace hf := ite_f hf c29
      refine r_aload_n K 0 dX10_steady_59 rfl ?_
      refine r_iload_n K 2 dX10_steady_60 rfl ?_
      refine r_iconst (v := (1 : Int32)) K dX10_steady_61 (by decide) ?_
      obtain ⟨r19, e20, hf⟩ := ob1_s hf
      refine r_callV (As := [.int x2, .int (1 : Int32)]) (rest := []) (st1 := [.long r19]) (cells1 := 0) (slots1 := 0) (b := a0) (ci := 10) K (fun z => mX10_ofClass l z e20) dX10_steady_62 rfl (fun z => z _ _ ht) rfl ceX10_ofClass q_1086 q_1088 q_39 q_85 q_1089 ⟨Nat.le_of_ble_eq_true rfl, Nat.le_of_ble_eq_true rfl⟩ (Nat.le_of_ble_eq_true rfl) ⟨Nat.le_of_ble_eq_true rfl, Nat.le_of_ble_eq_true rfl⟩ ?_ rfl rfl rfl rfl
      refine r_lconst (v := (0 : Int64)) K dX10_steady_65 (by decide) ?_
      refine r_lif_le (tgt := 81) K dX10_steady_66 dX10_steady_67 (by decide) (fun c28 => ?_) (fun c28 => ?_)
      · replace hf := ite_t hf c28
        obtain ⟨y21, ey21, hf⟩ := bnd_g hf
        refine r_iinc (lv1 := [(2, .int y21), (0, .ref a0), (1, .int x1)]) K 2 dX10_steady_81 rfl (by rw [ey21]; rfl) (by decide) rfl ?_
        refine r_goto (tgt := 54) K dX10_steady_84 (by decide) ?_
        refine r_lv [1, 2, 0] rfl ?_
        exact ih y21 hf
      · replace hf := ite_f hf c28
        refine r_aload_n K 0 dX10_steady_70 rfl ?_
        obtain ⟨b22, e23, hf⟩ := ob1_s hf
        refine r_getR (ci := 10) (k := 10) K dX10_steady_71 inX10 rfl (by decide) rfl q_916 e23 ?_
        refine r_iload_n K 2 dX10_steady_74 rfl ?_
        obtain ⟨v24, e25, hf⟩ := ob1_s hf
        refine r_iaload K dX10_steady_75 e25 ?_
        refine r_if_ne (tgt := 81) K dX10_steady_76 (by decide) (fun c27 => ?_) (fun c27 => ?_)
        · replace hf := ite_f hf c27
          obtain ⟨y26, ey26, hf⟩ := bnd_g hf
          refine r_iinc (lv1 := [(2, .int y26), (0, .ref a0), (1, .int x1)]) K 2 dX10_steady_81 rfl (by rw [ey26]; rfl) (by decide) rfl ?_
          refine r_goto (tgt := 54) K dX10_steady_84 (by decide) ?_
          refine r_lv [1, 2, 0] rfl ?_
          exact ih y26 hf
        · replace hf := ite_t hf c27
          refine r_iconst (v := (0 : Int32)) K dX10_steady_79 (by decide) ?_
          exact r_zret K dX10_steady_80 rfl hf (Nat.le_of_ble_eq_true rfl) (Nat.le_of_ble_eq_true rfl)
set_option maxHeartbeats 4000000 in
set_option maxRecDepth 100000 in
theorem wX10_steady_L96 {p : Program} {l : Launch} {e : Env} {s : State} {m : MethodId} {args : Array Value} {below : List Frame} {meth : Method} {c : Code} {G : GG} {b0 : Nat} {h0 : AH} {a0 : Nat} {x1 : Int32} {x2 : Int32} {rr : Int32} {hh : AH} (K : CX p s m args meth c cX10_steady 4 RX10 (some .boolean) G b0) (ht : isO h0 a0 10) (k : AH → Option (Int32 × AH)) (hk : ∀ (h : AH), k h = some (rr, hh) → WA p l e rmX10_steady s m args below meth c (MQ below (QG G b0 h0 (some (.int rr)) hh) args s (rmX10_steady).cells (rmX10_steady).slots (AB b0)) G b0 4 h0 0 0 h 127 [(0, .ref a0), (1, .int x1), (2, .int x2)] []) : ∀ (n : Nat) (x3 : Int32) (h : AH), fX10_steady_L96 a0 x1 x2 k n x3 h = some (rr, hh) → WA p l e rmX10_steady s m args below meth c (MQ below (QG G b0 h0 (some (.int rr)) hh) args s (rmX10_steady).cells (rmX10_steady).slots (AB b0)) G b0 4 h0 0 0 h 96 [(0, .ref a0), (1, .int x1), (2, .int x2), (3, .int x3)] [] := by
  intro n
  induction n with
  | zero =>
    intro x3 h hf
    rw [fX10_steady_L96] at hf
    cases hf
  | succ n ih =>
    intro x3 h hf
    rw [fX10_steady_L96] at hf
    refine r_iload_n K 3 dX10_steady_96 rfl ?_
    refine r_i2l K dX10_steady_97 ?_
    refine r_aload_n K 0 dX10_steady_98 rfl ?_
    refine r_iload_n K 2 dX10_steady_99 rfl ?_
    refine r_iconst (v := (1 : Int32)) K dX10_steady_100 (by decide) ?_
    obtain ⟨r30, e31, hf⟩ := ob1_s hf
    refine r_callV (As := [.int x2, .int (1 : Int32)]) (rest := [.long (Int32.toInt64 x3)]) (st1 := [.long r30, .long (Int32.toInt64 x3)]) (cells1 := 0) (slots1 := 0) (b := a0) (ci := 10) K (fun z => mX10_ofClass l z e31) dX10_steady_101 rfl (fun z => z _ _ ht) rfl ceX10_ofClass q_1086 q_1088 q_39 q_85 q_1089 ⟨Nat.le_of_ble_eq_true rfl, Nat.le_of_ble_eq_true rfl⟩ (Nat.le_of_ble_eq_true rfl) ⟨Nat.le_of_ble_eq_true rfl, Nat.le_of_ble_eq_true rfl⟩ ?_ rfl rfl rfl rfl
    refine r_lif_ge (tgt := 127) K dX10_steady_104 dX10_steady_105 (by decide) (fun c37 => ?_) (fun c37 => ?_)
    · replace hf := ite_t hf c37
      refine r_lv [0, 1, 2] rfl ?_
      exact hk h hf
    · replace hf := ite_f hf c37
      refine r_aload_n K 0 dX10_steady_108 rfl ?_
      refine r_iload_n K 2 dX10_steady_109 rfl ?_
      refine r_aload_n K 0 dX10_steady_110 rfl ?_
      refine r_iload_n K 1 dX10_steady_111 rfl ?_
      refine r_iload_n K 2 dX10_steady_112 rfl ?_
      refine r_iconst (v := (-1 : Int32)) K dX10_steady_113 (by decide) ?_
      obtain ⟨r32, e33, hf⟩ := ob1_s hf
      refine r_callV (As := [.int x1, .int x2, .int (-1 : Int32)]) (rest := [.int x2, .ref a0]) (st1 := [.int r32, .int x2, .ref a0]) (cells1 := 0) (slots1 := 0) (b := a0) (ci := 10) K (fun z => mX10_cheapest l z e33) dX10_steady_114 rfl (fun z => z _ _ ht) rfl ceX10_cheapest q_1173 q_1175 q_52 q_85 q_1176 ⟨Nat.le_of_ble_eq_true rfl, Nat.le_of_ble_eq_true rfl⟩ (Nat.le_of_ble_eq_true rfl) ⟨Nat.le_of_ble_eq_true rfl, Nat.le_of_ble_eq_true rfl⟩ ?_ rfl rfl rfl rfl
      refine r_iconst (v := (1 : Int32)) K dX10_steady_117 (by decide) ?_
      obtain ⟨g34, e35, hf⟩ := ob1_s hf
      refine r_callV (As := [.int x2, .int r32, .int (1 : Int32)]) (rest := []) (st1 := []) (cells1 := 0) (slots1 := 0) (b := a0) (ci := 10) K (fun z => mX10_goes l z e35) dX10_steady_118 rfl (fun z => z _ _ ht) rfl ceX10_goes q_1186 q_1188 q_55 q_85 q_1189 ⟨Nat.le_of_ble_eq_true rfl, Nat.le_of_ble_eq_true rfl⟩ (Nat.le_of_ble_eq_true rfl) ⟨Nat.le_of_ble_eq_true rfl, Nat.le_of_ble_eq_true rfl⟩ ?_ rfl rfl rfl rfl
      obtain ⟨y36, ey36, hf⟩ := bnd_g hf
      refine r_iinc (lv1 := [(3, .int y36), (0, .ref a0), (1, .int x1), (2, .int x2)]) K 3 dX10_steady_121 rfl (by rw [ey36]; rfl) (by decide) rfl ?_
      refine r_goto (tgt := 96) K dX10_steady_124 (by decide) ?_
      refine r_lv [1, 2, 3, 0] rfl ?_
      exact ih y36 g34 hf
set_option maxHeartbeats 4000000 in
set_option maxRecDepth 100000 in
theorem wX10_steady_L89 {p : Program} {l : Launch} {e : Env} {s : State} {m : MethodId} {args : Array Value} {below : List Frame} {meth : Method} {c : Code} {G : GG} {b0 : Nat} {h0 : AH} {a0 : Nat} {x1 : Int32} {rr : Int32} {hh : AH} (K : CX p s m args meth c cX10_steady 4 RX10 (some .boolean) G b0) (ht : isO h0 a0 10) (k : AH → Option (Int32 × AH)) (hk : ∀ (h : AH), k h = some (rr, hh) → WA p l e rmX10_steady s m args below meth c (MQ below (QG G b0 h0 (some (.int rr)) hh) args s (rmX10_steady).cells (rmX10_steady).slots (AB b0)) G b0 4 h0 0 0 h 133 [(0, .ref a0), (1, .int x1)] []) : ∀ (n : Nat) (x2 : Int32) (h : AH), fX10_steady_L89 a0 x1 k n x2 h = some (rr, hh) → WA p l e rmX10_steady s m args below meth c (MQ below (QG G b0 h0 (some (.int rr)) hh) args s (rmX10_steady).cells (rmX10_steady).slots (AB b0)) G b0 4 h0 0 0 h 89 [(0, .ref a0), (1, .int x1), (2, .int x2)] [] := by
  intro n
  induction n with
  | zero =>
    intro x2 h hf
    rw [fX10_steady_L89] at hf
    cases hf
  | succ n ih =>
    intro x2 h hf
    rw [fX10_steady_L89] at hf
    refine r_iload_n K 2 dX10_steady_89 rfl ?_
    refine r_iconst (v := (3 : Int32)) K dX10_steady_90 (by decide) ?_
    refine r_icmp_ge (tgt := 133) K dX10_steady_91 (by decide) (fun c40 => ?_) (fun c40 => ?_)
    · replace hf := ite_t hf c40
      refine r_lv [0, 1] rfl ?_
      exact hk h hf
    · replace hf := ite_f hf c40
      refine r_iconst (v := (0 : Int32)) K dX10_steady_94 (by decide) ?_
      refine r_istore_n (lv1 := [(3, .int (0 : Int32)), (0, .ref a0), (1, .int x1), (2, .int x2)]) K dX10_steady_95 (by decide) rfl ?_
      refine r_lv [1, 2, 3, 0] rfl ?_
      refine wX10_steady_L96 K ht _ (fun g38 hf => ?_) lf (0 : Int32) h hf
      obtain ⟨y39, ey39, hf⟩ := bnd_g hf
      refine r_iinc (lv1 := [(2, .int y39), (0, .ref a0), (1, .int x1)]) K 2 dX10_steady_127 rfl (by rw [ey39]; rfl) (by decide) rfl ?_
      refine r_goto (tgt := 89) K dX10_steady_130 (by decide) ?_
      refine r_lv [1, 2, 0] rfl ?_
      exact ih y39 g38 hf
set_option maxHeartbeats 4000000 in
set_option maxRecDepth 100000 in
theorem wX10_steady_L133 {p : Program} {l : Launch} {e : Env} {s : State} {m : MethodId} {args : Array Value} {below : List Frame} {meth : Method} {c : Code} {G : GG} {b0 : Nat} {h0 : AH} {a0 : Nat} {x1 : Int32} {rr : Int32} {hh : AH} (K : CX p s m args meth c cX10_steady 4 RX10 (some .boolean) G b0) (ht : isO h0 a0 10) (k : AH → Option (Int32 × AH)) (hk : ∀ (h : AH), k h = some (rr, hh) → WA p l e rmX10_steady s m args below meth c (MQ below (QG G b0 h0 (some (.int rr)) hh) args s (rmX10_steady).cells (rmX10_steady).slots (AB b0)) G b0 4 h0 0 0 h 164 [] []) : ∀ (n : Nat) (h : AH), fX10_steady_L133 a0 x1 k n h = some (rr, hh) → WA p l e rmX10_steady s m args below meth c (MQ below (QG G b0 h0 (some (.int rr)) hh) args s (rmX10_steady).cells (rmX10_steady).slots (AB b0)) G b0 4 h0 0 0 h 133 [(0, .ref a0), (1, .int x1)] [] := by
  intro n
  induction n with
  | zero =>
    intro h hf
    rw [fX10_steady_L133] at hf
    cases hf
  | succ n ih =>
    intro h hf
    rw [fX10_steady_L133] at hf
    refine r_aload_n K 0 dX10_steady_133 rfl ?_
    obtain ⟨v42, e43, hf⟩ := ob1_s hf
    refine r_getI (ci := 10) (k := 18) K dX10_steady_134 inX10 rfl (by decide) rfl q_924 e43 ?_
    refine r_sipush (v := (400 : Int32)) K dX10_steady_137 (by decide) ?_
    refine r_icmp_ge (tgt := 164) K dX10_steady_140 (by decide) (fun c52 => ?_) (fun c52 => ?_)
    · replace hf := ite_t hf c52
      refine r_lv [] rfl ?_
      exact hk h hf
    · replace hf := ite_f hf c52
      refine r_aload_n K 0 dX10_steady_143 rfl ?_
      refine r_iload_n K 1 dX10_steady_144 rfl ?_
      obtain ⟨r44, g45, e46, hf⟩ := ob2_s hf
      refine r_callV (As := [.int x1]) (rest := []) (st1 := [.int r44]) (cells1 := 0) (slots1 := 0) (b := a0) (ci := 10) K (fun z => mX10_stepsOn l z e46) dX10_steady_145 rfl (fun z => z _ _ ht) rfl ceX10_stepsOn q_1190 q_1192 q_56 q_85 q_1193 ⟨Nat.le_of_ble_eq_true rfl, Nat.le_of_ble_eq_true rfl⟩ (Nat.le_of_ble_eq_true rfl) ⟨Nat.le_of_ble_eq_true rfl, Nat.le_of_ble_eq_true rfl⟩ ?_ rfl rfl rfl rfl
      refine r_if_eq (tgt := 164) K dX10_steady_148 (by decide) (fun c51 => ?_) (fun c51 => ?_)
      · replace hf := ite_t hf c51
        refine r_lv [] rfl ?_
        exact hk g45 hf
      · replace hf := ite_f hf c51
        refine r_aload_n K 0 dX10_steady_151 rfl ?_
        refine r_dup K dX10_steady_152 rfl ?_
        obtain ⟨v47, e48, hf⟩ := ob1_s hf
        refine r_getI (ci := 10) (k := 18) K dX10_steady_153 inX10 rfl (by decide) rfl q_924 e48 ?_
        refine r_iconst (v := (1 : Int32)) K dX10_steady_156 (by decide) ?_
        refine r_iadd K dX10_steady_157 ?_
        obtain ⟨g49, e50, hf⟩ := ob1_s hf
        refine r_putV (ci := 10) (k := 18) (ty0 := tyX10) (ty := tyX10 18) K dX10_steady_158 inX10 rfl (by decide) rfl q_924 tyX10_ok nmX10 rfl rfl rfl rfl e50 ?_
        refine r_goto (tgt := 133) K dX10_steady_161 (by decide) ?_
        exact ih g49 hf
set_option maxHeartbeats 4000000 in
set_option maxRecDepth 100000 in
theorem mX10_steady (l : Launch) {G : GG} {b0 : Nat} {h : AH} {a0 : Nat} {x1 : Int32} {rr : Int32} {hh : AH} (ht : isO h a0 10) (hf : fX10_steady a0 x1 h = some (rr, hh)) : MM l yX10_steady cX10_steady 4 (some .boolean) rmX10_steady G b0 h [.ref a0, .int x1] (some (.int rr)) hh := by
  refine MM.of (own := RX10) (lv0 := [(0, .ref a0), (1, .int x1)]) (by decide) rfl (Nat.le_of_ble_eq_true rfl) rfl ?_
  intro p e s m args below meth c K hnm
  unfold fX10_steady at hf
  refine r_aload_n K 0 dX10_steady_0 rfl ?_
  obtain ⟨g1, e2, hf⟩ := ob1_s hf
  refine r_callV (As := []) (rest := []) (st1 := []) (cells1 := 0) (slots1 := 0) (b := a0) (ci := 10) K (fun z => mX10_layAllWays l z e2) dX10_steady_1 rfl (fun z => z _ _ ht) rfl ceX10_layAllWays q_1169 q_1171 q_51 q_85 q_1172 ⟨Nat.le_of_ble_eq_true rfl, Nat.le_of_ble_eq_true rfl⟩ (Nat.le_of_ble_eq_true rfl) ⟨Nat.le_of_ble_eq_true rfl, Nat.le_of_ble_eq_true rfl⟩ ?_ rfl rfl rfl rfl
  refine r_iconst (v := (0 : Int32)) K dX10_steady_4 (by decide) ?_
  refine r_istore_n (lv1 := [(2, .int (0 : Int32)), (0, .ref a0), (1, .int x1)]) K dX10_steady_5 (by decide) rfl ?_
  refine r_lv [1, 2, 0] rfl ?_
  refine wX10_steady_L6 K ht _ (fun g9 hf => ?_) lf (0 : Int32) g1 hf
  refine r_iconst (v := (0 : Int32)) K dX10_steady_25 (by decide) ?_
  refine r_istore_n (lv1 := [(2, .int (0 : Int32)), (0, .ref a0), (1, .int x1)]) K dX10_steady_26 (by decide) rfl ?_
  refine r_lv [1, 2, 0] rfl ?_
  refine wX10_steady_L27 K ht _ (fun g16 hf => ?_) lf (0 : Int32) g9 hf
  refine r_aload_n K 0 dX10_steady_47 rfl ?_
  refine r_iconst (v := (0 : Int32)) K dX10_steady_48 (by decide) ?_
  obtain ⟨g17, e18, hf⟩ := ob1_s hf
  refine r_putV (ci := 10) (k := 18) (ty0 := tyX10) (ty := tyX10 18) K dX10_steady_49 inX10 rfl (by decide) rfl q_924 tyX10_ok nmX10 rfl rfl rfl rfl e18 ?_
  refine r_iconst (v := (0 : Int32)) K dX10_steady_52 (by decide) ?_
  refine r_istore_n (lv1 := [(2, .int (0 : Int32)), (0, .ref a0), (1, .int x1)]) K dX10_steady_53 (by decide) rfl ?_
  refine r_lv [1, 2, 0] rfl ?_
  refine wX10_steady_L54 K ht _ (fun  hf => ?_) lf (0 : Int32) hf
  refine r_iconst (v := (0 : Int32)) K dX10_steady_87 (by decide) ?_
  refine r_istore_n (lv1 := [(2, .int (0 : Int32)), (0, .ref a0), (1, .int x1)]) K dX10_steady_88 (by decide) rfl ?_
  refine r_lv [1, 2, 0] rfl ?_
  refine wX10_steady_L89 K ht _ (fun g41 hf => ?_) lf (0 : Int32) g17 hf
  refine wX10_steady_L133 K ht _ (fun g53 hf => ?_) lf g41 hf
  refine r_iconst (v := (1 : Int32)) K dX10_steady_164 (by decide) ?_
  exact r_zret K dX10_steady_165 rfl hf (Nat.le_of_ble_eq_true rfl) (Nat.le_of_ble_eq_true rfl)
theorem ceX10_begins : CE yX10_begins 0 := ⟨by decide, by decide, by decide +kernel⟩
abbrev rmX10_begins : Room := { frames := 0, cells := 0, slots := 0, locals := 0 }
def fX10_begins (a0 : Nat) (h : AH) : Option AH :=
  ob1 (pV h a0 10 19 (.int (0 : Int32))) fun g1 =>
  ob1 (pV g1 a0 10 20 (.long (0 : Int64))) fun g3 =>
  some g3
set_option maxHeartbeats 4000000 in
set_option maxRecDepth 100000 in
theorem mX10_begins (l : Launch) {G : GG} {b0 : Nat} {h : AH} {a0 : Nat} {hh : AH} (ht : isO h a0 10) (hf : fX10_begins a0 h = some hh) : MM l yX10_begins cX10_begins 1 (none) rmX10_begins G b0 h [.ref a0] none hh := by
  refine MM.of (own := RX10) (lv0 := [(0, .ref a0)]) (by decide) rfl (Nat.le_of_ble_eq_true rfl) rfl ?_
  intro p e s m args below meth c K hnm
  unfold fX10_begins at hf
  refine r_aload_n K 0 dX10_begins_0 rfl ?_
  refine r_iconst (v := (0 : Int32)) K dX10_begins_1 (by decide) ?_
  obtain ⟨g1, e2, hf⟩ := ob1_s hf
  refine r_putV (ci := 10) (k := 19) (ty0 := tyX10) (ty := tyX10 19) K dX10_begins_2 inX10 rfl (by decide) rfl q_925 tyX10_ok nmX10 rfl rfl rfl rfl e2 ?_
  refine r_aload_n K 0 dX10_begins_5 rfl ?_
  refine r_lconst (v := (0 : Int64)) K dX10_begins_6 (by decide) ?_
  obtain ⟨g3, e4, hf⟩ := ob1_s hf
  refine r_putV (ci := 10) (k := 20) (ty0 := tyX10) (ty := tyX10 20) K dX10_begins_7 inX10 rfl (by decide) rfl q_926 tyX10_ok nmX10 rfl rfl rfl rfl e4 ?_
  exact r_vret K dX10_begins_10 hf (Nat.le_of_ble_eq_true rfl) (Nat.le_of_ble_eq_true rfl)
theorem ceX10_adds : CE yX10_adds 1 := ⟨by decide, by decide, by decide +kernel⟩
abbrev rmX10_adds : Room := { frames := 0, cells := 0, slots := 0, locals := 0 }
def fX10_adds (a0 : Nat) (x1 : Int64) (h : AH) : Option AH :=
  ob1 (gI h a0 10 19) fun v1 =>
  bnd (fun (g4 : AH) =>
    ob1 (pV g4 a0 10 19 (.int (1 : Int32))) fun g5 =>
    ob1 (gL g5 a0 10 20) fun v7 =>
    ob1 (gI g5 a0 10 19) fun v9 =>
    if v9 = (0 : Int32) then
      ob1 (pV g5 a0 10 20 (.long (v7 + x1))) fun g11 =>
      some g11
    else
      ob1 (pV g5 a0 10 20 (.long (v7 + (0 : Int64)))) fun g13 =>
      some g13
  ) fun j3 =>
  if v1 = (0 : Int32) then
    ob1 (gL h a0 10 20) fun v16 =>
    if x1 ≤ ((9223372036854775807 : Int64) - v16) then
      ob1 (pV h a0 10 19 (.int (0 : Int32))) fun g18 =>
      ob1 (gL g18 a0 10 20) fun v20 =>
      ob1 (gI g18 a0 10 19) fun v22 =>
      if v22 = (0 : Int32) then
        ob1 (pV g18 a0 10 20 (.long (v20 + x1))) fun g24 =>
        some g24
      else
        ob1 (pV g18 a0 10 20 (.long (v20 + (0 : Int64)))) fun g26 =>
        some g26
    else
      j3 h
  else
    j3 h
set_option maxHeartbeats 4000000 in
set_option maxRecDepth 100000 in
theorem mX10_adds (l : Launch) {G : GG} {b0 : Nat} {h : AH} {a0 : Nat} {x1 : Int64} {hh : AH} (ht : isO h a0 10) (hf : fX10_adds a0 x1 h = some hh) : MM l yX10_adds cX10_adds 3 (none) rmX10_adds G b0 h [.ref a0, .long x1] none hh := by
  refine MM.of (own := RX10) (lv0 := [(0, .ref a0), (1, .long x1)]) (by decide) rfl (Nat.le_of_ble_eq_true rfl) rfl ?_
  intro p e s m args below meth c K hnm
  unfold fX10_adds at hf
  refine r_aload_n K 0 dX10_adds_0 rfl ?_
  refine r_aload_n K 0 dX10_adds_1 rfl ?_
  obtain ⟨v1, e2, hf⟩ := ob1_s hf
  refine r_getI (ci := 10) (k := 19) K dX10_adds_2 inX10 rfl (by decide) rfl q_925 e2 ?_
  obtain ⟨j3, ej3, hf⟩ := bnd_g hf
  have Jj3 : ∀ (g4 : AH), j3 g4 = some hh → WA p l e rmX10_adds s m args below meth c (MQ below (QG G b0 h none hh) args s (rmX10_adds).cells (rmX10_adds).slots (AB b0)) G b0 3 h 0 0 g4 21 [(0, .ref a0), (1, .long x1)] [.ref a0] := by
    intro g4 hf
    rw [ej3] at hf
    refine r_iconst (v := (1 : Int32)) K dX10_adds_21 (by decide) ?_
    refine r_goto (tgt := 26) K dX10_adds_22 (by decide) ?_
    obtain ⟨g5, e6, hf⟩ := ob1_s hf
    refine r_putV (ci := 10) (k := 19) (ty0 := tyX10) (ty := tyX10 19) K dX10_adds_26 inX10 rfl (by decide) rfl q_925 tyX10_ok nmX10 rfl rfl rfl rfl e6 ?_
    refine r_aload_n K 0 dX10_adds_29 rfl ?_
    refine r_dup K dX10_adds_30 rfl ?_
    obtain ⟨v7, e8, hf⟩ := ob1_s hf
    refine r_getL (ci := 10) (k := 20) K dX10_adds_31 inX10 rfl (by decide) rfl q_926 e8 ?_
    refine r_aload_n K 0 dX10_adds_34 rfl ?_
    obtain ⟨v9, e10, hf⟩ := ob1_s hf
    refine r_getI (ci := 10) (k := 19) K dX10_adds_35 inX10 rfl (by decide) rfl q_925 e10 ?_
    refine r_if_eq (tgt := 45) K dX10_adds_38 (by decide) (fun c15 => ?_) (fun c15 => ?_)
    · replace hf := ite_t hf c15
      refine r_lload_n K 1 dX10_adds_45 rfl ?_
      refine r_ladd K dX10_adds_46 ?_
      obtain ⟨g11, e12, hf⟩ := ob1_s hf
      refine r_putV (ci := 10) (k := 20) (ty0 := tyX10) (ty := tyX10 20) K dX10_adds_47 inX10 rfl (by decide) rfl q_926 tyX10_ok nmX10 rfl rfl rfl rfl e12 ?_
      exact r_vret K dX10_adds_50 hf (Nat.le_of_ble_eq_true rfl) (Nat.le_of_ble_eq_true rfl)
    · replace hf := ite_f hf c15
      refine r_lconst (v := (0 : Int64)) K dX10_adds_41 (by decide) ?_
      refine r_goto (tgt := 46) K dX10_adds_42 (by decide) ?_
      refine r_ladd K dX10_adds_46 ?_
      obtain ⟨g13, e14, hf⟩ := ob1_s hf
      refine r_putV (ci := 10) (k := 20) (ty0 := tyX10) (ty := tyX10 20) K dX10_adds_47 inX10 rfl (by decide) rfl q_926 tyX10_ok nmX10 rfl rfl rfl rfl e14 ?_
      exact r_vret K dX10_adds_50 hf (Nat.le_of_ble_eq_true rfl) (Nat.le_of_ble_eq_true rfl)
  refine r_if_ne (tgt := 21) K dX10_adds_5 (by decide) (fun c30 => ?_) (fun c30 => ?_)
  · replace hf := ite_f hf c30
    exact Jj3 h hf
  · replace hf := ite_t hf c30
    refine r_lload_n K 1 dX10_adds_8 rfl ?_
    refine r_ldc2 K dX10_adds_9 q_1177 ?_
    refine r_aload_n K 0 dX10_adds_12 rfl ?_
    obtain ⟨v16, e17, hf⟩ := ob1_s hf
    refine r_getL (ci := 10) (k := 20) K dX10_adds_13 inX10 rfl (by decide) rfl q_926 e17 ?_
    refine r_lsub K dX10_adds_16 ?_
    refine r_lif_le (tgt := 25) K dX10_adds_17 dX10_adds_18 (by decide) (fun c29 => ?_) (fun c29 => ?_)
    · replace hf := ite_t hf c29
      refine r_iconst (v := (0 : Int32)) K dX10_adds_25 (by decide) ?_
      obtain ⟨g18, e19, hf⟩ := ob1_s hf
      refine r_putV (ci := 10) (k := 19) (ty0 := tyX10) (ty := tyX10 19) K dX10_adds_26 inX10 rfl (by decide) rfl q_925 tyX10_ok nmX10 rfl rfl rfl rfl e19 ?_
      refine r_aload_n K 0 dX10_adds_29 rfl ?_
      refine r_dup K dX10_adds_30 rfl ?_
      obtain ⟨v20, e21, hf⟩ := ob1_s hf
      refine r_getL (ci := 10) (k := 20) K dX10_adds_31 inX10 rfl (by decide) rfl q_926 e21 ?_
      refine r_aload_n K 0 dX10_adds_34 rfl ?_
      obtain ⟨v22, e23, hf⟩ := ob1_s hf
      refine r_getI (ci := 10) (k := 19) K dX10_adds_35 inX10 rfl (by decide) rfl q_925 e23 ?_
      refine r_if_eq (tgt := 45) K dX10_adds_38 (by decide) (fun c28 => ?_) (fun c28 => ?_)
      · replace hf := ite_t hf c28
        refine r_lload_n K 1 dX10_adds_45 rfl ?_
        refine r_ladd K dX10_adds_46 ?_
        obtain ⟨g24, e25, hf⟩ := ob1_s hf
        refine r_putV (ci := 10) (k := 20) (ty0 := tyX10) (ty := tyX10 20) K dX10_adds_47 inX10 rfl (by decide) rfl q_926 tyX10_ok nmX10 rfl rfl rfl rfl e25 ?_
        exact r_vret K dX10_adds_50 hf (Nat.le_of_ble_eq_true rfl) (Nat.le_of_ble_eq_true rfl)
      · replace hf := ite_f hf c28
        refine r_lconst (v := (0 : Int64)) K dX10_adds_41 (by decide) ?_
        refine r_goto (tgt := 46) K dX10_adds_42 (by decide) ?_
        refine r_ladd K dX10_adds_46 ?_
        obtain ⟨g26, e27, hf⟩ := ob1_s hf
        refine r_putV (ci := 10) (k := 20) (ty0 := tyX10) (ty := tyX10 20) K dX10_adds_47 inX10 rfl (by decide) rfl q_926 tyX10_ok nmX10 rfl rfl rfl rfl e27 ?_
        exact r_vret K dX10_adds_50 hf (Nat.le_of_ble_eq_true rfl) (Nat.le_of_ble_eq_true rfl)
    · replace hf := ite_f hf c29
      exact Jj3 h hf
theorem ceX10_addsProduct : CE yX10_addsProduct 2 := ⟨by decide, by decide, by decide +kernel⟩
abbrev rmX10_addsProduct : Room := { frames := 1, cells := 0, slots := 0, locals := 22 }
def fX10_addsProduct (a0 : Nat) (x1 : Int64) (x3 : Int64) (h : AH) : Option AH :=
  ob1 (gI h a0 10 19) fun v1 =>
  bnd (fun (g4 : AH) =>
    ob1 (pV g4 a0 10 19 (.int (1 : Int32))) fun g5 =>
    ob1 (gI g5 a0 10 19) fun v7 =>
    if v7 = (0 : Int32) then
      ob1 (fX10_adds a0 (x1 * x3) g5) fun g9 =>
      some g9
    else
      some g5
  ) fun j3 =>
  if v1 = (0 : Int32) then
    bnd (
      ob1 (pV h a0 10 19 (.int (0 : Int32))) fun g13 =>
      ob1 (gI g13 a0 10 19) fun v15 =>
      if v15 = (0 : Int32) then
        ob1 (fX10_adds a0 (x1 * x3) g13) fun g17 =>
        some g17
      else
        some g13
    ) fun j12 =>
    if x1 = (0 : Int64) then
      j12
    else
      gd (decide (¬ x1 = 0)) <|
      if x3 ≤ ((9223372036854775807 : Int64) / x1) then
        j12
      else
        j3 h
  else
    j3 h
set_option maxHeartbeats 4000000 in
set_option maxRecDepth 100000 in
theorem mX10_addsProduct (l : Launch) {G : GG} {b0 : Nat} {h : AH} {a0 : Nat} {x1 : Int64} {x3 : Int64} {hh : AH} (ht : isO h a0 10) (hf : fX10_addsProduct a0 x1 x3 h = some hh) : MM l yX10_addsProduct cX10_addsProduct 5 (none) rmX10_addsProduct G b0 h [.ref a0, .long x1, .long x3] none hh := by
  refine MM.of (own := RX10) (lv0 := [(0, .ref a0), (1, .long x1), (3, .long x3)]) (by decide) rfl (Nat.le_of_ble_eq_true rfl) rfl ?_
  intro p e s m args below meth c K hnm
  unfold fX10_addsProduct at hf
  refine r_aload_n K 0 dX10_addsProduct_0 rfl ?_
  refine r_aload_n K 0 dX10_addsProduct_1 rfl ?_
  obtain ⟨v1, e2, hf⟩ := ob1_s hf
  refine r_getI (ci := 10) (k := 19) K dX10_addsProduct_2 inX10 rfl (by decide) rfl q_925 e2 ?_
  obtain ⟨j3, ej3, hf⟩ := bnd_g hf
  have Jj3 : ∀ (g4 : AH), j3 g4 = some hh → WA p l e rmX10_addsProduct s m args below meth c (MQ below (QG G b0 h none hh) args s (rmX10_addsProduct).cells (rmX10_addsProduct).slots (AB b0)) G b0 5 h 0 0 g4 24 [(0, .ref a0), (1, .long x1), (3, .long x3)] [.ref a0] := by
    intro g4 hf
    rw [ej3] at hf
    refine r_iconst (v := (1 : Int32)) K dX10_addsProduct_24 (by decide) ?_
    refine r_goto (tgt := 29) K dX10_addsProduct_25 (by decide) ?_
    obtain ⟨g5, e6, hf⟩ := ob1_s hf
    refine r_putV (ci := 10) (k := 19) (ty0 := tyX10) (ty := tyX10 19) K dX10_addsProduct_29 inX10 rfl (by decide) rfl q_925 tyX10_ok nmX10 rfl rfl rfl rfl e6 ?_
    refine r_aload_n K 0 dX10_addsProduct_32 rfl ?_
    obtain ⟨v7, e8, hf⟩ := ob1_s hf
    refine r_getI (ci := 10) (k := 19) K dX10_addsProduct_33 inX10 rfl (by decide) rfl q_925 e8 ?_
    refine r_if_ne (tgt := 46) K dX10_addsProduct_36 (by decide) (fun c11 => ?_) (fun c11 => ?_)
    · replace hf := ite_f hf c11
      exact r_vret K dX10_addsProduct_46 hf (Nat.le_of_ble_eq_true rfl) (Nat.le_of_ble_eq_true rfl)
    · replace hf := ite_t hf c11
      refine r_aload_n K 0 dX10_addsProduct_39 rfl ?_
      refine r_lload_n K 1 dX10_addsProduct_40 rfl ?_
      refine r_lload_n K 2 dX10_addsProduct_41 rfl ?_
      refine r_lmul K dX10_addsProduct_42 ?_
      obtain ⟨g9, e10, hf⟩ := ob1_s hf
      refine r_callV (As := [.long (x1 * x3)]) (rest := []) (st1 := []) (cells1 := 0) (slots1 := 0) (b := a0) (ci := 10) K (fun z => mX10_adds l z e10) dX10_addsProduct_43 rfl (fun z => z _ _ ht) rfl ceX10_adds q_1210 q_1212 q_61 q_85 q_1213 ⟨Nat.le_of_ble_eq_true rfl, Nat.le_of_ble_eq_true rfl⟩ (Nat.le_of_ble_eq_true rfl) ⟨Nat.le_of_ble_eq_true rfl, Nat.le_of_ble_eq_true rfl⟩ ?_ rfl rfl rfl rfl
      exact r_vret K dX10_addsProduct_46 hf (Nat.le_of_ble_eq_true rfl) (Nat.le_of_ble_eq_true rfl)
  refine r_if_ne (tgt := 24) K dX10_addsProduct_5 (by decide) (fun c23 => ?_) (fun c23 => ?_)
  · replace hf := ite_f hf c23
    exact Jj3 h hf
  · replace hf := ite_t hf c23
    refine r_lload_n K 1 dX10_addsProduct_8 rfl ?_
    refine r_lconst (v := (0 : Int64)) K dX10_addsProduct_9 (by decide) ?_
    obtain ⟨j12, ej12, hf⟩ := bnd_g hf
    have Jj12 : j12 = some hh → WA p l e rmX10_addsProduct s m args below meth c (MQ below (QG G b0 h none hh) args s (rmX10_addsProduct).cells (rmX10_addsProduct).slots (AB b0)) G b0 5 h 0 0 h 28 [(0, .ref a0), (1, .long x1), (3, .long x3)] [.ref a0] := by
      intro  hf
      rw [ej12] at hf
      refine r_iconst (v := (0 : Int32)) K dX10_addsProduct_28 (by decide) ?_
      obtain ⟨g13, e14, hf⟩ := ob1_s hf
      refine r_putV (ci := 10) (k := 19) (ty0 := tyX10) (ty := tyX10 19) K dX10_addsProduct_29 inX10 rfl (by decide) rfl q_925 tyX10_ok nmX10 rfl rfl rfl rfl e14 ?_
      refine r_aload_n K 0 dX10_addsProduct_32 rfl ?_
      obtain ⟨v15, e16, hf⟩ := ob1_s hf
      refine r_getI (ci := 10) (k := 19) K dX10_addsProduct_33 inX10 rfl (by decide) rfl q_925 e16 ?_
      refine r_if_ne (tgt := 46) K dX10_addsProduct_36 (by decide) (fun c19 => ?_) (fun c19 => ?_)
      · replace hf := ite_f hf c19
        exact r_vret K dX10_addsProduct_46 hf (Nat.le_of_ble_eq_true rfl) (Nat.le_of_ble_eq_true rfl)
      · replace hf := ite_t hf c19
        refine r_aload_n K 0 dX10_addsProduct_39 rfl ?_
        refine r_lload_n K 1 dX10_addsProduct_40 rfl ?_
        refine r_lload_n K 2 dX10_addsProduct_41 rfl ?_
        refine r_lmul K dX10_addsProduct_42 ?_
        obtain ⟨g17, e18, hf⟩ := ob1_s hf
        refine r_callV (As := [.long (x1 * x3)]) (rest := []) (st1 := []) (cells1 := 0) (slots1 := 0) (b := a0) (ci := 10) K (fun z => mX10_adds l z e18) dX10_addsProduct_43 rfl (fun z => z _ _ ht) rfl ceX10_adds q_1210 q_1212 q_61 q_85 q_1213 ⟨Nat.le_of_ble_eq_true rfl, Nat.le_of_ble_eq_true rfl⟩ (Nat.le_of_ble_eq_true rfl) ⟨Nat.le_of_ble_eq_true rfl, Nat.le_of_ble_eq_true rfl⟩ ?_ rfl rfl rfl rfl
        exact r_vret K dX10_addsProduct_46 hf (Nat.le_of_ble_eq_true rfl) (Nat.le_of_ble_eq_true rfl)
    refine r_lif_eq (tgt := 28) K dX10_addsProduct_10 dX10_addsProduct_11 (by decide) (fun c22 => ?_) (fun c22 => ?_)
    · replace hf := ite_t hf c22
      exact Jj12  hf
    · replace hf := ite_f hf c22
      refine r_lload_n K 2 dX10_addsProduct_14 rfl ?_
      refine r_ldc2 K dX10_addsProduct_15 q_1177 ?_
      refine r_lload_n K 1 dX10_addsProduct_18 rfl ?_
      obtain ⟨z20, hf⟩ := gd_s hf
      refine r_ldiv K dX10_addsProduct_19 (of_decide_eq_true z20) ?_
      refine r_lif_le (tgt := 28) K dX10_addsProduct_20 dX10_addsProduct_21 (by decide) (fun c21 => ?_) (fun c21 => ?_)
      · replace hf := ite_t hf c21
        exact Jj12  hf
      · replace hf := ite_f hf c21
        exact Jj3 h hf
theorem ceX10_totalOf : CE yX10_totalOf 0 := ⟨by decide, by decide, by decide +kernel⟩
abbrev rmX10_totalOf : Room := { frames := 2, cells := 0, slots := 0, locals := 50 }
def fX10_totalOf_L6 (a0 : Nat) (k : AH → Option (Int64 × AH)) : Nat → Int32 → AH → Option (Int64 × AH)
  | 0, _, _ => none
  | n + 1, x1, h =>
    ob1 (fX10_roadMany a0 h) fun r3 =>
    if r3 ≤ x1 then
      k h
    else
      ob1 (gR h a0 10 16) fun b5 =>
      ob1 (aI h b5 0 x1) fun v7 =>
      if v7 ≤ (0 : Int32) then
        bnd (x1 + (1 : Int32)) fun y9 =>
        fX10_totalOf_L6 a0 k n y9 h
      else
        ob1 (gR h a0 10 16) fun b10 =>
        ob1 (aI h b10 0 x1) fun v12 =>
        ob1 (gR h a0 10 16) fun b14 =>
        ob1 (aI h b14 0 x1) fun v16 =>
        ob1 (fX10_costBy a0 x1 v16 h) fun r18 =>
        ob1 (fX10_addsProduct a0 (Int32.toInt64 v12) r18 h) fun g20 =>
        bnd (x1 + (1 : Int32)) fun y22 =>
        fX10_totalOf_L6 a0 k n y22 g20
def fX10_totalOf (a0 : Nat) (h : AH) : Option (Int64 × AH) :=
  ob1 (fX10_begins a0 h) fun g1 =>
  fX10_totalOf_L6 a0 (fun (g25 : AH) =>
    ob1 (gI g25 a0 10 19) fun v26 =>
    if v26 = (0 : Int32) then
      ob1 (gL g25 a0 10 20) fun v28 =>
      some (v28, g25)
    else
      some ((-6 : Int64), g25)
  ) lf (0 : Int32) g1
set_option maxHeartbeats 4000000 in
set_option maxRecDepth 100000 in
theorem wX10_totalOf_L6 {p : Program} {l : Launch} {e : Env} {s : State} {m : MethodId} {args : Array Value} {below : List Frame} {meth : Method} {c : Code} {G : GG} {b0 : Nat} {h0 : AH} {a0 : Nat} {rr : Int64} {hh : AH} (K : CX p s m args meth c cX10_totalOf 2 RX10 (some .long) G b0) (ht : isO h0 a0 10) (k : AH → Option (Int64 × AH)) (hk : ∀ (h : AH), k h = some (rr, hh) → WA p l e rmX10_totalOf s m args below meth c (MQ below (QG G b0 h0 (some (.long rr)) hh) args s (rmX10_totalOf).cells (rmX10_totalOf).slots (AB b0)) G b0 2 h0 0 0 h 51 [(0, .ref a0)] []) : ∀ (n : Nat) (x1 : Int32) (h : AH), fX10_totalOf_L6 a0 k n x1 h = some (rr, hh) → WA p l e rmX10_totalOf s m args below meth c (MQ below (QG G b0 h0 (some (.long rr)) hh) args s (rmX10_totalOf).cells (rmX10_totalOf).slots (AB b0)) G b0 2 h0 0 0 h 6 [(0, .ref a0), (1, .int x1)] [] := by
  intro n
  induction n with
  | zero =>
    intro x1 h hf
    rw [fX10_totalOf_L6] at hf
    cases hf
  | succ n ih =>
    intro x1 h hf
    rw [fX10_totalOf_L6] at hf
    refine r_iload_n K 1 dX10_totalOf_6 rfl ?_
    refine r_aload_n K 0 dX10_totalOf_7 rfl ?_
    obtain ⟨r3, e4, hf⟩ := ob1_s hf
    refine r_callV (As := []) (rest := [.int x1]) (st1 := [.int r3, .int x1]) (cells1 := 0) (slots1 := 0) (b := a0) (ci := 10) K (fun z => mX10_roadMany l z e4) dX10_totalOf_8 rfl (fun z => z _ _ ht) rfl ceX10_roadMany q_1028 q_1030 q_33 q_85 q_1031 ⟨Nat.le_of_ble_eq_true rfl, Nat.le_of_ble_eq_true rfl⟩ (Nat.le_of_ble_eq_true rfl) ⟨Nat.le_of_ble_eq_true rfl, Nat.le_of_ble_eq_true rfl⟩ ?_ rfl rfl rfl rfl
    refine r_icmp_ge (tgt := 51) K dX10_totalOf_11 (by decide) (fun c24 => ?_) (fun c24 => ?_)
    · replace hf := ite_t hf c24
      refine r_lv [0] rfl ?_
      exact hk h hf
    · replace hf := ite_f hf c24
      refine r_aload_n K 0 dX10_totalOf_14 rfl ?_
      obtain ⟨b5, e6, hf⟩ := ob1_s hf
      refine r_getR (ci := 10) (k := 16) K dX10_totalOf_15 inX10 rfl (by decide) rfl q_922 e6 ?_
      refine r_iload_n K 1 dX10_totalOf_18 rfl ?_
      obtain ⟨v7, e8, hf⟩ := ob1_s hf
      refine r_iaload K dX10_totalOf_19 e8 ?_
      refine r_if_le (tgt := 45) K dX10_totalOf_20 (by decide) (fun c23 => ?_) (fun c23 => ?_)
      · replace hf := ite_t hf c23
        obtain ⟨y9, ey9, hf⟩ := bnd_g hf
        refine r_iinc (lv1 := [(1, .int y9), (0, .ref a0)]) K 1 dX10_totalOf_45 rfl (by rw [ey9]; rfl) (by decide) rfl ?_
        refine r_goto (tgt := 6) K dX10_totalOf_48 (by decide) ?_
        refine r_lv [1, 0] rfl ?_
        exact ih y9 h hf
      · replace hf := ite_f hf c23
        refine r_aload_n K 0 dX10_totalOf_23 rfl ?_
        refine r_aload_n K 0 dX10_totalOf_24 rfl ?_
        obtain ⟨b10, e11, hf⟩ := ob1_s hf
        refine r_getR (ci := 10) (k := 16) K dX10_totalOf_25 inX10 rfl (by decide) rfl q_922 e11 ?_
        refine r_iload_n K 1 dX10_totalOf_28 rfl ?_
        obtain ⟨v12, e13, hf⟩ := ob1_s hf
        refine r_iaload K dX10_totalOf_29 e13 ?_
        refine r_i2l K dX10_totalOf_30 ?_
        refine r_aload_n K 0 dX10_totalOf_31 rfl ?_
        refine r_iload_n K 1 dX10_totalOf_32 rfl ?_
        refine r_aload_n K 0 dX10_totalOf_33 rfl ?_
        obtain ⟨b14, e15, hf⟩ := ob1_s hf
        refine r_getR (ci := 10) (k := 16) K dX10_totalOf_34 inX10 rfl (by decide) rfl q_922 e15 ?_
        refine r_iload_n K 1 dX10_totalOf_37 rfl ?_
        obtain ⟨v16, e17, hf⟩ := ob1_s hf
        refine r_iaload K dX10_totalOf_38 e17 ?_
        obtain ⟨r18, e19, hf⟩ := ob1_s hf
        refine r_callV (As := [.int x1, .int v16]) (rest := [.long (Int32.toInt64 v12), .ref a0]) (st1 := [.long r18, .long (Int32.toInt64 v12), .ref a0]) (cells1 := 0) (slots1 := 0) (b := a0) (ci := 10) K (fun z => mX10_costBy l z e19) dX10_totalOf_39 rfl (fun z => z _ _ ht) rfl ceX10_costBy q_1065 q_1067 q_37 q_85 q_1068 ⟨Nat.le_of_ble_eq_true rfl, Nat.le_of_ble_eq_true rfl⟩ (Nat.le_of_ble_eq_true rfl) ⟨Nat.le_of_ble_eq_true rfl, Nat.le_of_ble_eq_true rfl⟩ ?_ rfl rfl rfl rfl
        obtain ⟨g20, e21, hf⟩ := ob1_s hf
        refine r_callV (As := [.long (Int32.toInt64 v12), .long r18]) (rest := []) (st1 := []) (cells1 := 0) (slots1 := 0) (b := a0) (ci := 10) K (fun z => mX10_addsProduct l z e21) dX10_totalOf_42 rfl (fun z => z _ _ ht) rfl ceX10_addsProduct q_1206 q_1208 q_60 q_85 q_1209 ⟨Nat.le_of_ble_eq_true rfl, Nat.le_of_ble_eq_true rfl⟩ (Nat.le_of_ble_eq_true rfl) ⟨Nat.le_of_ble_eq_true rfl, Nat.le_of_ble_eq_true rfl⟩ ?_ rfl rfl rfl rfl
        obtain ⟨y22, ey22, hf⟩ := bnd_g hf
        refine r_iinc (lv1 := [(1, .int y22), (0, .ref a0)]) K 1 dX10_totalOf_45 rfl (by rw [ey22]; rfl) (by decide) rfl ?_
        refine r_goto (tgt := 6) K dX10_totalOf_48 (by decide) ?_
        refine r_lv [1, 0] rfl ?_
        exact ih y22 g20 hf
set_option maxHeartbeats 4000000 in
set_option maxRecDepth 100000 in
theorem mX10_totalOf (l : Launch) {G : GG} {b0 : Nat} {h : AH} {a0 : Nat} {rr : Int64} {hh : AH} (ht : isO h a0 10) (hf : fX10_totalOf a0 h = some (rr, hh)) : MM l yX10_totalOf cX10_totalOf 2 (some .long) rmX10_totalOf G b0 h [.ref a0] (some (.long rr)) hh := by
  refine MM.of (own := RX10) (lv0 := [(0, .ref a0)]) (by decide) rfl (Nat.le_of_ble_eq_true rfl) rfl ?_
  intro p e s m args below meth c K hnm
  unfold fX10_totalOf at hf
  refine r_aload_n K 0 dX10_totalOf_0 rfl ?_
  obtain ⟨g1, e2, hf⟩ := ob1_s hf
  refine r_callV (As := []) (rest := []) (st1 := []) (cells1 := 0) (slots1 := 0) (b := a0) (ci := 10) K (fun z => mX10_begins l z e2) dX10_totalOf_1 rfl (fun z => z _ _ ht) rfl ceX10_begins q_1202 q_1204 q_59 q_85 q_1205 ⟨Nat.le_of_ble_eq_true rfl, Nat.le_of_ble_eq_true rfl⟩ (Nat.le_of_ble_eq_true rfl) ⟨Nat.le_of_ble_eq_true rfl, Nat.le_of_ble_eq_true rfl⟩ ?_ rfl rfl rfl rfl
  refine r_iconst (v := (0 : Int32)) K dX10_totalOf_4 (by decide) ?_
  refine r_istore_n (lv1 := [(1, .int (0 : Int32)), (0, .ref a0)]) K dX10_totalOf_5 (by decide) rfl ?_
  refine r_lv [1, 0] rfl ?_
  refine wX10_totalOf_L6 K ht _ (fun g25 hf => ?_) lf (0 : Int32) g1 hf
  refine r_aload_n K 0 dX10_totalOf_51 rfl ?_
  obtain ⟨v26, e27, hf⟩ := ob1_s hf
  refine r_getI (ci := 10) (k := 19) K dX10_totalOf_52 inX10 rfl (by decide) rfl q_925 e27 ?_
  refine r_if_eq (tgt := 64) K dX10_totalOf_55 (by decide) (fun c30 => ?_) (fun c30 => ?_)
  · replace hf := ite_t hf c30
    refine r_aload_n K 0 dX10_totalOf_64 rfl ?_
    obtain ⟨v28, e29, hf⟩ := ob1_s hf
    refine r_getL (ci := 10) (k := 20) K dX10_totalOf_65 inX10 rfl (by decide) rfl q_926 e29 ?_
    exact r_lret K dX10_totalOf_68 hf (Nat.le_of_ble_eq_true rfl) (Nat.le_of_ble_eq_true rfl)
  · replace hf := ite_f hf c30
    refine r_ldc2 K dX10_totalOf_58 q_1214 ?_
    refine r_goto (tgt := 68) K dX10_totalOf_61 (by decide) ?_
    exact r_lret K dX10_totalOf_68 hf (Nat.le_of_ble_eq_true rfl) (Nat.le_of_ble_eq_true rfl)
theorem ceX10_totalBy : CE yX10_totalBy 1 := ⟨by decide, by decide, by decide +kernel⟩
abbrev rmX10_totalBy : Room := { frames := 9, cells := 0, slots := 0, locals := 230 }
def fX10_totalBy (a0 : Nat) (x1 : Int32) (h : AH) : Option (Int64 × AH) :=
  ob2 (fX10_steady a0 x1 h) fun r1 g2 =>
  if r1 = (0 : Int32) then
    some ((-3 : Int64), g2)
  else
    ob2 (fX10_totalOf a0 g2) fun r4 g5 =>
    some (r4, g5)
set_option maxHeartbeats 4000000 in
set_option maxRecDepth 100000 in
theorem mX10_totalBy (l : Launch) {G : GG} {b0 : Nat} {h : AH} {a0 : Nat} {x1 : Int32} {rr : Int64} {hh : AH} (ht : isO h a0 10) (hf : fX10_totalBy a0 x1 h = some (rr, hh)) : MM l yX10_totalBy cX10_totalBy 2 (some .long) rmX10_totalBy G b0 h [.ref a0, .int x1] (some (.long rr)) hh := by
  refine MM.of (own := RX10) (lv0 := [(0, .ref a0), (1, .int x1)]) (by decide) rfl (Nat.le_of_ble_eq_true rfl) rfl ?_
  intro p e s m args below meth c K hnm
  unfold fX10_totalBy at hf
  refine r_aload_n K 0 dX10_totalBy_0 rfl ?_
  refine r_iload_n K 1 dX10_totalBy_1 rfl ?_
  obtain ⟨r1, g2, e3, hf⟩ := ob2_s hf
  refine r_callV (As := [.int x1]) (rest := []) (st1 := [.int r1]) (cells1 := 0) (slots1 := 0) (b := a0) (ci := 10) K (fun z => mX10_steady l z e3) dX10_totalBy_2 rfl (fun z => z _ _ ht) rfl ceX10_steady q_1165 q_1167 q_50 q_85 q_1168 ⟨Nat.le_of_ble_eq_true rfl, Nat.le_of_ble_eq_true rfl⟩ (Nat.le_of_ble_eq_true rfl) ⟨Nat.le_of_ble_eq_true rfl, Nat.le_of_ble_eq_true rfl⟩ ?_ rfl rfl rfl rfl
  refine r_if_eq (tgt := 15) K dX10_totalBy_5 (by decide) (fun c7 => ?_) (fun c7 => ?_)
  · replace hf := ite_t hf c7
    refine r_ldc2 K dX10_totalBy_15 q_1215 ?_
    exact r_lret K dX10_totalBy_18 hf (Nat.le_of_ble_eq_true rfl) (Nat.le_of_ble_eq_true rfl)
  · replace hf := ite_f hf c7
    refine r_aload_n K 0 dX10_totalBy_8 rfl ?_
    obtain ⟨r4, g5, e6, hf⟩ := ob2_s hf
    refine r_callV (As := []) (rest := []) (st1 := [.long r4]) (cells1 := 0) (slots1 := 0) (b := a0) (ci := 10) K (fun z => mX10_totalOf l z e6) dX10_totalBy_9 rfl (fun z => z _ _ ht) rfl ceX10_totalOf q_1198 q_1200 q_58 q_85 q_1201 ⟨Nat.le_of_ble_eq_true rfl, Nat.le_of_ble_eq_true rfl⟩ (Nat.le_of_ble_eq_true rfl) ⟨Nat.le_of_ble_eq_true rfl, Nat.le_of_ble_eq_true rfl⟩ ?_ rfl rfl rfl rfl
    refine r_goto (tgt := 18) K dX10_totalBy_12 (by decide) ?_
    exact r_lret K dX10_totalBy_18 hf (Nat.le_of_ble_eq_true rfl) (Nat.le_of_ble_eq_true rfl)
