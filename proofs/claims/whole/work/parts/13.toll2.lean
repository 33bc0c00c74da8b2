theorem ceX9_best : CE yX9_best 0 := ⟨by decide, by decide, by decide +kernel⟩
abbrev rmX9_best : Room := { frames := 5, cells := 0, slots := 0, locals := 117 }
def fX9_best (a0 : Nat) (h : AH) : Option (Int64 × AH) :=
  ob2 (fX9_bestOrNo a0 h) fun r1 g2 =>
  some (r1, g2)
set_option maxHeartbeats 4000000 in
set_option maxRecDepth 100000 in
theorem mX9_best (l : Launch) {G : GG} {b0 : Nat} {h : AH} {a0 : Nat} {rr : Int64} {hh : AH} (ht : isO h a0 9) (hf : fX9_best a0 h = some (rr, hh)) : MM l yX9_best cX9_best 1 (some .long) rmX9_best G b0 h [.ref a0] (some (.long rr)) hh := by
  refine MM.of (own := RX9) (lv0 := [(0, .ref a0)]) (by decide) rfl (Nat.le_of_ble_eq_true rfl) rfl ?_
  intro p e s m args below meth c K hnm
  unfold fX9_best at hf
  refine r_aload_n K 0 dX9_best_0 rfl ?_
  obtain ⟨r1, g2, e3, hf⟩ := ob2_s hf
  refine r_callV (As := []) (rest := []) (st1 := [.long r1]) (cells1 := 0) (slots1 := 0) (b := a0) (ci := 9) K (fun z => mX9_bestOrNo l z e3) dX9_best_1 rfl (fun z => z _ _ ht) rfl ceX9_bestOrNo q_732 q_734 q_21 q_75 q_735 ⟨Nat.le_of_ble_eq_true rfl, Nat.le_of_ble_eq_true rfl⟩ (Nat.le_of_ble_eq_true rfl) ⟨Nat.le_of_ble_eq_true rfl, Nat.le_of_ble_eq_true rfl⟩ ?_ rfl rfl rfl rfl
  exact r_lret K dX9_best_4 hf (Nat.le_of_ble_eq_true rfl) (Nat.le_of_ble_eq_true rfl)
theorem ceX9_worse : CE yX9_worse 2 := ⟨by decide, by decide, by decide +kernel⟩
abbrev rmX9_worse : Room := { frames := 6, cells := 0, slots := 0, locals := 145 }
def fX9_worse (a0 : Nat) (x1 : Int32) (x2 : Int32) (h : AH) : Option (Int64 × AH) :=
  ob1 (fX9_isOneOf x1 (3 : Int32)) fun r1 =>
  if r1 = (0 : Int32) then
    some ((-9223372036854775808 : Int64), h)
  else
    ob1 (fX9_isOneOf x2 (2 : Int32)) fun r3 =>
    if r3 = (0 : Int32) then
      some ((-9223372036854775808 : Int64), h)
    else
      ob2 (fX9_steadyOf a0 x1 h) fun b5 g6 =>
      gd (ckO g6 b5 5) <|
      ob1 (fX5_totalOrNo b5 g6) fun r9 =>
      ob2 (fX9_bestOrNo a0 g6) fun r11 g12 =>
      if r9 = (-9223372036854775808 : Int64) then
        some ((-9223372036854775808 : Int64), g12)
      else
        if r11 = (-9223372036854775808 : Int64) then
          some ((-9223372036854775808 : Int64), g12)
        else
          if r11 = (0 : Int64) then
            if r9 = (0 : Int64) then
              some (Int32.toInt64 x2, g12)
            else
              some ((-9223372036854775808 : Int64), g12)
          else
            ob1 (fX9_fractionPart (r9 - r11) r11 x2) fun r14 =>
            some (r14, g12)
set_option maxHeartbeats 4000000 in
set_option maxRecDepth 100000 in
theorem mX9_worse (l : Launch) {G : GG} {b0 : Nat} {h : AH} {a0 : Nat} {x1 : Int32} {x2 : Int32} {rr : Int64} {hh : AH} (ht : isO h a0 9) (hf : fX9_worse a0 x1 x2 h = some (rr, hh)) : MM l yX9_worse cX9_worse 7 (some .long) rmX9_worse G b0 h [.ref a0, .int x1, .int x2] (some (.long rr)) hh := by
  refine MM.of (own := RX9) (lv0 := [(0, .ref a0), (1, .int x1), (2, .int x2)]) (by decide) rfl (Nat.le_of_ble_eq_true rfl) rfl ?_
  intro p e s m args below meth c K hnm
  unfold fX9_worse at hf
  refine r_iload_n K 1 dX9_worse_0 rfl ?_
  refine r_iconst (v := (3 : Int32)) K dX9_worse_1 (by decide) ?_
  obtain ⟨r1, e2, hf⟩ := ob1_s hf
  refine r_callS (As := [.int x1, .int (3 : Int32)]) (rest := []) (st1 := [.int r1]) (cells1 := 0) (slots1 := 0) K (mX9_isOneOf l e2) dX9_worse_2 ceX9_isOneOf q_431 q_426 q_75 q_427 ⟨Nat.le_of_ble_eq_true rfl, Nat.le_of_ble_eq_true rfl⟩ (Nat.le_of_ble_eq_true rfl) ⟨Nat.le_of_ble_eq_true rfl, Nat.le_of_ble_eq_true rfl⟩ ?_ rfl rfl rfl rfl
  refine r_if_eq (tgt := 16) K dX9_worse_5 (by decide) (fun c21 => ?_) (fun c21 => ?_)
  · replace hf := ite_t hf c21
    refine r_ldc2 K dX9_worse_16 q_467 ?_
    exact r_lret K dX9_worse_19 hf (Nat.le_of_ble_eq_true rfl) (Nat.le_of_ble_eq_true rfl)
  · replace hf := ite_f hf c21
    refine r_iload_n K 2 dX9_worse_8 rfl ?_
    refine r_iconst (v := (2 : Int32)) K dX9_worse_9 (by decide) ?_
    obtain ⟨r3, e4, hf⟩ := ob1_s hf
    refine r_callS (As := [.int x2, .int (2 : Int32)]) (rest := []) (st1 := [.int r3]) (cells1 := 0) (slots1 := 0) K (mX9_isOneOf l e4) dX9_worse_10 ceX9_isOneOf q_431 q_426 q_75 q_427 ⟨Nat.le_of_ble_eq_true rfl, Nat.le_of_ble_eq_true rfl⟩ (Nat.le_of_ble_eq_true rfl) ⟨Nat.le_of_ble_eq_true rfl, Nat.le_of_ble_eq_true rfl⟩ ?_ rfl rfl rfl rfl
    refine r_if_ne (tgt := 20) K dX9_worse_13 (by decide) (fun c20 => ?_) (fun c20 => ?_)
    · replace hf := ite_f hf c20
      refine r_aload_n K 0 dX9_worse_20 rfl ?_
      refine r_iload_n K 1 dX9_worse_21 rfl ?_
      obtain ⟨b5, g6, e7, hf⟩ := ob2_s hf
      refine r_callV (As := [.int x1]) (rest := []) (st1 := [.ref b5]) (cells1 := 0) (slots1 := 0) (b := a0) (ci := 9) K (fun z => mX9_steadyOf l z e7) dX9_worse_22 rfl (fun z => z _ _ ht) rfl ceX9_steadyOf q_597 q_599 q_12 q_75 q_600 ⟨Nat.le_of_ble_eq_true rfl, Nat.le_of_ble_eq_true rfl⟩ (Nat.le_of_ble_eq_true rfl) ⟨Nat.le_of_ble_eq_true rfl, Nat.le_of_ble_eq_true rfl⟩ ?_ rfl rfl rfl rfl
      obtain ⟨z8, hf⟩ := gd_s hf
      obtain ⟨r9, e10, hf⟩ := ob1_s hf
      refine r_callV (As := []) (rest := []) (st1 := [.long r9]) (cells1 := 0) (slots1 := 0) (b := b5) (ci := 5) K (fun z => mX5_totalOrNo l z e10) dX9_worse_25 rfl (fun _ => isO_of z8) rfl ceX5_totalOrNo q_683 q_684 q_685 q_81 q_686 ⟨Nat.le_of_ble_eq_true rfl, Nat.le_of_ble_eq_true rfl⟩ (Nat.le_of_ble_eq_true rfl) ⟨Nat.le_of_ble_eq_true rfl, Nat.le_of_ble_eq_true rfl⟩ ?_ rfl rfl rfl rfl
      refine r_lstore_n (lv1 := [(3, .long r9), (0, .ref a0), (1, .int x1), (2, .int x2)]) K dX9_worse_28 (by decide) rfl ?_
      refine r_aload_n K 1 dX9_worse_29 rfl ?_
      obtain ⟨r11, g12, e13, hf⟩ := ob2_s hf
      refine r_callV (As := []) (rest := []) (st1 := [.long r11]) (cells1 := 0) (slots1 := 0) (b := a0) (ci := 9) K (fun z => mX9_bestOrNo l z e13) dX9_worse_30 rfl (fun z => z _ _ ht) rfl ceX9_bestOrNo q_732 q_734 q_21 q_75 q_735 ⟨Nat.le_of_ble_eq_true rfl, Nat.le_of_ble_eq_true rfl⟩ (Nat.le_of_ble_eq_true rfl) ⟨Nat.le_of_ble_eq_true rfl, Nat.le_of_ble_eq_true rfl⟩ ?_ rfl rfl rfl rfl
      refine r_lstore (lv1 := [(5, .long r11), (3, .long r9), (0, .ref a0), (1, .int x1), (2, .int x2)]) K dX9_worse_33 (by decide) rfl ?_
      refine r_lload_n K 1 dX9_worse_35 rfl ?_
      refine r_ldc2 K dX9_worse_36 q_467 ?_
      refine r_lif_eq (tgt := 52) K dX9_worse_39 dX9_worse_40 (by decide) (fun c19 => ?_) (fun c19 => ?_)
      · replace hf := ite_t hf c19
        refine r_ldc2 K dX9_worse_52 q_467 ?_
        exact r_lret K dX9_worse_55 hf (Nat.le_of_ble_eq_true rfl) (Nat.le_of_ble_eq_true rfl)
      · replace hf := ite_f hf c19
        refine r_lload K 0 dX9_worse_43 rfl ?_
        refine r_ldc2 K dX9_worse_45 q_467 ?_
        refine r_lif_ne (tgt := 56) K dX9_worse_48 dX9_worse_49 (by decide) (fun c18 => ?_) (fun c18 => ?_)
        · replace hf := ite_f hf c18
          refine r_lload K 0 dX9_worse_56 rfl ?_
          refine r_lconst (v := (0 : Int64)) K dX9_worse_58 (by decide) ?_
          refine r_lif_ne (tgt := 78) K dX9_worse_59 dX9_worse_60 (by decide) (fun c17 => ?_) (fun c17 => ?_)
          · replace hf := ite_f hf c17
            refine r_lload_n K 1 dX9_worse_78 rfl ?_
            refine r_lload K 0 dX9_worse_79 rfl ?_
            refine r_lsub K dX9_worse_81 ?_
            refine r_lload K 0 dX9_worse_82 rfl ?_
            refine r_iload_n K 4 dX9_worse_84 rfl ?_
            obtain ⟨r14, e15, hf⟩ := ob1_s hf
            refine r_callS (As := [.long (r9 - r11), .long r11, .int x2]) (rest := []) (st1 := [.long r14]) (cells1 := 0) (slots1 := 0) K (mX9_fractionPart l e15) dX9_worse_85 ceX9_fractionPart q_705 q_706 q_75 q_707 ⟨Nat.le_of_ble_eq_true rfl, Nat.le_of_ble_eq_true rfl⟩ (Nat.le_of_ble_eq_true rfl) ⟨Nat.le_of_ble_eq_true rfl, Nat.le_of_ble_eq_true rfl⟩ ?_ rfl rfl rfl rfl
            exact r_lret K dX9_worse_88 hf (Nat.le_of_ble_eq_true rfl) (Nat.le_of_ble_eq_true rfl)
          · replace hf := ite_t hf c17
            refine r_lload_n K 1 dX9_worse_63 rfl ?_
            refine r_lconst (v := (0 : Int64)) K dX9_worse_64 (by decide) ?_
            refine r_lif_ne (tgt := 74) K dX9_worse_65 dX9_worse_66 (by decide) (fun c16 => ?_) (fun c16 => ?_)
            · replace hf := ite_f hf c16
              refine r_ldc2 K dX9_worse_74 q_467 ?_
              exact r_lret K dX9_worse_77 hf (Nat.le_of_ble_eq_true rfl) (Nat.le_of_ble_eq_true rfl)
            · replace hf := ite_t hf c16
              refine r_iload_n K 4 dX9_worse_69 rfl ?_
              refine r_i2l K dX9_worse_70 ?_
              refine r_goto (tgt := 77) K dX9_worse_71 (by decide) ?_
              exact r_lret K dX9_worse_77 hf (Nat.le_of_ble_eq_true rfl) (Nat.le_of_ble_eq_true rfl)
        · replace hf := ite_t hf c18
          refine r_ldc2 K dX9_worse_52 q_467 ?_
          exact r_lret K dX9_worse_55 hf (Nat.le_of_ble_eq_true rfl) (Nat.le_of_ble_eq_true rfl)
    · replace hf := ite_t hf c20
      refine r_ldc2 K dX9_worse_16 q_467 ?_
      exact r_lret K dX9_worse_19 hf (Nat.le_of_ble_eq_true rfl) (Nat.le_of_ble_eq_true rfl)
theorem ceX9_difference : CE yX9_difference 2 := ⟨by decide, by decide, by decide +kernel⟩
abbrev rmX9_difference : Room := { frames := 1, cells := 0, slots := 0, locals := 20 }
def fX9_difference (a0 : Nat) (a1 : Nat) (h : AH) : Option Int64 :=
  gd (ckO h a0 5) <|
  ob1 (fX5_totalOrNo a0 h) fun r2 =>
  gd (ckO h a1 5) <|
  ob1 (fX5_totalOrNo a1 h) fun r5 =>
  if r2 = (-9223372036854775808 : Int64) then
    some (-9223372036854775808 : Int64)
  else
    if r5 = (-9223372036854775808 : Int64) then
      some (-9223372036854775808 : Int64)
    else
      some (r5 - r2)
set_option maxHeartbeats 4000000 in
set_option maxRecDepth 100000 in
theorem mX9_difference (l : Launch) {G : GG} {b0 : Nat} {h : AH} {a0 : Nat} {a1 : Nat} {rr : Int64} (hf : fX9_difference a0 a1 h = some rr) : MM l yX9_difference cX9_difference 6 (some .long) rmX9_difference G b0 h [.ref a0, .ref a1] (some (.long rr)) h := by
  refine MM.of (own := RX9) (lv0 := [(0, .ref a0), (1, .ref a1)]) (by decide) rfl (Nat.le_of_ble_eq_true rfl) rfl ?_
  intro p e s m args below meth c K hnm
  unfold fX9_difference at hf
  refine r_aload_n K 0 dX9_difference_0 rfl ?_
  obtain ⟨z1, hf⟩ := gd_s hf
  obtain ⟨r2, e3, hf⟩ := ob1_s hf
  refine r_callV (As := []) (rest := []) (st1 := [.long r2]) (cells1 := 0) (slots1 := 0) (b := a0) (ci := 5) K (fun z => mX5_totalOrNo l z e3) dX9_difference_1 rfl (fun _ => isO_of z1) rfl ceX5_totalOrNo q_683 q_684 q_685 q_81 q_686 ⟨Nat.le_of_ble_eq_true rfl, Nat.le_of_ble_eq_true rfl⟩ (Nat.le_of_ble_eq_true rfl) ⟨Nat.le_of_ble_eq_true rfl, Nat.le_of_ble_eq_true rfl⟩ ?_ rfl rfl rfl rfl
  refine r_lstore_n (lv1 := [(2, .long r2), (0, .ref a0), (1, .ref a1)]) K dX9_difference_4 (by decide) rfl ?_
  refine r_aload_n K 2 dX9_difference_5 rfl ?_
  obtain ⟨z4, hf⟩ := gd_s hf
  obtain ⟨r5, e6, hf⟩ := ob1_s hf
  refine r_callV (As := []) (rest := []) (st1 := [.long r5]) (cells1 := 0) (slots1 := 0) (b := a1) (ci := 5) K (fun z => mX5_totalOrNo l z e6) dX9_difference_6 rfl (fun _ => isO_of z4) rfl ceX5_totalOrNo q_683 q_684 q_685 q_81 q_686 ⟨Nat.le_of_ble_eq_true rfl, Nat.le_of_ble_eq_true rfl⟩ (Nat.le_of_ble_eq_true rfl) ⟨Nat.le_of_ble_eq_true rfl, Nat.le_of_ble_eq_true rfl⟩ ?_ rfl rfl rfl rfl
  refine r_lstore (lv1 := [(4, .long r5), (2, .long r2), (0, .ref a0), (1, .ref a1)]) K dX9_difference_9 (by decide) rfl ?_
  refine r_lload_n K 1 dX9_difference_11 rfl ?_
  refine r_ldc2 K dX9_difference_12 q_467 ?_
  refine r_lif_eq (tgt := 28) K dX9_difference_15 dX9_difference_16 (by decide) (fun c8 => ?_) (fun c8 => ?_)
  · replace hf := ite_t hf c8
    refine r_ldc2 K dX9_difference_28 q_467 ?_
    refine r_goto (tgt := 38) K dX9_difference_31 (by decide) ?_
    exact r_lret K dX9_difference_38 (retp hf) (Nat.le_of_ble_eq_true rfl) (Nat.le_of_ble_eq_true rfl)
  · replace hf := ite_f hf c8
    refine r_lload K 0 dX9_difference_19 rfl ?_
    refine r_ldc2 K dX9_difference_21 q_467 ?_
    refine r_lif_ne (tgt := 34) K dX9_difference_24 dX9_difference_25 (by decide) (fun c7 => ?_) (fun c7 => ?_)
    · replace hf := ite_f hf c7
      refine r_lload K 0 dX9_difference_34 rfl ?_
      refine r_lload_n K 1 dX9_difference_36 rfl ?_
      refine r_lsub K dX9_difference_37 ?_
      exact r_lret K dX9_difference_38 (retp hf) (Nat.le_of_ble_eq_true rfl) (Nat.le_of_ble_eq_true rfl)
    · replace hf := ite_t hf c7
      refine r_ldc2 K dX9_difference_28 q_467 ?_
      refine r_goto (tgt := 38) K dX9_difference_31 (by decide) ?_
      exact r_lret K dX9_difference_38 (retp hf) (Nat.le_of_ble_eq_true rfl) (Nat.le_of_ble_eq_true rfl)
theorem ceX9_steadyWithout : CE yX9_steadyWithout 2 := ⟨by decide, by decide, by decide +kernel⟩
abbrev rmX9_steadyWithout : Room := { frames := 5, cells := 0, slots := 0, locals := 124 }
def fX9_steadyWithout (a0 : Nat) (x1 : Int32) (x2 : Int32) (h : AH) : Option (Nat × AH) :=
  ob1 (gR h a0 9 10) fun b1 =>
  ob1 (gR h a0 9 0) fun b3 =>
  gd (ckO h b1 2) <|
  ob1 (fX2_find b1 b3 x2 h) fun g6 =>
  ob1 (gR g6 a0 9 11) fun b8 =>
  ob1 (gR g6 a0 9 0) fun b10 =>
  ob1 (gR g6 a0 9 10) fun b12 =>
  gd (ckO g6 b8 5) <|
  ob1 (fX5_settle b8 b10 b12 x1 g6) fun g15 =>
  ob1 (gR g15 a0 9 11) fun b17 =>
  some (b17, g15)
set_option maxHeartbeats 4000000 in
set_option maxRecDepth 100000 in
theorem mX9_steadyWithout (l : Launch) {G : GG} {b0 : Nat} {h : AH} {a0 : Nat} {x1 : Int32} {x2 : Int32} {rr : Nat} {hh : AH} (ht : isO h a0 9) (hf : fX9_steadyWithout a0 x1 x2 h = some (rr, hh)) : MM l yX9_steadyWithout cX9_steadyWithout 3 (some (.object "TollWays$Steady")) rmX9_steadyWithout G b0 h [.ref a0, .int x1, .int x2] (some (.ref rr)) hh := by
  refine MM.of (own := RX9) (lv0 := [(0, .ref a0), (1, .int x1), (2, .int x2)]) (by decide) rfl (Nat.le_of_ble_eq_true rfl) rfl ?_
  intro p e s m args below meth c K hnm
  unfold fX9_steadyWithout at hf
  refine r_aload_n K 0 dX9_steadyWithout_0 rfl ?_
  obtain ⟨b1, e2, hf⟩ := ob1_s hf
  refine r_getR (ci := 9) (k := 10) K dX9_steadyWithout_1 inX9 rfl (by decide) rfl q_367 e2 ?_
  refine r_aload_n K 0 dX9_steadyWithout_4 rfl ?_
  obtain ⟨b3, e4, hf⟩ := ob1_s hf
  refine r_getR (ci := 9) (k := 0) K dX9_steadyWithout_5 inX9 rfl (by decide) rfl q_357 e4 ?_
  refine r_iload_n K 2 dX9_steadyWithout_8 rfl ?_
  obtain ⟨z5, hf⟩ := gd_s hf
  obtain ⟨g6, e7, hf⟩ := ob1_s hf
  refine r_callV (As := [.ref b3, .int x2]) (rest := []) (st1 := []) (cells1 := 0) (slots1 := 0) (b := b1) (ci := 2) K (fun z => mX2_find l z e7) dX9_steadyWithout_9 rfl (fun _ => isO_of z5) rfl ceX2_find q_565 q_566 q_567 q_78 q_568 ⟨Nat.le_of_ble_eq_true rfl, Nat.le_of_ble_eq_true rfl⟩ (Nat.le_of_ble_eq_true rfl) ⟨Nat.le_of_ble_eq_true rfl, Nat.le_of_ble_eq_true rfl⟩ ?_ rfl rfl rfl rfl
  refine r_aload_n K 0 dX9_steadyWithout_12 rfl ?_
  obtain ⟨b8, e9, hf⟩ := ob1_s hf
  refine r_getR (ci := 9) (k := 11) K dX9_steadyWithout_13 inX9 rfl (by decide) rfl q_368 e9 ?_
  refine r_aload_n K 0 dX9_steadyWithout_16 rfl ?_
  obtain ⟨b10, e11, hf⟩ := ob1_s hf
  refine r_getR (ci := 9) (k := 0) K dX9_steadyWithout_17 inX9 rfl (by decide) rfl q_357 e11 ?_
  refine r_aload_n K 0 dX9_steadyWithout_20 rfl ?_
  obtain ⟨b12, e13, hf⟩ := ob1_s hf
  refine r_getR (ci := 9) (k := 10) K dX9_steadyWithout_21 inX9 rfl (by decide) rfl q_367 e13 ?_
  refine r_iload_n K 1 dX9_steadyWithout_24 rfl ?_
  obtain ⟨z14, hf⟩ := gd_s hf
  obtain ⟨g15, e16, hf⟩ := ob1_s hf
  refine r_callV (As := [.ref b10, .ref b12, .int x1]) (rest := []) (st1 := []) (cells1 := 0) (slots1 := 0) (b := b8) (ci := 5) K (fun z => mX5_settle l z e16) dX9_steadyWithout_25 rfl (fun _ => isO_of z14) rfl ceX5_settle q_601 q_602 q_603 q_81 q_604 ⟨Nat.le_of_ble_eq_true rfl, Nat.le_of_ble_eq_true rfl⟩ (Nat.le_of_ble_eq_true rfl) ⟨Nat.le_of_ble_eq_true rfl, Nat.le_of_ble_eq_true rfl⟩ ?_ rfl rfl rfl rfl
  refine r_aload_n K 0 dX9_steadyWithout_28 rfl ?_
  obtain ⟨b17, e18, hf⟩ := ob1_s hf
  refine r_getR (ci := 9) (k := 11) K dX9_steadyWithout_29 inX9 rfl (by decide) rfl q_368 e18 ?_
  exact r_aret K dX9_steadyWithout_32 hf (Nat.le_of_ble_eq_true rfl) (Nat.le_of_ble_eq_true rfl)
theorem ceX9_without : CE yX9_without 2 := ⟨by decide, by decide, by decide +kernel⟩
abbrev rmX9_without : Room := { frames := 6, cells := 0, slots := 0, locals := 146 }
def fX9_without (a0 : Nat) (x1 : Int32) (x2 : Int32) (h : AH) : Option (Int64 × AH) :=
  ob1 (fX9_isOneOf x1 (3 : Int32)) fun r1 =>
  if r1 = (0 : Int32) then
    some ((-9223372036854775808 : Int64), h)
  else
    ob1 (gR h a0 9 0) fun b3 =>
    gd (ckO h b3 1) <|
    ob1 (fX1_hasRoad b3 x2 h) fun r6 =>
    if r6 = (0 : Int32) then
      some ((-9223372036854775808 : Int64), h)
    else
      ob2 (fX9_steadyOf a0 x1 h) fun b8 g9 =>
      ob2 (fX9_steadyWithout a0 x1 x2 g9) fun b11 g12 =>
      ob1 (fX9_difference b8 b11 g12) fun r14 =>
      some (r14, g12)
set_option maxHeartbeats 4000000 in
set_option maxRecDepth 100000 in
theorem mX9_without (l : Launch) {G : GG} {b0 : Nat} {h : AH} {a0 : Nat} {x1 : Int32} {x2 : Int32} {rr : Int64} {hh : AH} (ht : isO h a0 9) (hf : fX9_without a0 x1 x2 h = some (rr, hh)) : MM l yX9_without cX9_without 3 (some .long) rmX9_without G b0 h [.ref a0, .int x1, .int x2] (some (.long rr)) hh := by
  refine MM.of (own := RX9) (lv0 := [(0, .ref a0), (1, .int x1), (2, .int x2)]) (by decide) rfl (Nat.le_of_ble_eq_true rfl) rfl ?_
  intro p e s m args below meth c K hnm
  unfold fX9_without at hf
  refine r_iload_n K 1 dX9_without_0 rfl ?_
  refine r_iconst (v := (3 : Int32)) K dX9_without_1 (by decide) ?_
  obtain ⟨r1, e2, hf⟩ := ob1_s hf
  refine r_callS (As := [.int x1, .int (3 : Int32)]) (rest := []) (st1 := [.int r1]) (cells1 := 0) (slots1 := 0) K (mX9_isOneOf l e2) dX9_without_2 ceX9_isOneOf q_431 q_426 q_75 q_427 ⟨Nat.le_of_ble_eq_true rfl, Nat.le_of_ble_eq_true rfl⟩ (Nat.le_of_ble_eq_true rfl) ⟨Nat.le_of_ble_eq_true rfl, Nat.le_of_ble_eq_true rfl⟩ ?_ rfl rfl rfl rfl
  refine r_if_eq (tgt := 19) K dX9_without_5 (by decide) (fun c17 => ?_) (fun c17 => ?_)
  · replace hf := ite_t hf c17
    refine r_ldc2 K dX9_without_19 q_467 ?_
    exact r_lret K dX9_without_22 hf (Nat.le_of_ble_eq_true rfl) (Nat.le_of_ble_eq_true rfl)
  · replace hf := ite_f hf c17
    refine r_aload_n K 0 dX9_without_8 rfl ?_
    obtain ⟨b3, e4, hf⟩ := ob1_s hf
    refine r_getR (ci := 9) (k := 0) K dX9_without_9 inX9 rfl (by decide) rfl q_357 e4 ?_
    refine r_iload_n K 2 dX9_without_12 rfl ?_
    obtain ⟨z5, hf⟩ := gd_s hf
    obtain ⟨r6, e7, hf⟩ := ob1_s hf
    refine r_callV (As := [.int x2]) (rest := []) (st1 := [.int r6]) (cells1 := 0) (slots1 := 0) (b := b3) (ci := 1) K (fun z => mX1_hasRoad l z e7) dX9_without_13 rfl (fun _ => isO_of z5) rfl ceX1_hasRoad q_448 q_449 q_450 q_76 q_451 ⟨Nat.le_of_ble_eq_true rfl, Nat.le_of_ble_eq_true rfl⟩ (Nat.le_of_ble_eq_true rfl) ⟨Nat.le_of_ble_eq_true rfl, Nat.le_of_ble_eq_true rfl⟩ ?_ rfl rfl rfl rfl
    refine r_if_ne (tgt := 23) K dX9_without_16 (by decide) (fun c16 => ?_) (fun c16 => ?_)
    · replace hf := ite_f hf c16
      refine r_aload_n K 0 dX9_without_23 rfl ?_
      refine r_iload_n K 1 dX9_without_24 rfl ?_
      obtain ⟨b8, g9, e10, hf⟩ := ob2_s hf
      refine r_callV (As := [.int x1]) (rest := []) (st1 := [.ref b8]) (cells1 := 0) (slots1 := 0) (b := a0) (ci := 9) K (fun z => mX9_steadyOf l z e10) dX9_without_25 rfl (fun z => z _ _ ht) rfl ceX9_steadyOf q_597 q_599 q_12 q_75 q_600 ⟨Nat.le_of_ble_eq_true rfl, Nat.le_of_ble_eq_true rfl⟩ (Nat.le_of_ble_eq_true rfl) ⟨Nat.le_of_ble_eq_true rfl, Nat.le_of_ble_eq_true rfl⟩ ?_ rfl rfl rfl rfl
      refine r_aload_n K 0 dX9_without_28 rfl ?_
      refine r_iload_n K 1 dX9_without_29 rfl ?_
      refine r_iload_n K 2 dX9_without_30 rfl ?_
      obtain ⟨b11, g12, e13, hf⟩ := ob2_s hf
      refine r_callV (As := [.int x1, .int x2]) (rest := [.ref b8]) (st1 := [.ref b11, .ref b8]) (cells1 := 0) (slots1 := 0) (b := a0) (ci := 9) K (fun z => mX9_steadyWithout l z e13) dX9_without_31 rfl (fun z => z _ _ ht) rfl ceX9_steadyWithout q_769 q_771 q_26 q_75 q_772 ⟨Nat.le_of_ble_eq_true rfl, Nat.le_of_ble_eq_true rfl⟩ (Nat.le_of_ble_eq_true rfl) ⟨Nat.le_of_ble_eq_true rfl, Nat.le_of_ble_eq_true rfl⟩ ?_ rfl rfl rfl rfl
      obtain ⟨r14, e15, hf⟩ := ob1_s hf
      refine r_callS (As := [.ref b8, .ref b11]) (rest := []) (st1 := [.long r14]) (cells1 := 0) (slots1 := 0) K (mX9_difference l e15) dX9_without_34 ceX9_difference q_773 q_774 q_75 q_775 ⟨Nat.le_of_ble_eq_true rfl, Nat.le_of_ble_eq_true rfl⟩ (Nat.le_of_ble_eq_true rfl) ⟨Nat.le_of_ble_eq_true rfl, Nat.le_of_ble_eq_true rfl⟩ ?_ rfl rfl rfl rfl
      exact r_lret K dX9_without_37 hf (Nat.le_of_ble_eq_true rfl) (Nat.le_of_ble_eq_true rfl)
    · replace hf := ite_t hf c16
      refine r_ldc2 K dX9_without_19 q_467 ?_
      exact r_lret K dX9_without_22 hf (Nat.le_of_ble_eq_true rfl) (Nat.le_of_ble_eq_true rfl)
theorem ceX9_verdict : CE yX9_verdict 2 := ⟨by decide, by decide, by decide +kernel⟩
abbrev rmX9_verdict : Room := { frames := 0, cells := 0, slots := 0, locals := 0 }
def fX9_verdict (a0 : Nat) (a1 : Nat) (h : AH) : Option Int32 :=
  ob1 (gI h a0 5 3) fun v1 =>
  if v1 = (0 : Int32) then
    some (-3 : Int32)
  else
    ob1 (gI h a1 5 3) fun v3 =>
    if v3 = (0 : Int32) then
      some (-3 : Int32)
    else
      ob1 (gR h a0 5 2) fun b5 =>
      ob1 (gI h b5 6 1) fun v7 =>
      if v7 = (0 : Int32) then
        ob1 (gR h a1 5 2) fun b9 =>
        ob1 (gI h b9 6 1) fun v11 =>
        if v11 = (0 : Int32) then
          ob1 (gR h a1 5 2) fun b13 =>
          ob1 (gL h b13 6 0) fun v15 =>
          ob1 (gR h a0 5 2) fun b17 =>
          ob1 (gL h b17 6 0) fun v19 =>
          if v19 ≤ v15 then
            some (0 : Int32)
          else
            some (1 : Int32)
        else
          some (-6 : Int32)
      else
        some (-6 : Int32)
set_option maxHeartbeats 4000000 in
set_option maxRecDepth 100000 in
theorem mX9_verdict (l : Launch) {G : GG} {b0 : Nat} {h : AH} {a0 : Nat} {a1 : Nat} {rr : Int32} (hf : fX9_verdict a0 a1 h = some rr) : MM l yX9_verdict cX9_verdict 2 (some .int) rmX9_verdict G b0 h [.ref a0, .ref a1] (some (.int rr)) h := by
  refine MM.of (own := RX9) (lv0 := [(0, .ref a0), (1, .ref a1)]) (by decide) rfl (Nat.le_of_ble_eq_true rfl) rfl ?_
  intro p e s m args below meth c K hnm
  unfold fX9_verdict at hf
  refine r_aload_n K 0 dX9_verdict_0 rfl ?_
  obtain ⟨v1, e2, hf⟩ := ob1_s hf
  refine r_getI (ci := 5) (k := 3) K dX9_verdict_1 inX5 rfl (by decide) rfl q_275 e2 ?_
  refine r_if_eq (tgt := 14) K dX9_verdict_4 (by decide) (fun c25 => ?_) (fun c25 => ?_)
  · replace hf := ite_t hf c25
    refine r_bipush (v := (-3 : Int32)) K dX9_verdict_14 (by decide) ?_
    exact r_iret K dX9_verdict_16 (retp hf) (Nat.le_of_ble_eq_true rfl) (Nat.le_of_ble_eq_true rfl)
  · replace hf := ite_f hf c25
    refine r_aload_n K 1 dX9_verdict_7 rfl ?_
    obtain ⟨v3, e4, hf⟩ := ob1_s hf
    refine r_getI (ci := 5) (k := 3) K dX9_verdict_8 inX5 rfl (by decide) rfl q_275 e4 ?_
    refine r_if_ne (tgt := 17) K dX9_verdict_11 (by decide) (fun c24 => ?_) (fun c24 => ?_)
    · replace hf := ite_f hf c24
      refine r_aload_n K 0 dX9_verdict_17 rfl ?_
      obtain ⟨b5, e6, hf⟩ := ob1_s hf
      refine r_getR (ci := 5) (k := 2) K dX9_verdict_18 inX5 rfl (by decide) rfl q_273 e6 ?_
      obtain ⟨v7, e8, hf⟩ := ob1_s hf
      refine r_getI (ci := 6) (k := 1) K dX9_verdict_21 inX6 rfl (by decide) rfl q_233 e8 ?_
      refine r_if_ne (tgt := 37) K dX9_verdict_24 (by decide) (fun c23 => ?_) (fun c23 => ?_)
      · replace hf := ite_f hf c23
        refine r_bipush (v := (-6 : Int32)) K dX9_verdict_37 (by decide) ?_
        exact r_iret K dX9_verdict_39 (retp hf) (Nat.le_of_ble_eq_true rfl) (Nat.le_of_ble_eq_true rfl)
      · replace hf := ite_t hf c23
        refine r_aload_n K 1 dX9_verdict_27 rfl ?_
        obtain ⟨b9, e10, hf⟩ := ob1_s hf
        refine r_getR (ci := 5) (k := 2) K dX9_verdict_28 inX5 rfl (by decide) rfl q_273 e10 ?_
        obtain ⟨v11, e12, hf⟩ := ob1_s hf
        refine r_getI (ci := 6) (k := 1) K dX9_verdict_31 inX6 rfl (by decide) rfl q_233 e12 ?_
        refine r_if_eq (tgt := 40) K dX9_verdict_34 (by decide) (fun c22 => ?_) (fun c22 => ?_)
        · replace hf := ite_t hf c22
          refine r_aload_n K 1 dX9_verdict_40 rfl ?_
          obtain ⟨b13, e14, hf⟩ := ob1_s hf
          refine r_getR (ci := 5) (k := 2) K dX9_verdict_41 inX5 rfl (by decide) rfl q_273 e14 ?_
          obtain ⟨v15, e16, hf⟩ := ob1_s hf
          refine r_getL (ci := 6) (k := 0) K dX9_verdict_44 inX6 rfl (by decide) rfl q_230 e16 ?_
          refine r_aload_n K 0 dX9_verdict_47 rfl ?_
          obtain ⟨b17, e18, hf⟩ := ob1_s hf
          refine r_getR (ci := 5) (k := 2) K dX9_verdict_48 inX5 rfl (by decide) rfl q_273 e18 ?_
          obtain ⟨v19, e20, hf⟩ := ob1_s hf
          refine r_getL (ci := 6) (k := 0) K dX9_verdict_51 inX6 rfl (by decide) rfl q_230 e20 ?_
          refine r_lif_ge (tgt := 62) K dX9_verdict_54 dX9_verdict_55 (by decide) (fun c21 => ?_) (fun c21 => ?_)
          · replace hf := ite_t hf c21
            refine r_iconst (v := (0 : Int32)) K dX9_verdict_62 (by decide) ?_
            exact r_iret K dX9_verdict_63 (retp hf) (Nat.le_of_ble_eq_true rfl) (Nat.le_of_ble_eq_true rfl)
          · replace hf := ite_f hf c21
            refine r_iconst (v := (1 : Int32)) K dX9_verdict_58 (by decide) ?_
            refine r_goto (tgt := 63) K dX9_verdict_59 (by decide) ?_
            exact r_iret K dX9_verdict_63 (retp hf) (Nat.le_of_ble_eq_true rfl) (Nat.le_of_ble_eq_true rfl)
        · replace hf := ite_f hf c22
          refine r_bipush (v := (-6 : Int32)) K dX9_verdict_37 (by decide) ?_
          exact r_iret K dX9_verdict_39 (retp hf) (Nat.le_of_ble_eq_true rfl) (Nat.le_of_ble_eq_true rfl)
    · replace hf := ite_t hf c24
      refine r_bipush (v := (-3 : Int32)) K dX9_verdict_14 (by decide) ?_
      exact r_iret K dX9_verdict_16 (retp hf) (Nat.le_of_ble_eq_true rfl) (Nat.le_of_ble_eq_true rfl)
theorem ceX9_paradox : CE yX9_paradox 2 := ⟨by decide, by decide, by decide +kernel⟩
abbrev rmX9_paradox : Room := { frames := 6, cells := 0, slots := 0, locals := 146 }
def fX9_paradox (a0 : Nat) (x1 : Int32) (x2 : Int32) (h : AH) : Option (Int32 × AH) :=
  ob1 (fX9_isOneOf x1 (3 : Int32)) fun r1 =>
  if r1 = (0 : Int32) then
    some ((-1 : Int32), h)
  else
    ob1 (gR h a0 9 0) fun b3 =>
    gd (ckO h b3 1) <|
    ob1 (fX1_hasRoad b3 x2 h) fun r6 =>
    if r6 = (0 : Int32) then
      some ((-1 : Int32), h)
    else
      ob2 (fX9_steadyOf a0 x1 h) fun b8 g9 =>
      ob2 (fX9_steadyWithout a0 x1 x2 g9) fun b11 g12 =>
      ob1 (fX9_verdict b8 b11 g12) fun r14 =>
      some (r14, g12)
set_option maxHeartbeats 4000000 in
set_option maxRecDepth 100000 in
theorem mX9_paradox (l : Launch) {G : GG} {b0 : Nat} {h : AH} {a0 : Nat} {x1 : Int32} {x2 : Int32} {rr : Int32} {hh : AH} (ht : isO h a0 9) (hf : fX9_paradox a0 x1 x2 h = some (rr, hh)) : MM l yX9_paradox cX9_paradox 3 (some .int) rmX9_paradox G b0 h [.ref a0, .int x1, .int x2] (some (.int rr)) hh := by
  refine MM.of (own := RX9) (lv0 := [(0, .ref a0), (1, .int x1), (2, .int x2)]) (by decide) rfl (Nat.le_of_ble_eq_true rfl) rfl ?_
  intro p e s m args below meth c K hnm
  unfold fX9_paradox at hf
  refine r_iload_n K 1 dX9_paradox_0 rfl ?_
  refine r_iconst (v := (3 : Int32)) K dX9_paradox_1 (by decide) ?_
  obtain ⟨r1, e2, hf⟩ := ob1_s hf
  refine r_callS (As := [.int x1, .int (3 : Int32)]) (rest := []) (st1 := [.int r1]) (cells1 := 0) (slots1 := 0) K (mX9_isOneOf l e2) dX9_paradox_2 ceX9_isOneOf q_431 q_426 q_75 q_427 ⟨Nat.le_of_ble_eq_true rfl, Nat.le_of_ble_eq_true rfl⟩ (Nat.le_of_ble_eq_true rfl) ⟨Nat.le_of_ble_eq_true rfl, Nat.le_of_ble_eq_true rfl⟩ ?_ rfl rfl rfl rfl
  refine r_if_eq (tgt := 19) K dX9_paradox_5 (by decide) (fun c17 => ?_) (fun c17 => ?_)
  · replace hf := ite_t hf c17
    refine r_iconst (v := (-1 : Int32)) K dX9_paradox_19 (by decide) ?_
    exact r_iret K dX9_paradox_20 hf (Nat.le_of_ble_eq_true rfl) (Nat.le_of_ble_eq_true rfl)
  · replace hf := ite_f hf c17
    refine r_aload_n K 0 dX9_paradox_8 rfl ?_
    obtain ⟨b3, e4, hf⟩ := ob1_s hf
    refine r_getR (ci := 9) (k := 0) K dX9_paradox_9 inX9 rfl (by decide) rfl q_357 e4 ?_
    refine r_iload_n K 2 dX9_paradox_12 rfl ?_
    obtain ⟨z5, hf⟩ := gd_s hf
    obtain ⟨r6, e7, hf⟩ := ob1_s hf
    refine r_callV (As := [.int x2]) (rest := []) (st1 := [.int r6]) (cells1 := 0) (slots1 := 0) (b := b3) (ci := 1) K (fun z => mX1_hasRoad l z e7) dX9_paradox_13 rfl (fun _ => isO_of z5) rfl ceX1_hasRoad q_448 q_449 q_450 q_76 q_451 ⟨Nat.le_of_ble_eq_true rfl, Nat.le_of_ble_eq_true rfl⟩ (Nat.le_of_ble_eq_true rfl) ⟨Nat.le_of_ble_eq_true rfl, Nat.le_of_ble_eq_true rfl⟩ ?_ rfl rfl rfl rfl
    refine r_if_ne (tgt := 21) K dX9_paradox_16 (by decide) (fun c16 => ?_) (fun c16 => ?_)
    · replace hf := ite_f hf c16
      refine r_aload_n K 0 dX9_paradox_21 rfl ?_
      refine r_iload_n K 1 dX9_paradox_22 rfl ?_
      obtain ⟨b8, g9, e10, hf⟩ := ob2_s hf
      refine r_callV (As := [.int x1]) (rest := []) (st1 := [.ref b8]) (cells1 := 0) (slots1 := 0) (b := a0) (ci := 9) K (fun z => mX9_steadyOf l z e10) dX9_paradox_23 rfl (fun z => z _ _ ht) rfl ceX9_steadyOf q_597 q_599 q_12 q_75 q_600 ⟨Nat.le_of_ble_eq_true rfl, Nat.le_of_ble_eq_true rfl⟩ (Nat.le_of_ble_eq_true rfl) ⟨Nat.le_of_ble_eq_true rfl, Nat.le_of_ble_eq_true rfl⟩ ?_ rfl rfl rfl rfl
      refine r_aload_n K 0 dX9_paradox_26 rfl ?_
      refine r_iload_n K 1 dX9_paradox_27 rfl ?_
      refine r_iload_n K 2 dX9_paradox_28 rfl ?_
      obtain ⟨b11, g12, e13, hf⟩ := ob2_s hf
      refine r_callV (As := [.int x1, .int x2]) (rest := [.ref b8]) (st1 := [.ref b11, .ref b8]) (cells1 := 0) (slots1 := 0) (b := a0) (ci := 9) K (fun z => mX9_steadyWithout l z e13) dX9_paradox_29 rfl (fun z => z _ _ ht) rfl ceX9_steadyWithout q_769 q_771 q_26 q_75 q_772 ⟨Nat.le_of_ble_eq_true rfl, Nat.le_of_ble_eq_true rfl⟩ (Nat.le_of_ble_eq_true rfl) ⟨Nat.le_of_ble_eq_true rfl, Nat.le_of_ble_eq_true rfl⟩ ?_ rfl rfl rfl rfl
      obtain ⟨r14, e15, hf⟩ := ob1_s hf
      refine r_callS (As := [.ref b8, .ref b11]) (rest := []) (st1 := [.int r14]) (cells1 := 0) (slots1 := 0) K (mX9_verdict l e15) dX9_paradox_32 ceX9_verdict q_780 q_781 q_75 q_782 ⟨Nat.le_of_ble_eq_true rfl, Nat.le_of_ble_eq_true rfl⟩ (Nat.le_of_ble_eq_true rfl) ⟨Nat.le_of_ble_eq_true rfl, Nat.le_of_ble_eq_true rfl⟩ ?_ rfl rfl rfl rfl
      exact r_iret K dX9_paradox_35 hf (Nat.le_of_ble_eq_true rfl) (Nat.le_of_ble_eq_true rfl)
    · replace hf := ite_t hf c16
      refine r_iconst (v := (-1 : Int32)) K dX9_paradox_19 (by decide) ?_
      exact r_iret K dX9_paradox_20 hf (Nat.le_of_ble_eq_true rfl) (Nat.le_of_ble_eq_true rfl)
theorem ceX9_paradoxes : CE yX9_paradoxes 1 := ⟨by decide, by decide, by decide +kernel⟩
abbrev rmX9_paradoxes : Room := { frames := 6, cells := 0, slots := 0, locals := 146 }
def fX9_paradoxes_L31 (a0 : Nat) (x1 : Int32) (a2 : Nat) (k : Int32 → AH → Option (Int32 × AH)) : Nat → Int32 → Int32 → AH → Option (Int32 × AH)
  | 0, _, _, _ => none
  | n + 1, x3, x4, h =>
    ob1 (gR h a0 9 0) fun b8 =>
    ob1 (gI h b8 1 1) fun v10 =>
    if v10 ≤ x4 then
      k x3 h
    else
      ob2 (fX9_steadyWithout a0 x1 x4 h) fun b12 g13 =>
      ob1 (fX9_verdict a2 b12 g13) fun r15 =>
      if r15 = (1 : Int32) then
        bnd (x3 ||| ((1 : Int32) <<< (x4 &&& 31))) fun y18 =>
        bnd (x4 + (1 : Int32)) fun y19 =>
        fX9_paradoxes_L31 a0 x1 a2 k n y18 y19 g13
      else
        bnd (x4 + (1 : Int32)) fun y17 =>
        fX9_paradoxes_L31 a0 x1 a2 k n x3 y17 g13
def fX9_paradoxes (a0 : Nat) (x1 : Int32) (h : AH) : Option (Int32 × AH) :=
  ob1 (fX9_isOneOf x1 (3 : Int32)) fun r1 =>
  if r1 = (0 : Int32) then
    some ((-1 : Int32), h)
  else
    ob2 (fX9_steadyOf a0 x1 h) fun b3 g4 =>
    ob1 (gI g4 b3 5 3) fun v6 =>
    if v6 = (0 : Int32) then
      some ((-3 : Int32), g4)
    else
      fX9_paradoxes_L31 a0 x1 b3 (fun (y22 : Int32) (g23 : AH) =>
        some (y22, g23)
      ) lf (0 : Int32) (0 : Int32) g4
set_option maxHeartbeats 4000000 in
set_option maxRecDepth 100000 in
theorem wX9_paradoxes_L31 {p : Program} {l : Launch} {e : Env} {s : State} {m : MethodId} {args : Array Value} {below : List Frame} {meth : Method} {c : Code} {G : GG} {b0 : Nat} {h0 : AH} {a0 : Nat} {x1 : Int32} {a2 : Nat} {rr : Int32} {hh : AH} (K : CX p s m args meth c cX9_paradoxes 5 RX9 (some .int) G b0) (ht : isO h0 a0 9) (k : Int32 → AH → Option (Int32 × AH)) (hk : ∀ (x3 : Int32) (h : AH), k x3 h = some (rr, hh) → WA p l e rmX9_paradoxes s m args below meth c (MQ below (QG G b0 h0 (some (.int rr)) hh) args s (rmX9_paradoxes).cells (rmX9_paradoxes).slots (AB b0)) G b0 5 h0 0 0 h 71 [(3, .int x3)] []) : ∀ (n : Nat) (x3 : Int32) (x4 : Int32) (h : AH), fX9_paradoxes_L31 a0 x1 a2 k n x3 x4 h = some (rr, hh) → WA p l e rmX9_paradoxes s m args below meth c (MQ below (QG G b0 h0 (some (.int rr)) hh) args s (rmX9_paradoxes).cells (rmX9_paradoxes).slots (AB b0)) G b0 5 h0 0 0 h 31 [(0, .ref a0), (1, .int x1), (2, .ref a2), (3, .int x3), (4, .int x4)] [] := by
  intro n
  induction n with
  | zero =>
    intro x3 x4 h hf
    rw [fX9_paradoxes_L31] at hf
    cases hf
  | succ n ih =>
    intro x3 x4 h hf
    rw [fX9_paradoxes_L31] at hf
    refine r_iload K 4 dX9_paradoxes_31 rfl ?_
    refine r_aload_n K 0 dX9_paradoxes_33 rfl ?_
    obtain ⟨b8, e9, hf⟩ := ob1_s hf
    refine r_getR (ci := 9) (k := 0) K dX9_paradoxes_34 inX9 rfl (by decide) rfl q_357 e9 ?_
    obtain ⟨v10, e11, hf⟩ := ob1_s hf
    refine r_getI (ci := 1) (k := 1) K dX9_paradoxes_37 inX1 rfl (by decide) rfl q_154 e11 ?_
    refine r_icmp_ge (tgt := 71) K dX9_paradoxes_40 (by decide) (fun c21 => ?_) (fun c21 => ?_)
    · replace hf := ite_t hf c21
      refine r_lv [3] rfl ?_
      exact hk x3 h hf
    · replace hf := ite_f hf c21
      refine r_aload_n K 2 dX9_paradoxes_43 rfl ?_
      refine r_aload_n K 0 dX9_paradoxes_44 rfl ?_
      refine r_iload_n K 1 dX9_paradoxes_45 rfl ?_
      refine r_iload K 4 dX9_paradoxes_46 rfl ?_
      obtain ⟨b12, g13, e14, hf⟩ := ob2_s hf
      refine r_callV (As := [.int x1, .int x4]) (rest := [.ref a2]) (st1 := [.ref b12, .ref a2]) (cells1 := 0) (slots1 := 0) (b := a0) (ci := 9) K (fun z => mX9_steadyWithout l z e14) dX9_paradoxes_48 rfl (fun z => z _ _ ht) rfl ceX9_steadyWithout q_769 q_771 q_26 q_75 q_772 ⟨Nat.le_of_ble_eq_true rfl, Nat.le_of_ble_eq_true rfl⟩ (Nat.le_of_ble_eq_true rfl) ⟨Nat.le_of_ble_eq_true rfl, Nat.le_of_ble_eq_true rfl⟩ ?_ rfl rfl rfl rfl
      obtain ⟨r15, e16, hf⟩ := ob1_s hf
      refine r_callS (As := [.ref a2, .ref b12]) (rest := []) (st1 := [.int r15]) (cells1 := 0) (slots1 := 0) K (mX9_verdict l e16) dX9_paradoxes_51 ceX9_verdict q_780 q_781 q_75 q_782 ⟨Nat.le_of_ble_eq_true rfl, Nat.le_of_ble_eq_true rfl⟩ (Nat.le_of_ble_eq_true rfl) ⟨Nat.le_of_ble_eq_true rfl, Nat.le_of_ble_eq_true rfl⟩ ?_ rfl rfl rfl rfl
      refine r_iconst (v := (1 : Int32)) K dX9_paradoxes_54 (by decide) ?_
      refine r_icmp_ne (tgt := 65) K dX9_paradoxes_55 (by decide) (fun c20 => ?_) (fun c20 => ?_)
      · replace hf := ite_f hf c20
        obtain ⟨y17, ey17, hf⟩ := bnd_g hf
        refine r_iinc (lv1 := [(4, .int y17), (0, .ref a0), (1, .int x1), (2, .ref a2), (3, .int x3)]) K 4 dX9_paradoxes_65 rfl (by rw [ey17]; rfl) (by decide) rfl ?_
        refine r_goto (tgt := 31) K dX9_paradoxes_68 (by decide) ?_
        refine r_lv [1, 2, 3, 4, 0] rfl ?_
        exact ih x3 y17 g13 hf
      · replace hf := ite_t hf c20
        refine r_iload_n K 3 dX9_paradoxes_58 rfl ?_
        refine r_iconst (v := (1 : Int32)) K dX9_paradoxes_59 (by decide) ?_
        refine r_iload K 4 dX9_paradoxes_60 rfl ?_
        refine r_ishl K dX9_paradoxes_62 ?_
        refine r_ior K dX9_paradoxes_63 ?_
        obtain ⟨y18, ey18, hf⟩ := bnd_g hf
        refine r_nmi ey18 ?_
        refine r_istore_n (lv1 := [(3, .int y18), (0, .ref a0), (1, .int x1), (2, .ref a2), (4, .int x4)]) K dX9_paradoxes_64 (by decide) rfl ?_
        obtain ⟨y19, ey19, hf⟩ := bnd_g hf
        refine r_iinc (lv1 := [(4, .int y19), (3, .int y18), (0, .ref a0), (1, .int x1), (2, .ref a2)]) K 4 dX9_paradoxes_65 rfl (by rw [ey19]; rfl) (by decide) rfl ?_
        refine r_goto (tgt := 31) K dX9_paradoxes_68 (by decide) ?_
        refine r_lv [2, 3, 4, 1, 0] rfl ?_
        exact ih y18 y19 g13 hf
set_option maxHeartbeats 4000000 in
set_option maxRecDepth 100000 in
theorem mX9_paradoxes (l : Launch) {G : GG} {b0 : Nat} {h : AH} {a0 : Nat} {x1 : Int32} {rr : Int32} {hh : AH} (ht : isO h a0 9) (hf : fX9_paradoxes a0 x1 h = some (rr, hh)) : MM l yX9_paradoxes cX9_paradoxes 5 (some .int) rmX9_paradoxes G b0 h [.ref a0, .int x1] (some (.int rr)) hh := by
  refine MM.of (own := RX9) (lv0 := [(0, .ref a0), (1, .int x1)]) (by decide) rfl (Nat.le_of_ble_eq_true rfl) rfl ?_
  intro p e s m args below meth c K hnm
  unfold fX9_paradoxes at hf
  refine r_iload_n K 1 dX9_paradoxes_0 rfl ?_
  refine r_iconst (v := (3 : Int32)) K dX9_paradoxes_1 (by decide) ?_
  obtain ⟨r1, e2, hf⟩ := ob1_s hf
  refine r_callS (As := [.int x1, .int (3 : Int32)]) (rest := []) (st1 := [.int r1]) (cells1 := 0) (slots1 := 0) K (mX9_isOneOf l e2) dX9_paradoxes_2 ceX9_isOneOf q_431 q_426 q_75 q_427 ⟨Nat.le_of_ble_eq_true rfl, Nat.le_of_ble_eq_true rfl⟩ (Nat.le_of_ble_eq_true rfl) ⟨Nat.le_of_ble_eq_true rfl, Nat.le_of_ble_eq_true rfl⟩ ?_ rfl rfl rfl rfl
  refine r_if_ne (tgt := 10) K dX9_paradoxes_5 (by decide) (fun c25 => ?_) (fun c25 => ?_)
  · replace hf := ite_f hf c25
    refine r_aload_n K 0 dX9_paradoxes_10 rfl ?_
    refine r_iload_n K 1 dX9_paradoxes_11 rfl ?_
    obtain ⟨b3, g4, e5, hf⟩ := ob2_s hf
    refine r_callV (As := [.int x1]) (rest := []) (st1 := [.ref b3]) (cells1 := 0) (slots1 := 0) (b := a0) (ci := 9) K (fun z => mX9_steadyOf l z e5) dX9_paradoxes_12 rfl (fun z => z _ _ ht) rfl ceX9_steadyOf q_597 q_599 q_12 q_75 q_600 ⟨Nat.le_of_ble_eq_true rfl, Nat.le_of_ble_eq_true rfl⟩ (Nat.le_of_ble_eq_true rfl) ⟨Nat.le_of_ble_eq_true rfl, Nat.le_of_ble_eq_true rfl⟩ ?_ rfl rfl rfl rfl
    refine r_astore_n (lv1 := [(2, .ref b3), (0, .ref a0), (1, .int x1)]) K dX9_paradoxes_15 (by decide) rfl ?_
    refine r_aload_n K 0 dX9_paradoxes_16 rfl ?_
    obtain ⟨v6, e7, hf⟩ := ob1_s hf
    refine r_getI (ci := 5) (k := 3) K dX9_paradoxes_17 inX5 rfl (by decide) rfl q_275 e7 ?_
    refine r_if_ne (tgt := 26) K dX9_paradoxes_20 (by decide) (fun c24 => ?_) (fun c24 => ?_)
    · replace hf := ite_f hf c24
      refine r_iconst (v := (0 : Int32)) K dX9_paradoxes_26 (by decide) ?_
      refine r_istore_n (lv1 := [(3, .int (0 : Int32)), (2, .ref b3), (0, .ref a0), (1, .int x1)]) K dX9_paradoxes_27 (by decide) rfl ?_
      refine r_iconst (v := (0 : Int32)) K dX9_paradoxes_28 (by decide) ?_
      refine r_istore (lv1 := [(4, .int (0 : Int32)), (3, .int (0 : Int32)), (2, .ref b3), (0, .ref a0), (1, .int x1)]) K dX9_paradoxes_29 (by decide) rfl ?_
      refine r_lv [3, 4, 2, 1, 0] rfl ?_
      refine wX9_paradoxes_L31 K ht _ (fun y22 g23 hf => ?_) lf (0 : Int32) (0 : Int32) g4 hf
      refine r_iload_n K 0 dX9_paradoxes_71 rfl ?_
      exact r_iret K dX9_paradoxes_72 hf (Nat.le_of_ble_eq_true rfl) (Nat.le_of_ble_eq_true rfl)
    · replace hf := ite_t hf c24
      refine r_bipush (v := (-3 : Int32)) K dX9_paradoxes_23 (by decide) ?_
      exact r_iret K dX9_paradoxes_25 hf (Nat.le_of_ble_eq_true rfl) (Nat.le_of_ble_eq_true rfl)
  · replace hf := ite_t hf c25
    refine r_iconst (v := (-1 : Int32)) K dX9_paradoxes_8 (by decide) ?_
    exact r_iret K dX9_paradoxes_9 hf (Nat.le_of_ble_eq_true rfl) (Nat.le_of_ble_eq_true rfl)
theorem ceX9_adding : CE yX9_adding 5 := ⟨by decide, by decide, by decide +kernel⟩
abbrev rmX9_adding : Room := { frames := 6, cells := 1, slots := 7, locals := 145 }
def fX9_adding (a0 : Nat) (x1 : Int32) (x2 : Int32) (x3 : Int32) (x4 : Int64) (x6 : Int64) (h : AH) : Option (Int64 × AH) :=
  ob1 (fX9_isOneOf x1 (3 : Int32)) fun r1 =>
  if r1 = (0 : Int32) then
    some ((-9223372036854775808 : Int64), h)
  else
    ob1 (gR h a0 9 0) fun b3 =>
    gd (ckO h b3 1) <|
    ob1 (fX1_joins b3 x2 x3 h) fun r6 =>
    if r6 = (0 : Int32) then
      some ((-9223372036854775808 : Int64), h)
    else
      ob1 (fX9_isWithin x4 (100000000000000000 : Int64)) fun r8 =>
      if r8 = (0 : Int32) then
        some ((-9223372036854775808 : Int64), h)
      else
        ob1 (fX9_isWithin x6 (100000000000000 : Int64)) fun r10 =>
        if r10 = (0 : Int32) then
          some ((-9223372036854775808 : Int64), h)
        else
          ob1 (gR h a0 9 9) fun b12 =>
          ob1 (gR h a0 9 0) fun b14 =>
          gd (ckO h b12 1) <|
          ob1 (fX1_copyFrom b12 b14 h) fun g17 =>
          ob1 (gR g17 a0 9 9) fun b19 =>
          bnd g17.1 fun b21 =>
          bnd (hnew g17 (.inr (3, [.int 0, .int 0, .int 0, .long 0, .long 0, .long 0, .int 0]))) fun g22 =>
          ob1 (fX3_init b21 x2 x3 (1 : Int32) x4 x6 (0 : Int64) (0 : Int32) g22) fun g23 =>
          gd (ckO g23 b19 1) <|
          ob1 (fX1_append b19 b21 g23) fun g26 =>
          ob1 (gR g26 a0 9 10) fun b28 =>
          ob1 (gR g26 a0 9 9) fun b30 =>
          gd (ckO g26 b28 2) <|
          ob1 (fX2_find b28 b30 (-1 : Int32) g26) fun g33 =>
          ob1 (gR g33 a0 9 11) fun b35 =>
          ob1 (gR g33 a0 9 9) fun b37 =>
          ob1 (gR g33 a0 9 10) fun b39 =>
          gd (ckO g33 b35 5) <|
          ob1 (fX5_settle b35 b37 b39 x1 g33) fun g42 =>
          ob2 (fX9_steadyOf a0 x1 g42) fun b44 g45 =>
          ob1 (gR g45 a0 9 11) fun b47 =>
          ob1 (fX9_difference b44 b47 g45) fun r49 =>
          some (r49, g45)
set_option maxHeartbeats 4000000 in
set_option maxRecDepth 100000 in
theorem mX9_adding (l : Launch) {G : GG} {b0 : Nat} {h : AH} {a0 : Nat} {x1 : Int32} {x2 : Int32} {x3 : Int32} {x4 : Int64} {x6 : Int64} {rr : Int64} {hh : AH} (ht : isO h a0 9) (hf : fX9_adding a0 x1 x2 x3 x4 x6 h = some (rr, hh)) : MM l yX9_adding cX9_adding 8 (some .long) rmX9_adding G b0 h [.ref a0, .int x1, .int x2, .int x3, .long x4, .long x6] (some (.long rr)) hh := by
  refine MM.of (own := RX9) (lv0 := [(0, .ref a0), (1, .int x1), (2, .int x2), (3, .int x3), (4, .long x4), (6, .long x6)]) (by decide) rfl (Nat.le_of_ble_eq_true rfl) rfl ?_
  intro p e s m args below meth c K hnm
  unfold fX9_adding at hf
  refine r_iload_n K 1 dX9_adding_0 rfl ?_
  refine r_iconst (v := (3 : Int32)) K dX9_adding_1 (by decide) ?_
  obtain ⟨r1, e2, hf⟩ := ob1_s hf
  refine r_callS (As := [.int x1, .int (3 : Int32)]) (rest := []) (st1 := [.int r1]) (cells1 := 0) (slots1 := 0) K (mX9_isOneOf l e2) dX9_adding_2 ceX9_isOneOf q_431 q_426 q_75 q_427 ⟨Nat.le_of_ble_eq_true rfl, Nat.le_of_ble_eq_true rfl⟩ (Nat.le_of_ble_eq_true rfl) ⟨Nat.le_of_ble_eq_true rfl, Nat.le_of_ble_eq_true rfl⟩ ?_ rfl rfl rfl rfl
  refine r_if_eq (tgt := 20) K dX9_adding_5 (by decide) (fun c54 => ?_) (fun c54 => ?_)
  · replace hf := ite_t hf c54
    refine r_ldc2 K dX9_adding_20 q_467 ?_
    exact r_lret K dX9_adding_23 hf (Nat.le_of_ble_eq_true rfl) (Nat.le_of_ble_eq_true rfl)
  · replace hf := ite_f hf c54
    refine r_aload_n K 0 dX9_adding_8 rfl ?_
    obtain ⟨b3, e4, hf⟩ := ob1_s hf
    refine r_getR (ci := 9) (k := 0) K dX9_adding_9 inX9 rfl (by decide) rfl q_357 e4 ?_
    refine r_iload_n K 2 dX9_adding_12 rfl ?_
    refine r_iload_n K 3 dX9_adding_13 rfl ?_
    obtain ⟨z5, hf⟩ := gd_s hf
    obtain ⟨r6, e7, hf⟩ := ob1_s hf
    refine r_callV (As := [.int x2, .int x3]) (rest := []) (st1 := [.int r6]) (cells1 := 0) (slots1 := 0) (b := b3) (ci := 1) K (fun z => mX1_joins l z e7) dX9_adding_14 rfl (fun _ => isO_of z5) rfl ceX1_joins q_421 q_422 q_423 q_76 q_424 ⟨Nat.le_of_ble_eq_true rfl, Nat.le_of_ble_eq_true rfl⟩ (Nat.le_of_ble_eq_true rfl) ⟨Nat.le_of_ble_eq_true rfl, Nat.le_of_ble_eq_true rfl⟩ ?_ rfl rfl rfl rfl
    refine r_if_ne (tgt := 24) K dX9_adding_17 (by decide) (fun c53 => ?_) (fun c53 => ?_)
    · replace hf := ite_f hf c53
      refine r_lload K 4 dX9_adding_24 rfl ?_
      refine r_ldc2 K dX9_adding_26 q_432 ?_
      obtain ⟨r8, e9, hf⟩ := ob1_s hf
      refine r_callS (As := [.long x4, .long (100000000000000000 : Int64)]) (rest := []) (st1 := [.int r8]) (cells1 := 0) (slots1 := 0) K (mX9_isWithin l e9) dX9_adding_29 ceX9_isWithin q_433 q_434 q_75 q_435 ⟨Nat.le_of_ble_eq_true rfl, Nat.le_of_ble_eq_true rfl⟩ (Nat.le_of_ble_eq_true rfl) ⟨Nat.le_of_ble_eq_true rfl, Nat.le_of_ble_eq_true rfl⟩ ?_ rfl rfl rfl rfl
      refine r_if_eq (tgt := 46) K dX9_adding_32 (by decide) (fun c52 => ?_) (fun c52 => ?_)
      · replace hf := ite_t hf c52
        refine r_ldc2 K dX9_adding_46 q_467 ?_
        exact r_lret K dX9_adding_49 hf (Nat.le_of_ble_eq_true rfl) (Nat.le_of_ble_eq_true rfl)
      · replace hf := ite_f hf c52
        refine r_lload K 5 dX9_adding_35 rfl ?_
        refine r_ldc2 K dX9_adding_37 q_436 ?_
        obtain ⟨r10, e11, hf⟩ := ob1_s hf
        refine r_callS (As := [.long x6, .long (100000000000000 : Int64)]) (rest := []) (st1 := [.int r10]) (cells1 := 0) (slots1 := 0) K (mX9_isWithin l e11) dX9_adding_40 ceX9_isWithin q_433 q_434 q_75 q_435 ⟨Nat.le_of_ble_eq_true rfl, Nat.le_of_ble_eq_true rfl⟩ (Nat.le_of_ble_eq_true rfl) ⟨Nat.le_of_ble_eq_true rfl, Nat.le_of_ble_eq_true rfl⟩ ?_ rfl rfl rfl rfl
        refine r_if_ne (tgt := 50) K dX9_adding_43 (by decide) (fun c51 => ?_) (fun c51 => ?_)
        · replace hf := ite_f hf c51
          refine r_aload_n K 0 dX9_adding_50 rfl ?_
          obtain ⟨b12, e13, hf⟩ := ob1_s hf
          refine r_getR (ci := 9) (k := 9) K dX9_adding_51 inX9 rfl (by decide) rfl q_366 e13 ?_
          refine r_aload_n K 0 dX9_adding_54 rfl ?_
          obtain ⟨b14, e15, hf⟩ := ob1_s hf
          refine r_getR (ci := 9) (k := 0) K dX9_adding_55 inX9 rfl (by decide) rfl q_357 e15 ?_
          obtain ⟨z16, hf⟩ := gd_s hf
          obtain ⟨g17, e18, hf⟩ := ob1_s hf
          refine r_callV (As := [.ref b14]) (rest := []) (st1 := []) (cells1 := 0) (slots1 := 0) (b := b12) (ci := 1) K (fun z => mX1_copyFrom l z e18) dX9_adding_58 rfl (fun _ => isO_of z16) rfl ceX1_copyFrom q_511 q_512 q_513 q_76 q_514 ⟨Nat.le_of_ble_eq_true rfl, Nat.le_of_ble_eq_true rfl⟩ (Nat.le_of_ble_eq_true rfl) ⟨Nat.le_of_ble_eq_true rfl, Nat.le_of_ble_eq_true rfl⟩ ?_ rfl rfl rfl rfl
          refine r_aload_n K 0 dX9_adding_61 rfl ?_
          obtain ⟨b19, e20, hf⟩ := ob1_s hf
          refine r_getR (ci := 9) (k := 9) K dX9_adding_62 inX9 rfl (by decide) rfl q_366 e20 ?_
          obtain ⟨b21, eb21, hf⟩ := bnd_g hf
          obtain ⟨g22, eg22, hf⟩ := bnd_g hf
          have ob21 : isO g22 b21 3 := isO_new eb21 eg22
          refine r_new (ci := 3) (N := 7) (ty0 := tyX3) (cells1 := 1) (slots1 := 7) K dX9_adding_65 inX3 rfl tyX3_ok q_438 q_109 q_77 (fun j hj => by match j, hj with | 0, _ => rfl | 1, _ => rfl | 2, _ => rfl | 3, _ => rfl | 4, _ => rfl | 5, _ => rfl | 6, _ => rfl) eb21 eg22 rfl rfl (Nat.le_of_ble_eq_true rfl) (Nat.le_of_ble_eq_true rfl) ?_
          refine r_dup K dX9_adding_68 rfl ?_
          refine r_iload_n K 2 dX9_adding_69 rfl ?_
          refine r_iload_n K 3 dX9_adding_70 rfl ?_
          refine r_iconst (v := (1 : Int32)) K dX9_adding_71 (by decide) ?_
          refine r_lload K 4 dX9_adding_72 rfl ?_
          refine r_lload K 5 dX9_adding_74 rfl ?_
          refine r_lconst (v := (0 : Int64)) K dX9_adding_76 (by decide) ?_
          refine r_iconst (v := (0 : Int32)) K dX9_adding_77 (by decide) ?_
          obtain ⟨g23, e24, hf⟩ := ob1_s hf
          refine r_callI (As := [.int x2, .int x3, .int (1 : Int32), .long x4, .long x6, .long (0 : Int64), .int (0 : Int32)]) (rest := [.ref b21, .ref b19]) (st1 := [.ref b21, .ref b19]) (cells1 := 1) (slots1 := 7) (rt := none) (b := b21) K (mX3_init l ob21 e24) dX9_adding_78 rfl ceX3_init q_439 q_111 q_77 q_112 ⟨Nat.le_of_ble_eq_true rfl, Nat.le_of_ble_eq_true rfl⟩ (Nat.le_of_ble_eq_true rfl) ⟨Nat.le_of_ble_eq_true rfl, Nat.le_of_ble_eq_true rfl⟩ ?_ rfl rfl rfl rfl
          obtain ⟨z25, hf⟩ := gd_s hf
          obtain ⟨g26, e27, hf⟩ := ob1_s hf
          refine r_callV (As := [.ref b21]) (rest := []) (st1 := []) (cells1 := 1) (slots1 := 7) (b := b19) (ci := 1) K (fun z => mX1_append l z e27) dX9_adding_81 rfl (fun _ => isO_of z25) rfl ceX1_append q_440 q_441 q_442 q_76 q_443 ⟨Nat.le_of_ble_eq_true rfl, Nat.le_of_ble_eq_true rfl⟩ (Nat.le_of_ble_eq_true rfl) ⟨Nat.le_of_ble_eq_true rfl, Nat.le_of_ble_eq_true rfl⟩ ?_ rfl rfl rfl rfl
          refine r_aload_n K 0 dX9_adding_84 rfl ?_
          obtain ⟨b28, e29, hf⟩ := ob1_s hf
          refine r_getR (ci := 9) (k := 10) K dX9_adding_85 inX9 rfl (by decide) rfl q_367 e29 ?_
          refine r_aload_n K 0 dX9_adding_88 rfl ?_
          obtain ⟨b30, e31, hf⟩ := ob1_s hf
          refine r_getR (ci := 9) (k := 9) K dX9_adding_89 inX9 rfl (by decide) rfl q_366 e31 ?_
          refine r_iconst (v := (-1 : Int32)) K dX9_adding_92 (by decide) ?_
          obtain ⟨z32, hf⟩ := gd_s hf
          obtain ⟨g33, e34, hf⟩ := ob1_s hf
          refine r_callV (As := [.ref b30, .int (-1 : Int32)]) (rest := []) (st1 := []) (cells1 := 1) (slots1 := 7) (b := b28) (ci := 2) K (fun z => mX2_find l z e34) dX9_adding_93 rfl (fun _ => isO_of z32) rfl ceX2_find q_565 q_566 q_567 q_78 q_568 ⟨Nat.le_of_ble_eq_true rfl, Nat.le_of_ble_eq_true rfl⟩ (Nat.le_of_ble_eq_true rfl) ⟨Nat.le_of_ble_eq_true rfl, Nat.le_of_ble_eq_true rfl⟩ ?_ rfl rfl rfl rfl
          refine r_aload_n K 0 dX9_adding_96 rfl ?_
          obtain ⟨b35, e36, hf⟩ := ob1_s hf
          refine r_getR (ci := 9) (k := 11) K dX9_adding_97 inX9 rfl (by decide) rfl q_368 e36 ?_
          refine r_aload_n K 0 dX9_adding_100 rfl ?_
          obtain ⟨b37, e38, hf⟩ := ob1_s hf
          refine r_getR (ci := 9) (k := 9) K dX9_adding_101 inX9 rfl (by decide) rfl q_366 e38 ?_
          refine r_aload_n K 0 dX9_adding_104 rfl ?_
          obtain ⟨b39, e40, hf⟩ := ob1_s hf
          refine r_getR (ci := 9) (k := 10) K dX9_adding_105 inX9 rfl (by decide) rfl q_367 e40 ?_
          refine r_iload_n K 1 dX9_adding_108 rfl ?_
          obtain ⟨z41, hf⟩ := gd_s hf
          obtain ⟨g42, e43, hf⟩ := ob1_s hf
          refine r_callV (As := [.ref b37, .ref b39, .int x1]) (rest := []) (st1 := []) (cells1 := 1) (slots1 := 7) (b := b35) (ci := 5) K (fun z => mX5_settle l z e43) dX9_adding_109 rfl (fun _ => isO_of z41) rfl ceX5_settle q_601 q_602 q_603 q_81 q_604 ⟨Nat.le_of_ble_eq_true rfl, Nat.le_of_ble_eq_true rfl⟩ (Nat.le_of_ble_eq_true rfl) ⟨Nat.le_of_ble_eq_true rfl, Nat.le_of_ble_eq_true rfl⟩ ?_ rfl rfl rfl rfl
          refine r_aload_n K 0 dX9_adding_112 rfl ?_
          refine r_iload_n K 1 dX9_adding_113 rfl ?_
          obtain ⟨b44, g45, e46, hf⟩ := ob2_s hf
          refine r_callV (As := [.int x1]) (rest := []) (st1 := [.ref b44]) (cells1 := 1) (slots1 := 7) (b := a0) (ci := 9) K (fun z => mX9_steadyOf l z e46) dX9_adding_114 rfl (fun z => z _ _ ht) rfl ceX9_steadyOf q_597 q_599 q_12 q_75 q_600 ⟨Nat.le_of_ble_eq_true rfl, Nat.le_of_ble_eq_true rfl⟩ (Nat.le_of_ble_eq_true rfl) ⟨Nat.le_of_ble_eq_true rfl, Nat.le_of_ble_eq_true rfl⟩ ?_ rfl rfl rfl rfl
          refine r_aload_n K 0 dX9_adding_117 rfl ?_
          obtain ⟨b47, e48, hf⟩ := ob1_s hf
          refine r_getR (ci := 9) (k := 11) K dX9_adding_118 inX9 rfl (by decide) rfl q_368 e48 ?_
          obtain ⟨r49, e50, hf⟩ := ob1_s hf
          refine r_callS (As := [.ref b44, .ref b47]) (rest := []) (st1 := [.long r49]) (cells1 := 1) (slots1 := 7) K (mX9_difference l e50) dX9_adding_121 ceX9_difference q_773 q_774 q_75 q_775 ⟨Nat.le_of_ble_eq_true rfl, Nat.le_of_ble_eq_true rfl⟩ (Nat.le_of_ble_eq_true rfl) ⟨Nat.le_of_ble_eq_true rfl, Nat.le_of_ble_eq_true rfl⟩ ?_ rfl rfl rfl rfl
          exact r_lret K dX9_adding_124 hf (Nat.le_of_ble_eq_true rfl) (Nat.le_of_ble_eq_true rfl)
        · replace hf := ite_t hf c51
          refine r_ldc2 K dX9_adding_46 q_467 ?_
          exact r_lret K dX9_adding_49 hf (Nat.le_of_ble_eq_true rfl) (Nat.le_of_ble_eq_true rfl)
    · replace hf := ite_t hf c53
      refine r_ldc2 K dX9_adding_20 q_467 ?_
      exact r_lret K dX9_adding_23 hf (Nat.le_of_ble_eq_true rfl) (Nat.le_of_ble_eq_true rfl)
theorem ceX9_fix : CE yX9_fix 0 := ⟨by decide, by decide, by decide +kernel⟩
abbrev rmX9_fix : Room := { frames := 6, cells := 0, slots := 0, locals := 145 }
def fX9_fix_L20 (a0 : Nat) (a1 : Nat) (k : Int32 → AH → Option (Int32 × AH)) : Nat → Int32 → Int32 → AH → Option (Int32 × AH)
  | 0, _, _, _ => none
  | n + 1, x2, x3, h =>
    ob1 (gR h a0 9 0) fun b6 =>
    ob1 (gI h b6 1 1) fun v8 =>
    if v8 ≤ x3 then
      k x2 h
    else
      ob1 (gR h a1 5 0) fun b10 =>
      ob1 (aI h b10 0 x3) fun v12 =>
      bnd (fun (v15 : Int64) =>
        ob1 (gR h a0 9 0) fun b16 =>
        ob1 (gR h b16 1 3) fun b18 =>
        ob1 (aL h b18 x3) fun v20 =>
        if v20 = v15 then
          bnd (x3 + (1 : Int32)) fun y22 =>
          fX9_fix_L20 a0 a1 k n x2 y22 h
        else
          ob1 (gR h a0 9 0) fun b23 =>
          ob1 (gR h b23 1 3) fun b25 =>
          ob1 (sL h b25 x3 v15) fun g27 =>
          bnd (x2 + (1 : Int32)) fun y29 =>
          bnd (x3 + (1 : Int32)) fun y30 =>
          fX9_fix_L20 a0 a1 k n y29 y30 g27
      ) fun j14 =>
      if v12 ≤ (0 : Int32) then
        j14 (0 : Int64)
      else
        ob1 (gR h a0 9 0) fun b32 =>
        ob1 (gR h b32 1 2) fun b34 =>
        ob1 (aR h b34 4 x3) fun b36 =>
        gd (ckO h b36 3) <|
        ob1 (fX3_lossAt b36 v12 h) fun r39 =>
        ob1 (fJ9_min_f86c9 (1000000000 : Int64) r39) fun r41 =>
        j14 r41
def fX9_fix (a0 : Nat) (h : AH) : Option (Int32 × AH) :=
  ob2 (fX9_steadyOf a0 (2 : Int32) h) fun b1 g2 =>
  ob1 (gI g2 b1 5 3) fun v4 =>
  if v4 = (0 : Int32) then
    some ((-3 : Int32), g2)
  else
    fX9_fix_L20 a0 b1 (fun (y45 : Int32) (g46 : AH) =>
      ob1 (fX9_changed a0 g46) fun g47 =>
      some (y45, g47)
    ) lf (0 : Int32) (0 : Int32) g2
set_option maxHeartbeats 4000000 in
set_option maxRecDepth 100000 in
theorem wX9_fix_L20 {p : Program} {l : Launch} {e : Env} {s : State} {m : MethodId} {args : Array Value} {below : List Frame} {meth : Method} {c : Code} {G : GG} {b0 : Nat} {h0 : AH} {a0 : Nat} {a1 : Nat} {rr : Int32} {hh : AH} (K : CX p s m args meth c cX9_fix 7 RX9 (some .int) G b0) (ht : isO h0 a0 9) (k : Int32 → AH → Option (Int32 × AH)) (hk : ∀ (x2 : Int32) (h : AH), k x2 h = some (rr, hh) → WA p l e rmX9_fix s m args below meth c (MQ below (QG G b0 h0 (some (.int rr)) hh) args s (rmX9_fix).cells (rmX9_fix).slots (AB b0)) G b0 7 h0 0 0 h 105 [(0, .ref a0), (2, .int x2)] []) : ∀ (n : Nat) (x2 : Int32) (x3 : Int32) (h : AH), fX9_fix_L20 a0 a1 k n x2 x3 h = some (rr, hh) → WA p l e rmX9_fix s m args below meth c (MQ below (QG G b0 h0 (some (.int rr)) hh) args s (rmX9_fix).cells (rmX9_fix).slots (AB b0)) G b0 7 h0 0 0 h 20 [(0, .ref a0), (1, .ref a1), (2, .int x2), (3, .int x3)] [] := by
  intro n
  induction n with
  | zero =>
    intro x2 x3 h hf
    rw [fX9_fix_L20] at hf
    cases hf
  | succ n ih =>
    intro x2 x3 h hf
    rw [fX9_fix_L20] at hf
    refine r_iload_n K 3 dX9_fix_20 rfl ?_
    refine r_aload_n K 0 dX9_fix_21 rfl ?_
    obtain ⟨b6, e7, hf⟩ := ob1_s hf
    refine r_getR (ci := 9) (k := 0) K dX9_fix_22 inX9 rfl (by decide) rfl q_357 e7 ?_
    obtain ⟨v8, e9, hf⟩ := ob1_s hf
    refine r_getI (ci := 1) (k := 1) K dX9_fix_25 inX1 rfl (by decide) rfl q_154 e9 ?_
    refine r_icmp_ge (tgt := 105) K dX9_fix_28 (by decide) (fun c44 => ?_) (fun c44 => ?_)
    · replace hf := ite_t hf c44
      refine r_lv [0, 2] rfl ?_
      exact hk x2 h hf
    · replace hf := ite_f hf c44
      refine r_aload_n K 1 dX9_fix_31 rfl ?_
      obtain ⟨b10, e11, hf⟩ := ob1_s hf
      refine r_getR (ci := 5) (k := 0) K dX9_fix_32 inX5 rfl (by decide) rfl q_269 e11 ?_
      refine r_iload_n K 3 dX9_fix_35 rfl ?_
      obtain ⟨v12, e13, hf⟩ := ob1_s hf
      refine r_iaload K dX9_fix_36 e13 ?_
      refine r_istore (lv1 := [(4, .int v12), (0, .ref a0), (1, .ref a1), (2, .int x2), (3, .int x3)]) K dX9_fix_37 (by decide) rfl ?_
      refine r_iload K 0 dX9_fix_39 rfl ?_
      obtain ⟨j14, ej14, hf⟩ := bnd_g hf
      have Jj14 : ∀ (v15 : Int64), j14 v15 = some (rr, hh) → WA p l e rmX9_fix s m args below meth c (MQ below (QG G b0 h0 (some (.int rr)) hh) args s (rmX9_fix).cells (rmX9_fix).slots (AB b0)) G b0 7 h0 0 0 h 68 [(0, .ref a0), (1, .ref a1), (2, .int x2), (3, .int x3)] [.long v15] := by
        intro v15 hf
        rw [ej14] at hf
        refine r_lstore (lv1 := [(5, .long v15), (0, .ref a0), (1, .ref a1), (2, .int x2), (3, .int x3)]) K dX9_fix_68 (by decide) rfl ?_
        refine r_aload_n K 1 dX9_fix_70 rfl ?_
        obtain ⟨b16, e17, hf⟩ := ob1_s hf
        refine r_getR (ci := 9) (k := 0) K dX9_fix_71 inX9 rfl (by decide) rfl q_357 e17 ?_
        obtain ⟨b18, e19, hf⟩ := ob1_s hf
        refine r_getR (ci := 1) (k := 3) K dX9_fix_74 inX1 rfl (by decide) rfl q_163 e19 ?_
        refine r_iload_n K 4 dX9_fix_77 rfl ?_
        obtain ⟨v20, e21, hf⟩ := ob1_s hf
        refine r_laload K dX9_fix_78 e21 ?_
        refine r_lload K 0 dX9_fix_79 rfl ?_
        refine r_lif_eq (tgt := 99) K dX9_fix_81 dX9_fix_82 (by decide) (fun c31 => ?_) (fun c31 => ?_)
        · replace hf := ite_t hf c31
          obtain ⟨y22, ey22, hf⟩ := bnd_g hf
          refine r_iinc (lv1 := [(3, .int y22), (5, .long v15), (0, .ref a0), (1, .ref a1), (2, .int x2)]) K 4 dX9_fix_99 rfl (by rw [ey22]; rfl) (by decide) rfl ?_
          refine r_goto (tgt := 20) K dX9_fix_102 (by decide) ?_
          refine r_lv [2, 3, 4, 0] rfl ?_
          exact ih x2 y22 h hf
        · replace hf := ite_f hf c31
          refine r_aload_n K 1 dX9_fix_85 rfl ?_
          obtain ⟨b23, e24, hf⟩ := ob1_s hf
          refine r_getR (ci := 9) (k := 0) K dX9_fix_86 inX9 rfl (by decide) rfl q_357 e24 ?_
          obtain ⟨b25, e26, hf⟩ := ob1_s hf
          refine r_getR (ci := 1) (k := 3) K dX9_fix_89 inX1 rfl (by decide) rfl q_163 e26 ?_
          refine r_iload_n K 4 dX9_fix_92 rfl ?_
          refine r_lload K 0 dX9_fix_93 rfl ?_
          obtain ⟨g27, e28, hf⟩ := ob1_s hf
          refine r_lastore K dX9_fix_95 e28 ?_
          obtain ⟨y29, ey29, hf⟩ := bnd_g hf
          refine r_iinc (lv1 := [(2, .int y29), (5, .long v15), (0, .ref a0), (1, .ref a1), (3, .int x3)]) K 3 dX9_fix_96 rfl (by rw [ey29]; rfl) (by decide) rfl ?_
          obtain ⟨y30, ey30, hf⟩ := bnd_g hf
          refine r_iinc (lv1 := [(3, .int y30), (2, .int y29), (5, .long v15), (0, .ref a0), (1, .ref a1)]) K 4 dX9_fix_99 rfl (by rw [ey30]; rfl) (by decide) rfl ?_
          refine r_goto (tgt := 20) K dX9_fix_102 (by decide) ?_
          refine r_lv [3, 4, 1, 0] rfl ?_
          exact ih y29 y30 g27 hf
      refine r_if_le (tgt := 67) K dX9_fix_41 (by decide) (fun c43 => ?_) (fun c43 => ?_)
      · replace hf := ite_t hf c43
        refine r_lconst (v := (0 : Int64)) K dX9_fix_67 (by decide) ?_
        refine r_lv [1, 2, 3, 4] rfl ?_
        exact Jj14 (0 : Int64) hf
      · replace hf := ite_f hf c43
        refine r_ldc2 K dX9_fix_44 q_461 ?_
        refine r_aload_n K 1 dX9_fix_47 rfl ?_
        obtain ⟨b32, e33, hf⟩ := ob1_s hf
        refine r_getR (ci := 9) (k := 0) K dX9_fix_48 inX9 rfl (by decide) rfl q_357 e33 ?_
        obtain ⟨b34, e35, hf⟩ := ob1_s hf
        refine r_getR (ci := 1) (k := 2) K dX9_fix_51 inX1 rfl (by decide) rfl q_161 e35 ?_
        refine r_iload_n K 4 dX9_fix_54 rfl ?_
        obtain ⟨b36, e37, hf⟩ := ob1_s hf
        refine r_aaload (kd := 4) (ty := .object RX3) K dX9_fix_55 rfl rfl e37 ?_
        refine r_iload K 0 dX9_fix_56 rfl ?_
        obtain ⟨z38, hf⟩ := gd_s hf
        obtain ⟨r39, e40, hf⟩ := ob1_s hf
        refine r_callV (As := [.int v12]) (rest := [.long (1000000000 : Int64)]) (st1 := [.long r39, .long (1000000000 : Int64)]) (cells1 := 0) (slots1 := 0) (b := b36) (ci := 3) K (fun z => mX3_lossAt l z e40) dX9_fix_58 rfl (fun _ => isO_of z38) rfl ceX3_lossAt q_479 q_480 q_481 q_77 q_482 ⟨Nat.le_of_ble_eq_true rfl, Nat.le_of_ble_eq_true rfl⟩ (Nat.le_of_ble_eq_true rfl) ⟨Nat.le_of_ble_eq_true rfl, Nat.le_of_ble_eq_true rfl⟩ ?_ rfl rfl rfl rfl
        obtain ⟨r41, e42, hf⟩ := ob1_s hf
        refine r_callS (As := [.long (1000000000 : Int64), .long r39]) (rest := []) (st1 := [.long r41]) (cells1 := 0) (slots1 := 0) K (mJ9_min_f86c9 l e42) dX9_fix_61 ceJ9_min_f86c9 q_795 q_796 q_88 q_797 ⟨Nat.le_of_ble_eq_true rfl, Nat.le_of_ble_eq_true rfl⟩ (Nat.le_of_ble_eq_true rfl) ⟨Nat.le_of_ble_eq_true rfl, Nat.le_of_ble_eq_true rfl⟩ ?_ rfl rfl rfl rfl
        refine r_goto (tgt := 68) K dX9_fix_64 (by decide) ?_
        refine r_lv [1, 2, 3, 4] rfl ?_
        exact Jj14 r41 hf
set_option maxHeartbeats 4000000 in
set_option maxRecDepth 100000 in
theorem mX9_fix (l : Launch) {G : GG} {b0 : Nat} {h : AH} {a0 : Nat} {rr : Int32} {hh : AH} (ht : isO h a0 9) (hf : fX9_fix a0 h = some (rr, hh)) : MM l yX9_fix cX9_fix 7 (some .int) rmX9_fix G b0 h [.ref a0] (some (.int rr)) hh := by
  refine MM.of (own := RX9) (lv0 := [(0, .ref a0)]) (by decide) rfl (Nat.le_of_ble_eq_true rfl) rfl ?_
  intro p e s m args below meth c K hnm
  unfold fX9_fix at hf
  refine r_aload_n K 0 dX9_fix_0 rfl ?_
  refine r_iconst (v := (2 : Int32)) K dX9_fix_1 (by decide) ?_
  obtain ⟨b1, g2, e3, hf⟩ := ob2_s hf
  refine r_callV (As := [.int (2 : Int32)]) (rest := []) (st1 := [.ref b1]) (cells1 := 0) (slots1 := 0) (b := a0) (ci := 9) K (fun z => mX9_steadyOf l z e3) dX9_fix_2 rfl (fun z => z _ _ ht) rfl ceX9_steadyOf q_597 q_599 q_12 q_75 q_600 ⟨Nat.le_of_ble_eq_true rfl, Nat.le_of_ble_eq_true rfl⟩ (Nat.le_of_ble_eq_true rfl) ⟨Nat.le_of_ble_eq_true rfl, Nat.le_of_ble_eq_true rfl⟩ ?_ rfl rfl rfl rfl
  refine r_astore_n (lv1 := [(1, .ref b1), (0, .ref a0)]) K dX9_fix_5 (by decide) rfl ?_
  refine r_aload_n K 0 dX9_fix_6 rfl ?_
  obtain ⟨v4, e5, hf⟩ := ob1_s hf
  refine r_getI (ci := 5) (k := 3) K dX9_fix_7 inX5 rfl (by decide) rfl q_275 e5 ?_
  refine r_if_ne (tgt := 16) K dX9_fix_10 (by decide) (fun c49 => ?_) (fun c49 => ?_)
  · replace hf := ite_f hf c49
    refine r_iconst (v := (0 : Int32)) K dX9_fix_16 (by decide) ?_
    refine r_istore_n (lv1 := [(2, .int (0 : Int32)), (1, .ref b1), (0, .ref a0)]) K dX9_fix_17 (by decide) rfl ?_
    refine r_iconst (v := (0 : Int32)) K dX9_fix_18 (by decide) ?_
    refine r_istore_n (lv1 := [(3, .int (0 : Int32)), (2, .int (0 : Int32)), (1, .ref b1), (0, .ref a0)]) K dX9_fix_19 (by decide) rfl ?_
    refine r_lv [3, 2, 1, 0] rfl ?_
    refine wX9_fix_L20 K ht _ (fun y45 g46 hf => ?_) lf (0 : Int32) (0 : Int32) g2 hf
    refine r_aload_n K 0 dX9_fix_105 rfl ?_
    obtain ⟨g47, e48, hf⟩ := ob1_s hf
    refine r_callV (As := []) (rest := []) (st1 := []) (cells1 := 0) (slots1 := 0) (b := a0) (ci := 9) K (fun z => mX9_changed l z e48) dX9_fix_106 rfl (fun z => z _ _ ht) rfl ceX9_changed q_413 q_415 q_0 q_75 q_416 ⟨Nat.le_of_ble_eq_true rfl, Nat.le_of_ble_eq_true rfl⟩ (Nat.le_of_ble_eq_true rfl) ⟨Nat.le_of_ble_eq_true rfl, Nat.le_of_ble_eq_true rfl⟩ ?_ rfl rfl rfl rfl
    refine r_iload_n K 1 dX9_fix_109 rfl ?_
    exact r_iret K dX9_fix_110 hf (Nat.le_of_ble_eq_true rfl) (Nat.le_of_ble_eq_true rfl)
  · replace hf := ite_t hf c49
    refine r_bipush (v := (-3 : Int32)) K dX9_fix_13 (by decide) ?_
    exact r_iret K dX9_fix_15 hf (Nat.le_of_ble_eq_true rfl) (Nat.le_of_ble_eq_true rfl)
theorem ceX9_free : CE yX9_free 0 := ⟨by decide, by decide, by decide +kernel⟩
abbrev rmX9_free : Room := { frames := 1, cells := 0, slots := 0, locals := 21 }
def fX9_free_L4 (a0 : Nat) (k : Int32 → AH → Option (Int32 × AH)) : Nat → Int32 → Int32 → AH → Option (Int32 × AH)
  | 0, _, _, _ => none
  | n + 1, x1, x2, h =>
    ob1 (gR h a0 9 0) fun b1 =>
    ob1 (gI h b1 1 1) fun v3 =>
    if v3 ≤ x2 then
      k x1 h
    else
      ob1 (gR h a0 9 0) fun b5 =>
      ob1 (gR h b5 1 3) fun b7 =>
      ob1 (aL h b7 x2) fun v9 =>
      if v9 = (0 : Int64) then
        bnd (x2 + (1 : Int32)) fun y11 =>
        fX9_free_L4 a0 k n x1 y11 h
      else
        ob1 (gR h a0 9 0) fun b12 =>
        ob1 (gR h b12 1 3) fun b14 =>
        ob1 (sL h b14 x2 (0 : Int64)) fun g16 =>
        bnd (x1 + (1 : Int32)) fun y18 =>
        bnd (x2 + (1 : Int32)) fun y19 =>
        fX9_free_L4 a0 k n y18 y19 g16
def fX9_free (a0 : Nat) (h : AH) : Option (Int32 × AH) :=
  fX9_free_L4 a0 (fun (y22 : Int32) (g23 : AH) =>
    ob1 (fX9_changed a0 g23) fun g24 =>
    some (y22, g24)
  ) lf (0 : Int32) (0 : Int32) h
set_option maxHeartbeats 4000000 in
set_option maxRecDepth 100000 in
theorem wX9_free_L4 {p : Program} {l : Launch} {e : Env} {s : State} {m : MethodId} {args : Array Value} {below : List Frame} {meth : Method} {c : Code} {G : GG} {b0 : Nat} {h0 : AH} {a0 : Nat} {rr : Int32} {hh : AH} (K : CX p s m args meth c cX9_free 3 RX9 (some .int) G b0) (ht : isO h0 a0 9) (k : Int32 → AH → Option (Int32 × AH)) (hk : ∀ (x1 : Int32) (h : AH), k x1 h = some (rr, hh) → WA p l e rmX9_free s m args below meth c (MQ below (QG G b0 h0 (some (.int rr)) hh) args s (rmX9_free).cells (rmX9_free).slots (AB b0)) G b0 3 h0 0 0 h 48 [(0, .ref a0), (1, .int x1)] []) : ∀ (n : Nat) (x1 : Int32) (x2 : Int32) (h : AH), fX9_free_L4 a0 k n x1 x2 h = some (rr, hh) → WA p l e rmX9_free s m args below meth c (MQ below (QG G b0 h0 (some (.int rr)) hh) args s (rmX9_free).cells (rmX9_free).slots (AB b0)) G b0 3 h0 0 0 h 4 [(0, .ref a0), (1, .int x1), (2, .int x2)] [] := by
  intro n
  induction n with
  | zero =>
    intro x1 x2 h hf
    rw [fX9_free_L4] at hf
    cases hf
  | succ n ih =>
    intro x1 x2 h hf
    rw [fX9_free_L4] at hf
    refine r_iload_n K 2 dX9_free_4 rfl ?_
    refine r_aload_n K 0 dX9_free_5 rfl ?_
    obtain ⟨b1, e2, hf⟩ := ob1_s hf
    refine r_getR (ci := 9) (k := 0) K dX9_free_6 inX9 rfl (by decide) rfl q_357 e2 ?_
    obtain ⟨v3, e4, hf⟩ := ob1_s hf
    refine r_getI (ci := 1) (k := 1) K dX9_free_9 inX1 rfl (by decide) rfl q_154 e4 ?_
    refine r_icmp_ge (tgt := 48) K dX9_free_12 (by decide) (fun c21 => ?_) (fun c21 => ?_)
    · replace hf := ite_t hf c21
      refine r_lv [0, 1] rfl ?_
      exact hk x1 h hf
    · replace hf := ite_f hf c21
      refine r_aload_n K 0 dX9_free_15 rfl ?_
      obtain ⟨b5, e6, hf⟩ := ob1_s hf
      refine r_getR (ci := 9) (k := 0) K dX9_free_16 inX9 rfl (by decide) rfl q_357 e6 ?_
      obtain ⟨b7, e8, hf⟩ := ob1_s hf
      refine r_getR (ci := 1) (k := 3) K dX9_free_19 inX1 rfl (by decide) rfl q_163 e8 ?_
      refine r_iload_n K 2 dX9_free_22 rfl ?_
      obtain ⟨v9, e10, hf⟩ := ob1_s hf
      refine r_laload K dX9_free_23 e10 ?_
      refine r_lconst (v := (0 : Int64)) K dX9_free_24 (by decide) ?_
      refine r_lif_eq (tgt := 42) K dX9_free_25 dX9_free_26 (by decide) (fun c20 => ?_) (fun c20 => ?_)
      · replace hf := ite_t hf c20
        obtain ⟨y11, ey11, hf⟩ := bnd_g hf
        refine r_iinc (lv1 := [(2, .int y11), (0, .ref a0), (1, .int x1)]) K 2 dX9_free_42 rfl (by rw [ey11]; rfl) (by decide) rfl ?_
        refine r_goto (tgt := 4) K dX9_free_45 (by decide) ?_
        refine r_lv [1, 2, 0] rfl ?_
        exact ih x1 y11 h hf
      · replace hf := ite_f hf c20
        refine r_aload_n K 0 dX9_free_29 rfl ?_
        obtain ⟨b12, e13, hf⟩ := ob1_s hf
        refine r_getR (ci := 9) (k := 0) K dX9_free_30 inX9 rfl (by decide) rfl q_357 e13 ?_
        obtain ⟨b14, e15, hf⟩ := ob1_s hf
        refine r_getR (ci := 1) (k := 3) K dX9_free_33 inX1 rfl (by decide) rfl q_163 e15 ?_
        refine r_iload_n K 2 dX9_free_36 rfl ?_
        refine r_lconst (v := (0 : Int64)) K dX9_free_37 (by decide) ?_
        obtain ⟨g16, e17, hf⟩ := ob1_s hf
        refine r_lastore K dX9_free_38 e17 ?_
        obtain ⟨y18, ey18, hf⟩ := bnd_g hf
        refine r_iinc (lv1 := [(1, .int y18), (0, .ref a0), (2, .int x2)]) K 1 dX9_free_39 rfl (by rw [ey18]; rfl) (by decide) rfl ?_
        obtain ⟨y19, ey19, hf⟩ := bnd_g hf
        refine r_iinc (lv1 := [(2, .int y19), (1, .int y18), (0, .ref a0)]) K 2 dX9_free_42 rfl (by rw [ey19]; rfl) (by decide) rfl ?_
        refine r_goto (tgt := 4) K dX9_free_45 (by decide) ?_
        refine r_lv [2, 1, 0] rfl ?_
        exact ih y18 y19 g16 hf
set_option maxHeartbeats 4000000 in
set_option maxRecDepth 100000 in
theorem mX9_free (l : Launch) {G : GG} {b0 : Nat} {h : AH} {a0 : Nat} {rr : Int32} {hh : AH} (ht : isO h a0 9) (hf : fX9_free a0 h = some (rr, hh)) : MM l yX9_free cX9_free 3 (some .int) rmX9_free G b0 h [.ref a0] (some (.int rr)) hh := by
  refine MM.of (own := RX9) (lv0 := [(0, .ref a0)]) (by decide) rfl (Nat.le_of_ble_eq_true rfl) rfl ?_
  intro p e s m args below meth c K hnm
  unfold fX9_free at hf
  refine r_iconst (v := (0 : Int32)) K dX9_free_0 (by decide) ?_
  refine r_istore_n (lv1 := [(1, .int (0 : Int32)), (0, .ref a0)]) K dX9_free_1 (by decide) rfl ?_
  refine r_iconst (v := (0 : Int32)) K dX9_free_2 (by decide) ?_
  refine r_istore_n (lv1 := [(2, .int (0 : Int32)), (1, .int (0 : Int32)), (0, .ref a0)]) K dX9_free_3 (by decide) rfl ?_
  refine r_lv [2, 1, 0] rfl ?_
  refine wX9_free_L4 K ht _ (fun y22 g23 hf => ?_) lf (0 : Int32) (0 : Int32) h hf
  refine r_aload_n K 0 dX9_free_48 rfl ?_
  obtain ⟨g24, e25, hf⟩ := ob1_s hf
  refine r_callV (As := []) (rest := []) (st1 := []) (cells1 := 0) (slots1 := 0) (b := a0) (ci := 9) K (fun z => mX9_changed l z e25) dX9_free_49 rfl (fun z => z _ _ ht) rfl ceX9_changed q_413 q_415 q_0 q_75 q_416 ⟨Nat.le_of_ble_eq_true rfl, Nat.le_of_ble_eq_true rfl⟩ (Nat.le_of_ble_eq_true rfl) ⟨Nat.le_of_ble_eq_true rfl, Nat.le_of_ble_eq_true rfl⟩ ?_ rfl rfl rfl rfl
  refine r_iload_n K 1 dX9_free_52 rfl ?_
  exact r_iret K dX9_free_53 hf (Nat.le_of_ble_eq_true rfl) (Nat.le_of_ble_eq_true rfl)
theorem ceX9_lay : CE yX9_lay 3 := ⟨by decide, by decide, by decide +kernel⟩
abbrev rmX9_lay : Room := { frames := 6, cells := 0, slots := 0, locals := 145 }
def fX9_lay_L58 (a0 : Nat) (x2 : Int32) (a4 : Nat) (a5 : Nat) (k : AH → Option (Int32 × AH)) : Nat → Int32 → AH → Option (Int32 × AH)
  | 0, _, _ => none
  | n + 1, x6, h =>
    ob1 (gR h a0 9 0) fun b17 =>
    ob1 (gI h b17 1 1) fun v19 =>
    if v19 ≤ x6 then
      k h
    else
      if x2 < (0 : Int32) then
        some ((-13 : Int32), h)
      else
        ob1 (gI h a4 4 0) fun v21 =>
        if x2 < (v21 - x6) then
          ob1 (gR h a4 4 1) fun b23 =>
          ob1 (gR h a5 5 0) fun b25 =>
          ob1 (aI h b25 0 x6) fun v27 =>
          ob1 (sL h b23 (x2 + x6) (Int32.toInt64 v27)) fun g29 =>
          bnd (x6 + (1 : Int32)) fun y31 =>
          fX9_lay_L58 a0 x2 a4 a5 k n y31 g29
        else
          some ((-13 : Int32), h)
def fX9_lay (a0 : Nat) (x1 : Int32) (x2 : Int32) (x3 : Int32) (h : AH) : Option (Int32 × AH) :=
  ob1 (fX9_isOneOf x1 (4 : Int32)) fun r1 =>
  if r1 = (0 : Int32) then
    some ((-1 : Int32), h)
  else
    ob1 (fX9_isOneOf x3 (3 : Int32)) fun r3 =>
    if r3 = (0 : Int32) then
      some ((-1 : Int32), h)
    else
      ob1 (gR h a0 9 14) fun b5 =>
      ob1 (aR h b5 7 x1) fun b7 =>
      gd (ckO h b7 4) <|
      ob1 (fX4_isMissing b7 h) fun r10 =>
      if r10 = (0 : Int32) then
        ob2 (fX9_steadyOf a0 x3 h) fun b12 g13 =>
        ob1 (gI g13 b12 5 3) fun v15 =>
        if v15 = (0 : Int32) then
          some ((-3 : Int32), g13)
        else
          fX9_lay_L58 a0 x2 b7 b12 (fun (g35 : AH) =>
            ob1 (gR g35 a0 9 0) fun b36 =>
            ob1 (gI g35 b36 1 1) fun v38 =>
            some (v38, g35)
          ) lf (0 : Int32) g13
      else
        some ((-11 : Int32), h)
set_option maxHeartbeats 4000000 in
set_option maxRecDepth 100000 in
theorem wX9_lay_L58 {p : Program} {l : Launch} {e : Env} {s : State} {m : MethodId} {args : Array Value} {below : List Frame} {meth : Method} {c : Code} {G : GG} {b0 : Nat} {h0 : AH} {a0 : Nat} {x2 : Int32} {a4 : Nat} {a5 : Nat} {rr : Int32} {hh : AH} (K : CX p s m args meth c cX9_lay 7 RX9 (some .int) G b0) (ht : isO h0 a0 9) (k : AH → Option (Int32 × AH)) (hk : ∀ (h : AH), k h = some (rr, hh) → WA p l e rmX9_lay s m args below meth c (MQ below (QG G b0 h0 (some (.int rr)) hh) args s (rmX9_lay).cells (rmX9_lay).slots (AB b0)) G b0 7 h0 0 0 h 114 [(0, .ref a0)] []) : ∀ (n : Nat) (x6 : Int32) (h : AH), fX9_lay_L58 a0 x2 a4 a5 k n x6 h = some (rr, hh) → WA p l e rmX9_lay s m args below meth c (MQ below (QG G b0 h0 (some (.int rr)) hh) args s (rmX9_lay).cells (rmX9_lay).slots (AB b0)) G b0 7 h0 0 0 h 58 [(0, .ref a0), (2, .int x2), (4, .ref a4), (5, .ref a5), (6, .int x6)] [] := by
  intro n
  induction n with
  | zero =>
    intro x6 h hf
    rw [fX9_lay_L58] at hf
    cases hf
  | succ n ih =>
    intro x6 h hf
    rw [fX9_lay_L58] at hf
    refine r_iload K 4 dX9_lay_58 rfl ?_
    refine r_aload_n K 0 dX9_lay_60 rfl ?_
    obtain ⟨b17, e18, hf⟩ := ob1_s hf
    refine r_getR (ci := 9) (k := 0) K dX9_lay_61 inX9 rfl (by decide) rfl q_357 e18 ?_
    obtain ⟨v19, e20, hf⟩ := ob1_s hf
    refine r_getI (ci := 1) (k := 1) K dX9_lay_64 inX1 rfl (by decide) rfl q_154 e20 ?_
    refine r_icmp_ge (tgt := 114) K dX9_lay_67 (by decide) (fun c34 => ?_) (fun c34 => ?_)
    · replace hf := ite_t hf c34
      refine r_lv [0] rfl ?_
      exact hk h hf
    · replace hf := ite_f hf c34
      refine r_iload_n K 1 dX9_lay_70 rfl ?_
      refine r_if_lt (tgt := 86) K dX9_lay_71 (by decide) (fun c33 => ?_) (fun c33 => ?_)
      · replace hf := ite_t hf c33
        refine r_bipush (v := (-13 : Int32)) K dX9_lay_86 (by decide) ?_
        exact r_iret K dX9_lay_88 hf (Nat.le_of_ble_eq_true rfl) (Nat.le_of_ble_eq_true rfl)
      · replace hf := ite_f hf c33
        refine r_iload_n K 1 dX9_lay_74 rfl ?_
        refine r_aload K 2 dX9_lay_75 rfl ?_
        obtain ⟨v21, e22, hf⟩ := ob1_s hf
        refine r_getI (ci := 4) (k := 0) K dX9_lay_77 inX4 rfl (by decide) rfl q_349 e22 ?_
        refine r_iload K 4 dX9_lay_80 rfl ?_
        refine r_isub K dX9_lay_82 ?_
        refine r_icmp_lt (tgt := 89) K dX9_lay_83 (by decide) (fun c32 => ?_) (fun c32 => ?_)
        · replace hf := ite_t hf c32
          refine r_aload K 2 dX9_lay_89 rfl ?_
          obtain ⟨b23, e24, hf⟩ := ob1_s hf
          refine r_getR (ci := 4) (k := 1) K dX9_lay_91 inX4 rfl (by decide) rfl q_351 e24 ?_
          refine r_iload_n K 1 dX9_lay_94 rfl ?_
          refine r_iload K 4 dX9_lay_95 rfl ?_
          refine r_iadd K dX9_lay_97 ?_
          refine r_aload K 3 dX9_lay_98 rfl ?_
          obtain ⟨b25, e26, hf⟩ := ob1_s hf
          refine r_getR (ci := 5) (k := 0) K dX9_lay_100 inX5 rfl (by decide) rfl q_269 e26 ?_
          refine r_iload K 4 dX9_lay_103 rfl ?_
          obtain ⟨v27, e28, hf⟩ := ob1_s hf
          refine r_iaload K dX9_lay_105 e28 ?_
          refine r_i2l K dX9_lay_106 ?_
          obtain ⟨g29, e30, hf⟩ := ob1_s hf
          refine r_lastore K dX9_lay_107 e30 ?_
          obtain ⟨y31, ey31, hf⟩ := bnd_g hf
          refine r_iinc (lv1 := [(6, .int y31), (0, .ref a0), (2, .int x2), (4, .ref a4), (5, .ref a5)]) K 4 dX9_lay_108 rfl (by rw [ey31]; rfl) (by decide) rfl ?_
          refine r_goto (tgt := 58) K dX9_lay_111 (by decide) ?_
          refine r_lv [1, 2, 3, 4, 0] rfl ?_
          exact ih y31 g29 hf
        · replace hf := ite_f hf c32
          refine r_bipush (v := (-13 : Int32)) K dX9_lay_86 (by decide) ?_
          exact r_iret K dX9_lay_88 hf (Nat.le_of_ble_eq_true rfl) (Nat.le_of_ble_eq_true rfl)
set_option maxHeartbeats 4000000 in
set_option maxRecDepth 100000 in
theorem mX9_lay (l : Launch) {G : GG} {b0 : Nat} {h : AH} {a0 : Nat} {x1 : Int32} {x2 : Int32} {x3 : Int32} {rr : Int32} {hh : AH} (ht : isO h a0 9) (hf : fX9_lay a0 x1 x2 x3 h = some (rr, hh)) : MM l yX9_lay cX9_lay 7 (some .int) rmX9_lay G b0 h [.ref a0, .int x1, .int x2, .int x3] (some (.int rr)) hh := by
  refine MM.of (own := RX9) (lv0 := [(0, .ref a0), (1, .int x1), (2, .int x2), (3, .int x3)]) (by decide) rfl (Nat.le_of_ble_eq_true rfl) rfl ?_
  intro p e s m args below meth c K hnm
  unfold fX9_lay at hf
  refine r_iload_n K 1 dX9_lay_0 rfl ?_
  refine r_iconst (v := (4 : Int32)) K dX9_lay_1 (by decide) ?_
  obtain ⟨r1, e2, hf⟩ := ob1_s hf
  refine r_callS (As := [.int x1, .int (4 : Int32)]) (rest := []) (st1 := [.int r1]) (cells1 := 0) (slots1 := 0) K (mX9_isOneOf l e2) dX9_lay_2 ceX9_isOneOf q_431 q_426 q_75 q_427 ⟨Nat.le_of_ble_eq_true rfl, Nat.le_of_ble_eq_true rfl⟩ (Nat.le_of_ble_eq_true rfl) ⟨Nat.le_of_ble_eq_true rfl, Nat.le_of_ble_eq_true rfl⟩ ?_ rfl rfl rfl rfl
  refine r_if_eq (tgt := 16) K dX9_lay_5 (by decide) (fun c43 => ?_) (fun c43 => ?_)
  · replace hf := ite_t hf c43
    refine r_iconst (v := (-1 : Int32)) K dX9_lay_16 (by decide) ?_
    exact r_iret K dX9_lay_17 hf (Nat.le_of_ble_eq_true rfl) (Nat.le_of_ble_eq_true rfl)
  · replace hf := ite_f hf c43
    refine r_iload_n K 3 dX9_lay_8 rfl ?_
    refine r_iconst (v := (3 : Int32)) K dX9_lay_9 (by decide) ?_
    obtain ⟨r3, e4, hf⟩ := ob1_s hf
    refine r_callS (As := [.int x3, .int (3 : Int32)]) (rest := []) (st1 := [.int r3]) (cells1 := 0) (slots1 := 0) K (mX9_isOneOf l e4) dX9_lay_10 ceX9_isOneOf q_431 q_426 q_75 q_427 ⟨Nat.le_of_ble_eq_true rfl, Nat.le_of_ble_eq_true rfl⟩ (Nat.le_of_ble_eq_true rfl) ⟨Nat.le_of_ble_eq_true rfl, Nat.le_of_ble_eq_true rfl⟩ ?_ rfl rfl rfl rfl
    refine r_if_ne (tgt := 18) K dX9_lay_13 (by decide) (fun c42 => ?_) (fun c42 => ?_)
    · replace hf := ite_f hf c42
      refine r_aload_n K 0 dX9_lay_18 rfl ?_
      obtain ⟨b5, e6, hf⟩ := ob1_s hf
      refine r_getR (ci := 9) (k := 14) K dX9_lay_19 inX9 rfl (by decide) rfl q_371 e6 ?_
      refine r_iload_n K 1 dX9_lay_22 rfl ?_
      obtain ⟨b7, e8, hf⟩ := ob1_s hf
      refine r_aaload (kd := 7) (ty := .object RX4) K dX9_lay_23 rfl rfl e8 ?_
      refine r_astore (lv1 := [(4, .ref b7), (0, .ref a0), (1, .int x1), (2, .int x2), (3, .int x3)]) K dX9_lay_24 (by decide) rfl ?_
      refine r_aload K 0 dX9_lay_26 rfl ?_
      obtain ⟨z9, hf⟩ := gd_s hf
      obtain ⟨r10, e11, hf⟩ := ob1_s hf
      refine r_callV (As := []) (rest := []) (st1 := [.int r10]) (cells1 := 0) (slots1 := 0) (b := b7) (ci := 4) K (fun z => mX4_isMissing l z e11) dX9_lay_28 rfl (fun _ => isO_of z9) rfl ceX4_isMissing q_806 q_807 q_808 q_84 q_809 ⟨Nat.le_of_ble_eq_true rfl, Nat.le_of_ble_eq_true rfl⟩ (Nat.le_of_ble_eq_true rfl) ⟨Nat.le_of_ble_eq_true rfl, Nat.le_of_ble_eq_true rfl⟩ ?_ rfl rfl rfl rfl
      refine r_if_eq (tgt := 37) K dX9_lay_31 (by decide) (fun c41 => ?_) (fun c41 => ?_)
      · replace hf := ite_t hf c41
        refine r_aload_n K 1 dX9_lay_37 rfl ?_
        refine r_iload_n K 4 dX9_lay_38 rfl ?_
        obtain ⟨b12, g13, e14, hf⟩ := ob2_s hf
        refine r_callV (As := [.int x3]) (rest := []) (st1 := [.ref b12]) (cells1 := 0) (slots1 := 0) (b := a0) (ci := 9) K (fun z => mX9_steadyOf l z e14) dX9_lay_39 rfl (fun z => z _ _ ht) rfl ceX9_steadyOf q_597 q_599 q_12 q_75 q_600 ⟨Nat.le_of_ble_eq_true rfl, Nat.le_of_ble_eq_true rfl⟩ (Nat.le_of_ble_eq_true rfl) ⟨Nat.le_of_ble_eq_true rfl, Nat.le_of_ble_eq_true rfl⟩ ?_ rfl rfl rfl rfl
        refine r_astore (lv1 := [(5, .ref b12), (4, .ref b7), (0, .ref a0), (1, .int x1), (2, .int x2), (3, .int x3)]) K dX9_lay_42 (by decide) rfl ?_
        refine r_aload K 0 dX9_lay_44 rfl ?_
        obtain ⟨v15, e16, hf⟩ := ob1_s hf
        refine r_getI (ci := 5) (k := 3) K dX9_lay_46 inX5 rfl (by decide) rfl q_275 e16 ?_
        refine r_if_ne (tgt := 55) K dX9_lay_49 (by decide) (fun c40 => ?_) (fun c40 => ?_)
        · replace hf := ite_f hf c40
          refine r_iconst (v := (0 : Int32)) K dX9_lay_55 (by decide) ?_
          refine r_istore (lv1 := [(6, .int (0 : Int32)), (5, .ref b12), (4, .ref b7), (0, .ref a0), (1, .int x1), (2, .int x2), (3, .int x3)]) K dX9_lay_56 (by decide) rfl ?_
          refine r_lv [3, 5, 2, 1, 0] rfl ?_
          refine wX9_lay_L58 K ht _ (fun g35 hf => ?_) lf (0 : Int32) g13 hf
          refine r_aload_n K 0 dX9_lay_114 rfl ?_
          obtain ⟨b36, e37, hf⟩ := ob1_s hf
          refine r_getR (ci := 9) (k := 0) K dX9_lay_115 inX9 rfl (by decide) rfl q_357 e37 ?_
          obtain ⟨v38, e39, hf⟩ := ob1_s hf
          refine r_getI (ci := 1) (k := 1) K dX9_lay_118 inX1 rfl (by decide) rfl q_154 e39 ?_
          exact r_iret K dX9_lay_121 hf (Nat.le_of_ble_eq_true rfl) (Nat.le_of_ble_eq_true rfl)
        · replace hf := ite_t hf c40
          refine r_bipush (v := (-3 : Int32)) K dX9_lay_52 (by decide) ?_
          exact r_iret K dX9_lay_54 hf (Nat.le_of_ble_eq_true rfl) (Nat.le_of_ble_eq_true rfl)
      · replace hf := ite_f hf c41
        refine r_bipush (v := (-11 : Int32)) K dX9_lay_34 (by decide) ?_
        exact r_iret K dX9_lay_36 hf (Nat.le_of_ble_eq_true rfl) (Nat.le_of_ble_eq_true rfl)
    · replace hf := ite_t hf c42
      refine r_iconst (v := (-1 : Int32)) K dX9_lay_16 (by decide) ?_
      exact r_iret K dX9_lay_17 hf (Nat.le_of_ble_eq_true rfl) (Nat.le_of_ble_eq_true rfl)
theorem ceX9_isBalanced : CE yX9_isBalanced 3 := ⟨by decide, by decide, by decide +kernel⟩
abbrev rmX9_isBalanced : Room := { frames := 1, cells := 0, slots := 0, locals := 23 }
def fX9_isBalanced_L9 (a0 : Nat) (a1 : Nat) (x2 : Int32) (x3 : Int32) (h : AH) (k : Int64 → Int64 → Option Int32) : Nat → Int64 → Int64 → Int32 → Option Int32
  | 0, _, _, _ => none
  | n + 1, x4, x6, x8 =>
    ob1 (gR h a0 9 0) fun b1 =>
    ob1 (gI h b1 1 1) fun v3 =>
    if v3 ≤ x8 then
      k x4 x6
    else
      ob1 (gR h a0 9 0) fun b5 =>
      ob1 (gR h b5 1 2) fun b7 =>
      ob1 (aR h b7 4 x8) fun b9 =>
      ob1 (gI h b9 3 1) fun v11 =>
      bnd (fun (v14 : Int32) =>
        ob1 (aL h a1 (x2 + x8)) fun v15 =>
        bnd (x4 + ((Int32.toInt64 v14) * (((Int64.toUInt64 v15) >>> (Int64.toUInt64 (Int32.toInt64 (32 : Int32)) &&& Int64.toUInt64 63)).toInt64))) fun y17 =>
        ob1 (aL h a1 (x2 + x8)) fun v18 =>
        bnd (x6 + ((Int32.toInt64 v14) * (v18 &&& (4294967295 : Int64)))) fun y20 =>
        bnd (x8 + (1 : Int32)) fun y21 =>
        fX9_isBalanced_L9 a0 a1 x2 x3 h k n y17 y20 y21
      ) fun j13 =>
      if v11 = x3 then
        j13 (1 : Int32)
      else
        ob1 (gR h a0 9 0) fun b22 =>
        ob1 (gR h b22 1 2) fun b24 =>
        ob1 (aR h b24 4 x8) fun b26 =>
        ob1 (gI h b26 3 0) fun v28 =>
        if v28 = x3 then
          j13 (-1 : Int32)
        else
          j13 (0 : Int32)
def fX9_isBalanced (a0 : Nat) (a1 : Nat) (x2 : Int32) (x3 : Int32) (h : AH) : Option Int32 :=
  fX9_isBalanced_L9 a0 a1 x2 x3 h (fun (y33 : Int64) (y34 : Int64) =>
    bnd (y33 + (y34 >>> (Int32.toInt64 (32 : Int32) &&& 63))) fun y35 =>
    if y35 = (0 : Int64) then
      ob1 (gR h a0 9 0) fun b36 =>
      gd (ckO h b36 1) <|
      ob1 (fX1_driversTo b36 x3 h) fun r39 =>
      if (y34 &&& (4294967295 : Int64)) = (Int32.toInt64 r39) then
        some (1 : Int32)
      else
        some (0 : Int32)
    else
      some (0 : Int32)
  ) lf (0 : Int64) (0 : Int64) (0 : Int32)
set_option maxHeartbeats 4000000 in
set_option maxRecDepth 100000 in
theorem wX9_isBalanced_L9 {p : Program} {l : Launch} {e : Env} {s : State} {m : MethodId} {args : Array Value} {below : List Frame} {meth : Method} {c : Code} {G : GG} {b0 : Nat} {h0 : AH} {a0 : Nat} {a1 : Nat} {x2 : Int32} {x3 : Int32} {h : AH} {rr : Int32} (K : CX p s m args meth c cX9_isBalanced 10 RX9 (some .boolean) G b0) (ht : isO h0 a0 9) (k : Int64 → Int64 → Option Int32) (hk : ∀ (x4 : Int64) (x6 : Int64), k x4 x6 = some rr → WA p l e rmX9_isBalanced s m args below meth c (MQ below (QG G b0 h0 (some (.int rr)) h) args s (rmX9_isBalanced).cells (rmX9_isBalanced).slots (AB b0)) G b0 10 h0 0 0 h 109 [(0, .ref a0), (3, .int x3), (4, .long x4), (6, .long x6)] []) : ∀ (n : Nat) (x4 : Int64) (x6 : Int64) (x8 : Int32), fX9_isBalanced_L9 a0 a1 x2 x3 h k n x4 x6 x8 = some rr → WA p l e rmX9_isBalanced s m args below meth c (MQ below (QG G b0 h0 (some (.int rr)) h) args s (rmX9_isBalanced).cells (rmX9_isBalanced).slots (AB b0)) G b0 10 h0 0 0 h 9 [(0, .ref a0), (1, .ref a1), (2, .int x2), (3, .int x3), (4, .long x4), (6, .long x6), (8, .int x8)] [] := by
  intro n
  induction n with
  | zero =>
    intro x4 x6 x8 hf
    rw [fX9_isBalanced_L9] at hf
    cases hf
  | succ n ih =>
    intro x4 x6 x8 hf
    rw [fX9_isBalanced_L9] at hf
    refine r_iload K 6 dX9_isBalanced_9 rfl ?_
    refine r_aload_n K 0 dX9_isBalanced_11 rfl ?_
    obtain ⟨b1, e2, hf⟩ := ob1_s hf
    refine r_getR (ci := 9) (k := 0) K dX9_isBalanced_12 inX9 rfl (by decide) rfl q_357 e2 ?_
    obtain ⟨v3, e4, hf⟩ := ob1_s hf
    refine r_getI (ci := 1) (k := 1) K dX9_isBalanced_15 inX1 rfl (by decide) rfl q_154 e4 ?_
    refine r_icmp_ge (tgt := 109) K dX9_isBalanced_18 (by decide) (fun c32 => ?_) (fun c32 => ?_)
    · replace hf := ite_t hf c32
      refine r_lv [0, 3, 4, 5] rfl ?_
      exact hk x4 x6 hf
    · replace hf := ite_f hf c32
      refine r_aload_n K 0 dX9_isBalanced_21 rfl ?_
      obtain ⟨b5, e6, hf⟩ := ob1_s hf
      refine r_getR (ci := 9) (k := 0) K dX9_isBalanced_22 inX9 rfl (by decide) rfl q_357 e6 ?_
      obtain ⟨b7, e8, hf⟩ := ob1_s hf
      refine r_getR (ci := 1) (k := 2) K dX9_isBalanced_25 inX1 rfl (by decide) rfl q_161 e8 ?_
      refine r_iload K 6 dX9_isBalanced_28 rfl ?_
      obtain ⟨b9, e10, hf⟩ := ob1_s hf
      refine r_aaload (kd := 4) (ty := .object RX3) K dX9_isBalanced_30 rfl rfl e10 ?_
      obtain ⟨v11, e12, hf⟩ := ob1_s hf
      refine r_getI (ci := 3) (k := 1) K dX9_isBalanced_31 inX3 rfl (by decide) rfl q_121 e12 ?_
      refine r_iload_n K 3 dX9_isBalanced_34 rfl ?_
      obtain ⟨j13, ej13, hf⟩ := bnd_g hf
      have Jj13 : ∀ (v14 : Int32), j13 v14 = some rr → WA p l e rmX9_isBalanced s m args below meth c (MQ below (QG G b0 h0 (some (.int rr)) h) args s (rmX9_isBalanced).cells (rmX9_isBalanced).slots (AB b0)) G b0 10 h0 0 0 h 64 [(0, .ref a0), (1, .ref a1), (2, .int x2), (3, .int x3), (4, .long x4), (6, .long x6), (8, .int x8)] [.int v14] := by
        intro v14 hf
        rw [ej13] at hf
        refine r_istore (lv1 := [(9, .int v14), (0, .ref a0), (1, .ref a1), (2, .int x2), (3, .int x3), (4, .long x4), (6, .long x6), (8, .int x8)]) K dX9_isBalanced_64 (by decide) rfl ?_
        refine r_lload K 5 dX9_isBalanced_66 rfl ?_
        refine r_iload K 0 dX9_isBalanced_68 rfl ?_
        refine r_i2l K dX9_isBalanced_70 ?_
        refine r_aload_n K 2 dX9_isBalanced_71 rfl ?_
        refine r_iload_n K 3 dX9_isBalanced_72 rfl ?_
        refine r_iload K 7 dX9_isBalanced_73 rfl ?_
        refine r_iadd K dX9_isBalanced_75 ?_
        obtain ⟨v15, e16, hf⟩ := ob1_s hf
        refine r_laload K dX9_isBalanced_76 e16 ?_
        refine r_bipush (v := (32 : Int32)) K dX9_isBalanced_77 (by decide) ?_
        refine r_lushr K dX9_isBalanced_79 ?_
        refine r_lmul K dX9_isBalanced_80 ?_
        refine r_ladd K dX9_isBalanced_81 ?_
        obtain ⟨y17, ey17, hf⟩ := bnd_g hf
        refine r_nml ey17 ?_
        refine r_lstore (lv1 := [(4, .long y17), (9, .int v14), (0, .ref a0), (1, .ref a1), (2, .int x2), (3, .int x3), (6, .long x6), (8, .int x8)]) K dX9_isBalanced_82 (by decide) rfl ?_
        refine r_lload K 6 dX9_isBalanced_84 rfl ?_
        refine r_iload K 1 dX9_isBalanced_86 rfl ?_
        refine r_i2l K dX9_isBalanced_88 ?_
        refine r_aload_n K 3 dX9_isBalanced_89 rfl ?_
        refine r_iload_n K 4 dX9_isBalanced_90 rfl ?_
        refine r_iload K 7 dX9_isBalanced_91 rfl ?_
        refine r_iadd K dX9_isBalanced_93 ?_
        obtain ⟨v18, e19, hf⟩ := ob1_s hf
        refine r_laload K dX9_isBalanced_94 e19 ?_
        refine r_ldc2 K dX9_isBalanced_95 q_822 ?_
        refine r_land K dX9_isBalanced_98 ?_
        refine r_lmul K dX9_isBalanced_99 ?_
        refine r_ladd K dX9_isBalanced_100 ?_
        obtain ⟨y20, ey20, hf⟩ := bnd_g hf
        refine r_nml ey20 ?_
        refine r_lstore (lv1 := [(6, .long y20), (4, .long y17), (9, .int v14), (0, .ref a0), (1, .ref a1), (2, .int x2), (3, .int x3), (8, .int x8)]) K dX9_isBalanced_101 (by decide) rfl ?_
        obtain ⟨y21, ey21, hf⟩ := bnd_g hf
        refine r_iinc (lv1 := [(8, .int y21), (6, .long y20), (4, .long y17), (9, .int v14), (0, .ref a0), (1, .ref a1), (2, .int x2), (3, .int x3)]) K 7 dX9_isBalanced_103 rfl (by rw [ey21]; rfl) (by decide) rfl ?_
        refine r_goto (tgt := 9) K dX9_isBalanced_106 (by decide) ?_
        refine r_lv [4, 5, 6, 7, 2, 1, 0] rfl ?_
        exact ih y17 y20 y21 hf
      refine r_icmp_ne (tgt := 42) K dX9_isBalanced_35 (by decide) (fun c31 => ?_) (fun c31 => ?_)
      · replace hf := ite_f hf c31
        refine r_aload_n K 0 dX9_isBalanced_42 rfl ?_
        obtain ⟨b22, e23, hf⟩ := ob1_s hf
        refine r_getR (ci := 9) (k := 0) K dX9_isBalanced_43 inX9 rfl (by decide) rfl q_357 e23 ?_
        obtain ⟨b24, e25, hf⟩ := ob1_s hf
        refine r_getR (ci := 1) (k := 2) K dX9_isBalanced_46 inX1 rfl (by decide) rfl q_161 e25 ?_
        refine r_iload K 6 dX9_isBalanced_49 rfl ?_
        obtain ⟨b26, e27, hf⟩ := ob1_s hf
        refine r_aaload (kd := 4) (ty := .object RX3) K dX9_isBalanced_51 rfl rfl e27 ?_
        obtain ⟨v28, e29, hf⟩ := ob1_s hf
        refine r_getI (ci := 3) (k := 0) K dX9_isBalanced_52 inX3 rfl (by decide) rfl q_117 e29 ?_
        refine r_iload_n K 3 dX9_isBalanced_55 rfl ?_
        refine r_icmp_ne (tgt := 63) K dX9_isBalanced_56 (by decide) (fun c30 => ?_) (fun c30 => ?_)
        · replace hf := ite_f hf c30
          refine r_iconst (v := (0 : Int32)) K dX9_isBalanced_63 (by decide) ?_
          exact Jj13 (0 : Int32) hf
        · replace hf := ite_t hf c30
          refine r_iconst (v := (-1 : Int32)) K dX9_isBalanced_59 (by decide) ?_
          refine r_goto (tgt := 64) K dX9_isBalanced_60 (by decide) ?_
          exact Jj13 (-1 : Int32) hf
      · replace hf := ite_t hf c31
        refine r_iconst (v := (1 : Int32)) K dX9_isBalanced_38 (by decide) ?_
        refine r_goto (tgt := 64) K dX9_isBalanced_39 (by decide) ?_
        exact Jj13 (1 : Int32) hf
set_option maxHeartbeats 4000000 in
set_option maxRecDepth 100000 in
theorem mX9_isBalanced (l : Launch) {G : GG} {b0 : Nat} {h : AH} {a0 : Nat} {a1 : Nat} {x2 : Int32} {x3 : Int32} {rr : Int32} (ht : isO h a0 9) (hf : fX9_isBalanced a0 a1 x2 x3 h = some rr) : MM l yX9_isBalanced cX9_isBalanced 10 (some .boolean) rmX9_isBalanced G b0 h [.ref a0, .ref a1, .int x2, .int x3] (some (.int rr)) h := by
  refine MM.of (own := RX9) (lv0 := [(0, .ref a0), (1, .ref a1), (2, .int x2), (3, .int x3)]) (by decide) rfl (Nat.le_of_ble_eq_true rfl) rfl ?_
  intro p e s m args below meth c K hnm
  unfold fX9_isBalanced at hf
  refine r_lconst (v := (0 : Int64)) K dX9_isBalanced_0 (by decide) ?_
  refine r_lstore (lv1 := [(4, .long (0 : Int64)), (0, .ref a0), (1, .ref a1), (2, .int x2), (3, .int x3)]) K dX9_isBalanced_1 (by decide) rfl ?_
  refine r_lconst (v := (0 : Int64)) K dX9_isBalanced_3 (by decide) ?_
  refine r_lstore (lv1 := [(6, .long (0 : Int64)), (4, .long (0 : Int64)), (0, .ref a0), (1, .ref a1), (2, .int x2), (3, .int x3)]) K dX9_isBalanced_4 (by decide) rfl ?_
  refine r_iconst (v := (0 : Int32)) K dX9_isBalanced_6 (by decide) ?_
  refine r_istore (lv1 := [(8, .int (0 : Int32)), (6, .long (0 : Int64)), (4, .long (0 : Int64)), (0, .ref a0), (1, .ref a1), (2, .int x2), (3, .int x3)]) K dX9_isBalanced_7 (by decide) rfl ?_
  refine r_lv [3, 4, 5, 6, 2, 1, 0] rfl ?_
  refine wX9_isBalanced_L9 K ht _ (fun y33 y34 hf => ?_) lf (0 : Int64) (0 : Int64) (0 : Int32) hf
  refine r_lload K 2 dX9_isBalanced_109 rfl ?_
  refine r_lload K 3 dX9_isBalanced_111 rfl ?_
  refine r_bipush (v := (32 : Int32)) K dX9_isBalanced_113 (by decide) ?_
  refine r_lshr K dX9_isBalanced_115 ?_
  refine r_ladd K dX9_isBalanced_116 ?_
  obtain ⟨y35, ey35, hf⟩ := bnd_g hf
  refine r_nml ey35 ?_
  refine r_lstore (lv1 := [(4, .long y35), (0, .ref a0), (3, .int x3), (6, .long y34)]) K dX9_isBalanced_117 (by decide) rfl ?_
  refine r_lload K 0 dX9_isBalanced_119 rfl ?_
  refine r_lconst (v := (0 : Int64)) K dX9_isBalanced_121 (by decide) ?_
  refine r_lif_ne (tgt := 149) K dX9_isBalanced_122 dX9_isBalanced_123 (by decide) (fun c42 => ?_) (fun c42 => ?_)
  · replace hf := ite_f hf c42
    refine r_iconst (v := (0 : Int32)) K dX9_isBalanced_149 (by decide) ?_
    exact r_zret K dX9_isBalanced_150 rfl (retp hf) (Nat.le_of_ble_eq_true rfl) (Nat.le_of_ble_eq_true rfl)
  · replace hf := ite_t hf c42
    refine r_lload K 3 dX9_isBalanced_126 rfl ?_
    refine r_ldc2 K dX9_isBalanced_128 q_822 ?_
    refine r_land K dX9_isBalanced_131 ?_
    refine r_aload_n K 1 dX9_isBalanced_132 rfl ?_
    obtain ⟨b36, e37, hf⟩ := ob1_s hf
    refine r_getR (ci := 9) (k := 0) K dX9_isBalanced_133 inX9 rfl (by decide) rfl q_357 e37 ?_
    refine r_iload_n K 2 dX9_isBalanced_136 rfl ?_
    obtain ⟨z38, hf⟩ := gd_s hf
    obtain ⟨r39, e40, hf⟩ := ob1_s hf
    refine r_callV (As := [.int x3]) (rest := [.long (y34 &&& (4294967295 : Int64))]) (st1 := [.int r39, .long (y34 &&& (4294967295 : Int64))]) (cells1 := 0) (slots1 := 0) (b := b36) (ci := 1) K (fun z => mX1_driversTo l z e40) dX9_isBalanced_137 rfl (fun _ => isO_of z38) rfl ceX1_driversTo q_823 q_824 q_825 q_76 q_826 ⟨Nat.le_of_ble_eq_true rfl, Nat.le_of_ble_eq_true rfl⟩ (Nat.le_of_ble_eq_true rfl) ⟨Nat.le_of_ble_eq_true rfl, Nat.le_of_ble_eq_true rfl⟩ ?_ rfl rfl rfl rfl
    refine r_i2l K dX9_isBalanced_140 ?_
    refine r_lif_ne (tgt := 149) K dX9_isBalanced_141 dX9_isBalanced_142 (by decide) (fun c41 => ?_) (fun c41 => ?_)
    · replace hf := ite_f hf c41
      refine r_iconst (v := (0 : Int32)) K dX9_isBalanced_149 (by decide) ?_
      exact r_zret K dX9_isBalanced_150 rfl (retp hf) (Nat.le_of_ble_eq_true rfl) (Nat.le_of_ble_eq_true rfl)
    · replace hf := ite_t hf c41
      refine r_iconst (v := (1 : Int32)) K dX9_isBalanced_145 (by decide) ?_
      refine r_goto (tgt := 150) K dX9_isBalanced_146 (by decide) ?_
      exact r_zret K dX9_isBalanced_150 rfl (retp hf) (Nat.le_of_ble_eq_true rfl) (Nat.le_of_ble_eq_true rfl)
theorem ceX9_conserves : CE yX9_conserves 2 := ⟨by decide, by decide, by decide +kernel⟩
abbrev rmX9_conserves : Room := { frames := 2, cells := 0, slots := 0, locals := 52 }
def fX9_conserves_L2 (a0 : Nat) (a1 : Nat) (x2 : Int32) (h : AH) (k : Option Int32) : Nat → Int32 → Option Int32
  | 0, _ => none
  | n + 1, x3 =>
    ob1 (gR h a0 9 0) fun b1 =>
    ob1 (gI h b1 1 1) fun v3 =>
    if v3 ≤ x3 then
      k
    else
      ob1 (aL h a1 (x2 + x3)) fun v5 =>
      if (0 : Int64) ≤ v5 then
        bnd (x3 + (1 : Int32)) fun y7 =>
        fX9_conserves_L2 a0 a1 x2 h k n y7
      else
        some (0 : Int32)
def fX9_conserves_L33 (a0 : Nat) (a1 : Nat) (x2 : Int32) (h : AH) (k : Option Int32) : Nat → Int32 → Option Int32
  | 0, _ => none
  | n + 1, x3 =>
    ob1 (gR h a0 9 0) fun b10 =>
    ob1 (gI h b10 1 0) fun v12 =>
    if v12 ≤ x3 then
      k
    else
      ob1 (fX9_isBalanced a0 a1 x2 x3 h) fun r14 =>
      if r14 = (0 : Int32) then
        some (0 : Int32)
      else
        bnd (x3 + (1 : Int32)) fun y16 =>
        fX9_conserves_L33 a0 a1 x2 h k n y16
def fX9_conserves (a0 : Nat) (a1 : Nat) (x2 : Int32) (h : AH) : Option Int32 :=
  fX9_conserves_L2 a0 a1 x2 h (
    fX9_conserves_L33 a0 a1 x2 h (
      some (1 : Int32)
    ) lf (1 : Int32)
  ) lf (0 : Int32)
set_option maxHeartbeats 4000000 in
set_option maxRecDepth 100000 in
theorem wX9_conserves_L2 {p : Program} {l : Launch} {e : Env} {s : State} {m : MethodId} {args : Array Value} {below : List Frame} {meth : Method} {c : Code} {G : GG} {b0 : Nat} {h0 : AH} {a0 : Nat} {a1 : Nat} {x2 : Int32} {h : AH} {rr : Int32} (K : CX p s m args meth c cX9_conserves 4 RX9 (some .boolean) G b0) (ht : isO h0 a0 9) (k : Option Int32) (hk : k = some rr → WA p l e rmX9_conserves s m args below meth c (MQ below (QG G b0 h0 (some (.int rr)) h) args s (rmX9_conserves).cells (rmX9_conserves).slots (AB b0)) G b0 4 h0 0 0 h 31 [(0, .ref a0), (1, .ref a1), (2, .int x2)] []) : ∀ (n : Nat) (x3 : Int32), fX9_conserves_L2 a0 a1 x2 h k n x3 = some rr → WA p l e rmX9_conserves s m args below meth c (MQ below (QG G b0 h0 (some (.int rr)) h) args s (rmX9_conserves).cells (rmX9_conserves).slots (AB b0)) G b0 4 h0 0 0 h 2 [(0, .ref a0), (1, .ref a1), (2, .int x2), (3, .int x3)] [] := by
  intro n
  induction n with
  | zero =>
    intro x3 hf
    rw [fX9_conserves_L2] at hf
    cases hf
  | succ n ih =>
    intro x3 hf
    rw [fX9_conserves_L2] at hf
    refine r_iload_n K 3 dX9_conserves_2 rfl ?_
    refine r_aload_n K 0 dX9_conserves_3 rfl ?_
    obtain ⟨b1, e2, hf⟩ := ob1_s hf
    refine r_getR (ci := 9) (k := 0) K dX9_conserves_4 inX9 rfl (by decide) rfl q_357 e2 ?_
    obtain ⟨v3, e4, hf⟩ := ob1_s hf
    refine r_getI (ci := 1) (k := 1) K dX9_conserves_7 inX1 rfl (by decide) rfl q_154 e4 ?_
    refine r_icmp_ge (tgt := 31) K dX9_conserves_10 (by decide) (fun c9 => ?_) (fun c9 => ?_)
    · replace hf := ite_t hf c9
      refine r_lv [0, 1, 2] rfl ?_
      exact hk  hf
    · replace hf := ite_f hf c9
      refine r_aload_n K 1 dX9_conserves_13 rfl ?_
      refine r_iload_n K 2 dX9_conserves_14 rfl ?_
      refine r_iload_n K 3 dX9_conserves_15 rfl ?_
      refine r_iadd K dX9_conserves_16 ?_
      obtain ⟨v5, e6, hf⟩ := ob1_s hf
      refine r_laload K dX9_conserves_17 e6 ?_
      refine r_lconst (v := (0 : Int64)) K dX9_conserves_18 (by decide) ?_
      refine r_lif_ge (tgt := 25) K dX9_conserves_19 dX9_conserves_20 (by decide) (fun c8 => ?_) (fun c8 => ?_)
      · replace hf := ite_t hf c8
        obtain ⟨y7, ey7, hf⟩ := bnd_g hf
        refine r_iinc (lv1 := [(3, .int y7), (0, .ref a0), (1, .ref a1), (2, .int x2)]) K 3 dX9_conserves_25 rfl (by rw [ey7]; rfl) (by decide) rfl ?_
        refine r_goto (tgt := 2) K dX9_conserves_28 (by decide) ?_
        refine r_lv [1, 2, 3, 0] rfl ?_
        exact ih y7 hf
      · replace hf := ite_f hf c8
        refine r_iconst (v := (0 : Int32)) K dX9_conserves_23 (by decide) ?_
        exact r_zret K dX9_conserves_24 rfl (retp hf) (Nat.le_of_ble_eq_true rfl) (Nat.le_of_ble_eq_true rfl)
set_option maxHeartbeats 4000000 in
set_option maxRecDepth 100000 in
theorem wX9_conserves_L33 {p : Program} {l : Launch} {e : Env} {s : State} {m : MethodId} {args : Array Value} {below : List Frame} {meth : Method} {c : Code} {G : GG} {b0 : Nat} {h0 : AH} {a0 : Nat} {a1 : Nat} {x2 : Int32} {h : AH} {rr : Int32} (K : CX p s m args meth c cX9_conserves 4 RX9 (some .boolean) G b0) (ht : isO h0 a0 9) (k : Option Int32) (hk : k = some rr → WA p l e rmX9_conserves s m args below meth c (MQ below (QG G b0 h0 (some (.int rr)) h) args s (rmX9_conserves).cells (rmX9_conserves).slots (AB b0)) G b0 4 h0 0 0 h 62 [] []) : ∀ (n : Nat) (x3 : Int32), fX9_conserves_L33 a0 a1 x2 h k n x3 = some rr → WA p l e rmX9_conserves s m args below meth c (MQ below (QG G b0 h0 (some (.int rr)) h) args s (rmX9_conserves).cells (rmX9_conserves).slots (AB b0)) G b0 4 h0 0 0 h 33 [(0, .ref a0), (1, .ref a1), (2, .int x2), (3, .int x3)] [] := by
  intro n
  induction n with
  | zero =>
    intro x3 hf
    rw [fX9_conserves_L33] at hf
    cases hf
  | succ n ih =>
    intro x3 hf
    rw [fX9_conserves_L33] at hf
    refine r_iload_n K 3 dX9_conserves_33 rfl ?_
    refine r_aload_n K 0 dX9_conserves_34 rfl ?_
    obtain ⟨b10, e11, hf⟩ := ob1_s hf
    refine r_getR (ci := 9) (k := 0) K dX9_conserves_35 inX9 rfl (by decide) rfl q_357 e11 ?_
    obtain ⟨v12, e13, hf⟩ := ob1_s hf
    refine r_getI (ci := 1) (k := 0) K dX9_conserves_38 inX1 rfl (by decide) rfl q_150 e13 ?_
    refine r_icmp_ge (tgt := 62) K dX9_conserves_41 (by decide) (fun c18 => ?_) (fun c18 => ?_)
    · replace hf := ite_t hf c18
      refine r_lv [] rfl ?_
      exact hk  hf
    · replace hf := ite_f hf c18
      refine r_aload_n K 0 dX9_conserves_44 rfl ?_
      refine r_aload_n K 1 dX9_conserves_45 rfl ?_
      refine r_iload_n K 2 dX9_conserves_46 rfl ?_
      refine r_iload_n K 3 dX9_conserves_47 rfl ?_
      obtain ⟨r14, e15, hf⟩ := ob1_s hf
      refine r_callV (As := [.ref a1, .int x2, .int x3]) (rest := []) (st1 := [.int r14]) (cells1 := 0) (slots1 := 0) (b := a0) (ci := 9) K (fun z => mX9_isBalanced l z e15) dX9_conserves_48 rfl (fun z => z _ _ ht) rfl ceX9_isBalanced q_818 q_820 q_28 q_75 q_821 ⟨Nat.le_of_ble_eq_true rfl, Nat.le_of_ble_eq_true rfl⟩ (Nat.le_of_ble_eq_true rfl) ⟨Nat.le_of_ble_eq_true rfl, Nat.le_of_ble_eq_true rfl⟩ ?_ rfl rfl rfl rfl
      refine r_if_ne (tgt := 56) K dX9_conserves_51 (by decide) (fun c17 => ?_) (fun c17 => ?_)
      · replace hf := ite_f hf c17
        obtain ⟨y16, ey16, hf⟩ := bnd_g hf
        refine r_iinc (lv1 := [(3, .int y16), (0, .ref a0), (1, .ref a1), (2, .int x2)]) K 3 dX9_conserves_56 rfl (by rw [ey16]; rfl) (by decide) rfl ?_
        refine r_goto (tgt := 33) K dX9_conserves_59 (by decide) ?_
        refine r_lv [1, 2, 3, 0] rfl ?_
        exact ih y16 hf
      · replace hf := ite_t hf c17
        refine r_iconst (v := (0 : Int32)) K dX9_conserves_54 (by decide) ?_
        exact r_zret K dX9_conserves_55 rfl (retp hf) (Nat.le_of_ble_eq_true rfl) (Nat.le_of_ble_eq_true rfl)
set_option maxHeartbeats 4000000 in
set_option maxRecDepth 100000 in
theorem mX9_conserves (l : Launch) {G : GG} {b0 : Nat} {h : AH} {a0 : Nat} {a1 : Nat} {x2 : Int32} {rr : Int32} (ht : isO h a0 9) (hf : fX9_conserves a0 a1 x2 h = some rr) : MM l yX9_conserves cX9_conserves 4 (some .boolean) rmX9_conserves G b0 h [.ref a0, .ref a1, .int x2] (some (.int rr)) h := by
  refine MM.of (own := RX9) (lv0 := [(0, .ref a0), (1, .ref a1), (2, .int x2)]) (by decide) rfl (Nat.le_of_ble_eq_true rfl) rfl ?_
  intro p e s m args below meth c K hnm
  unfold fX9_conserves at hf
  refine r_iconst (v := (0 : Int32)) K dX9_conserves_0 (by decide) ?_
  refine r_istore_n (lv1 := [(3, .int (0 : Int32)), (0, .ref a0), (1, .ref a1), (2, .int x2)]) K dX9_conserves_1 (by decide) rfl ?_
  refine r_lv [1, 2, 3, 0] rfl ?_
  refine wX9_conserves_L2 K ht _ (fun  hf => ?_) lf (0 : Int32) hf
  refine r_iconst (v := (1 : Int32)) K dX9_conserves_31 (by decide) ?_
  refine r_istore_n (lv1 := [(3, .int (1 : Int32)), (0, .ref a0), (1, .ref a1), (2, .int x2)]) K dX9_conserves_32 (by decide) rfl ?_
  refine r_lv [1, 2, 3, 0] rfl ?_
  refine wX9_conserves_L33 K ht _ (fun  hf => ?_) lf (1 : Int32) hf
  refine r_iconst (v := (1 : Int32)) K dX9_conserves_62 (by decide) ?_
  exact r_zret K dX9_conserves_63 rfl (retp hf) (Nat.le_of_ble_eq_true rfl) (Nat.le_of_ble_eq_true rfl)
theorem ceX9_takeTold : CE yX9_takeTold 2 := ⟨by decide, by decide, by decide +kernel⟩
abbrev rmX9_takeTold : Room := { frames := 0, cells := 0, slots := 0, locals := 0 }
def fX9_takeTold_L2 (a0 : Nat) (a1 : Nat) (x2 : Int32) (k : AH → Option (Int32 × AH)) : Nat → Int32 → AH → Option (Int32 × AH)
  | 0, _, _ => none
  | n + 1, x3, h =>
    ob1 (gR h a0 9 0) fun b1 =>
    ob1 (gI h b1 1 1) fun v3 =>
    if v3 ≤ x3 then
      k h
    else
      ob1 (aL h a1 (x2 + x3)) fun v5 =>
      if v5 ≤ (36 : Int64) then
        ob1 (gR h a0 9 15) fun b7 =>
        ob1 (aL h a1 (x2 + x3)) fun v9 =>
        ob1 (sI h b7 x3 (Int64.toInt32 v9)) fun g11 =>
        bnd (x3 + (1 : Int32)) fun y13 =>
        fX9_takeTold_L2 a0 a1 x2 k n y13 g11
      else
        some ((0 : Int32), h)
def fX9_takeTold (a0 : Nat) (a1 : Nat) (x2 : Int32) (h : AH) : Option (Int32 × AH) :=
  fX9_takeTold_L2 a0 a1 x2 (fun (g16 : AH) =>
    some ((1 : Int32), g16)
  ) lf (0 : Int32) h
set_option maxHeartbeats 4000000 in
set_option maxRecDepth 100000 in
theorem wX9_takeTold_L2 {p : Program} {l : Launch} {e : Env} {s : State} {m : MethodId} {args : Array Value} {below : List Frame} {meth : Method} {c : Code} {G : GG} {b0 : Nat} {h0 : AH} {a0 : Nat} {a1 : Nat} {x2 : Int32} {rr : Int32} {hh : AH} (K : CX p s m args meth c cX9_takeTold 4 RX9 (some .boolean) G b0) (ht : isO h0 a0 9) (k : AH → Option (Int32 × AH)) (hk : ∀ (h : AH), k h = some (rr, hh) → WA p l e rmX9_takeTold s m args below meth c (MQ below (QG G b0 h0 (some (.int rr)) hh) args s (rmX9_takeTold).cells (rmX9_takeTold).slots (AB b0)) G b0 4 h0 0 0 h 45 [] []) : ∀ (n : Nat) (x3 : Int32) (h : AH), fX9_takeTold_L2 a0 a1 x2 k n x3 h = some (rr, hh) → WA p l e rmX9_takeTold s m args below meth c (MQ below (QG G b0 h0 (some (.int rr)) hh) args s (rmX9_takeTold).cells (rmX9_takeTold).slots (AB b0)) G b0 4 h0 0 0 h 2 [(0, .ref a0), (1, .ref a1), (2, .int x2), (3, .int x3)] [] := by
  intro n
  induction n with
  | zero =>
    intro x3 h hf
    rw [fX9_takeTold_L2] at hf
    cases hf
  | succ n ih =>
    intro x3 h hf
    rw [fX9_takeTold_L2] at hf
    refine r_iload_n K 3 dX9_takeTold_2 rfl ?_
    refine r_aload_n K 0 dX9_takeTold_3 rfl ?_
    obtain ⟨b1, e2, hf⟩ := ob1_s hf
    refine r_getR (ci := 9) (k := 0) K dX9_takeTold_4 inX9 rfl (by decide) rfl q_357 e2 ?_
    obtain ⟨v3, e4, hf⟩ := ob1_s hf
    refine r_getI (ci := 1) (k := 1) K dX9_takeTold_7 inX1 rfl (by decide) rfl q_154 e4 ?_
    refine r_icmp_ge (tgt := 45) K dX9_takeTold_10 (by decide) (fun c15 => ?_) (fun c15 => ?_)
    · replace hf := ite_t hf c15
      refine r_lv [] rfl ?_
      exact hk h hf
    · replace hf := ite_f hf c15
      refine r_aload_n K 1 dX9_takeTold_13 rfl ?_
      refine r_iload_n K 2 dX9_takeTold_14 rfl ?_
      refine r_iload_n K 3 dX9_takeTold_15 rfl ?_
      refine r_iadd K dX9_takeTold_16 ?_
      obtain ⟨v5, e6, hf⟩ := ob1_s hf
      refine r_laload K dX9_takeTold_17 e6 ?_
      refine r_ldc2 K dX9_takeTold_18 q_437 ?_
      refine r_lif_le (tgt := 27) K dX9_takeTold_21 dX9_takeTold_22 (by decide) (fun c14 => ?_) (fun c14 => ?_)
      · replace hf := ite_t hf c14
        refine r_aload_n K 0 dX9_takeTold_27 rfl ?_
        obtain ⟨b7, e8, hf⟩ := ob1_s hf
        refine r_getR (ci := 9) (k := 15) K dX9_takeTold_28 inX9 rfl (by decide) rfl q_372 e8 ?_
        refine r_iload_n K 3 dX9_takeTold_31 rfl ?_
        refine r_aload_n K 1 dX9_takeTold_32 rfl ?_
        refine r_iload_n K 2 dX9_takeTold_33 rfl ?_
        refine r_iload_n K 3 dX9_takeTold_34 rfl ?_
        refine r_iadd K dX9_takeTold_35 ?_
        obtain ⟨v9, e10, hf⟩ := ob1_s hf
        refine r_laload K dX9_takeTold_36 e10 ?_
        refine r_l2i K dX9_takeTold_37 ?_
        obtain ⟨g11, e12, hf⟩ := ob1_s hf
        refine r_iastore K dX9_takeTold_38 e12 ?_
        obtain ⟨y13, ey13, hf⟩ := bnd_g hf
        refine r_iinc (lv1 := [(3, .int y13), (0, .ref a0), (1, .ref a1), (2, .int x2)]) K 3 dX9_takeTold_39 rfl (by rw [ey13]; rfl) (by decide) rfl ?_
        refine r_goto (tgt := 2) K dX9_takeTold_42 (by decide) ?_
        refine r_lv [1, 2, 3, 0] rfl ?_
        exact ih y13 g11 hf
      · replace hf := ite_f hf c14
        refine r_iconst (v := (0 : Int32)) K dX9_takeTold_25 (by decide) ?_
        exact r_zret K dX9_takeTold_26 rfl hf (Nat.le_of_ble_eq_true rfl) (Nat.le_of_ble_eq_true rfl)
set_option maxHeartbeats 4000000 in
set_option maxRecDepth 100000 in
theorem mX9_takeTold (l : Launch) {G : GG} {b0 : Nat} {h : AH} {a0 : Nat} {a1 : Nat} {x2 : Int32} {rr : Int32} {hh : AH} (ht : isO h a0 9) (hf : fX9_takeTold a0 a1 x2 h = some (rr, hh)) : MM l yX9_takeTold cX9_takeTold 4 (some .boolean) rmX9_takeTold G b0 h [.ref a0, .ref a1, .int x2] (some (.int rr)) hh := by
  refine MM.of (own := RX9) (lv0 := [(0, .ref a0), (1, .ref a1), (2, .int x2)]) (by decide) rfl (Nat.le_of_ble_eq_true rfl) rfl ?_
  intro p e s m args below meth c K hnm
  unfold fX9_takeTold at hf
  refine r_iconst (v := (0 : Int32)) K dX9_takeTold_0 (by decide) ?_
  refine r_istore_n (lv1 := [(3, .int (0 : Int32)), (0, .ref a0), (1, .ref a1), (2, .int x2)]) K dX9_takeTold_1 (by decide) rfl ?_
  refine r_lv [1, 2, 3, 0] rfl ?_
  refine wX9_takeTold_L2 K ht _ (fun g16 hf => ?_) lf (0 : Int32) h hf
  refine r_iconst (v := (1 : Int32)) K dX9_takeTold_45 (by decide) ?_
  exact r_zret K dX9_takeTold_46 rfl hf (Nat.le_of_ble_eq_true rfl) (Nat.le_of_ble_eq_true rfl)
theorem ceX9_judge : CE yX9_judge 2 := ⟨by decide, by decide, by decide +kernel⟩
abbrev rmX9_judge : Room := { frames := 5, cells := 0, slots := 0, locals := 117 }
def fX9_judge (a0 : Nat) (x1 : Int32) (x2 : Int32) (h : AH) : Option (Int32 × AH) :=
  ob1 (fX9_isOneOf x1 (4 : Int32)) fun r1 =>
  if r1 = (0 : Int32) then
    some ((-1 : Int32), h)
  else
    ob1 (gR h a0 9 14) fun b3 =>
    ob1 (aR h b3 7 x1) fun b5 =>
    gd (ckO h b5 4) <|
    ob1 (fX4_isMissing b5 h) fun r8 =>
    if r8 = (0 : Int32) then
      if x2 < (0 : Int32) then
        some ((-13 : Int32), h)
      else
        ob1 (gI h b5 4 0) fun v10 =>
        ob1 (gR h a0 9 0) fun b12 =>
        ob1 (gI h b12 1 1) fun v14 =>
        if x2 ≤ (v10 - v14) then
          ob1 (gR h b5 4 1) fun b16 =>
          ob1 (fX9_conserves a0 b16 x2 h) fun r18 =>
          if r18 = (0 : Int32) then
            some ((0 : Int32), h)
          else
            ob1 (gR h b5 4 1) fun b20 =>
            ob2 (fX9_takeTold a0 b20 x2 h) fun r22 g23 =>
            if r22 = (0 : Int32) then
              some ((-6 : Int32), g23)
            else
              ob1 (gR g23 a0 9 0) fun b25 =>
              ob1 (gR g23 a0 9 15) fun b27 =>
              ob1 (gR g23 a0 9 16) fun b29 =>
              gd (ckO g23 b25 1) <|
              ob1 (fX1_addUp b25 b27 b29 g23) fun g32 =>
              ob1 (gR g32 a0 9 16) fun b34 =>
              ob1 (gI g32 b34 6 1) fun v36 =>
              if v36 = (0 : Int32) then
                ob1 (gR g32 a0 9 0) fun b38 =>
                ob2 (fX9_freshPaths a0 g32) fun b40 g41 =>
                ob1 (fX5_canAllDrive b38 b40 g41) fun r43 =>
                if r43 = (0 : Int32) then
                  some ((1 : Int32), g41)
                else
                  ob2 (fX9_bestOrNo a0 g41) fun r45 g46 =>
                  if r45 = (-9223372036854775808 : Int64) then
                    some ((-6 : Int32), g46)
                  else
                    ob1 (gR g46 a0 9 16) fun b48 =>
                    ob1 (gL g46 b48 6 0) fun v50 =>
                    if v50 = r45 then
                      some ((2 : Int32), g46)
                    else
                      some ((1 : Int32), g46)
              else
                some ((-6 : Int32), g32)
        else
          some ((-13 : Int32), h)
    else
      some ((-11 : Int32), h)
set_option maxHeartbeats 4000000 in
set_option maxRecDepth 100000 in
theorem mX9_judge (l : Launch) {G : GG} {b0 : Nat} {h : AH} {a0 : Nat} {x1 : Int32} {x2 : Int32} {rr : Int32} {hh : AH} (ht : isO h a0 9) (hf : fX9_judge a0 x1 x2 h = some (rr, hh)) : MM l yX9_judge cX9_judge 6 (some .int) rmX9_judge G b0 h [.ref a0, .int x1, .int x2] (some (.int rr)) hh := by
  refine MM.of (own := RX9) (lv0 := [(0, .ref a0), (1, .int x1), (2, .int x2)]) (by decide) rfl (Nat.le_of_ble_eq_true rfl) rfl ?_
  intro p e s m args below meth c K hnm
  unfold fX9_judge at hf
  refine r_iload_n K 1 dX9_judge_0 rfl ?_
  refine r_iconst (v := (4 : Int32)) K dX9_judge_1 (by decide) ?_
  obtain ⟨r1, e2, hf⟩ := ob1_s hf
  refine r_callS (As := [.int x1, .int (4 : Int32)]) (rest := []) (st1 := [.int r1]) (cells1 := 0) (slots1 := 0) K (mX9_isOneOf l e2) dX9_judge_2 ceX9_isOneOf q_431 q_426 q_75 q_427 ⟨Nat.le_of_ble_eq_true rfl, Nat.le_of_ble_eq_true rfl⟩ (Nat.le_of_ble_eq_true rfl) ⟨Nat.le_of_ble_eq_true rfl, Nat.le_of_ble_eq_true rfl⟩ ?_ rfl rfl rfl rfl
  refine r_if_ne (tgt := 10) K dX9_judge_5 (by decide) (fun c61 => ?_) (fun c61 => ?_)
  · replace hf := ite_f hf c61
    refine r_aload_n K 0 dX9_judge_10 rfl ?_
    obtain ⟨b3, e4, hf⟩ := ob1_s hf
    refine r_getR (ci := 9) (k := 14) K dX9_judge_11 inX9 rfl (by decide) rfl q_371 e4 ?_
    refine r_iload_n K 1 dX9_judge_14 rfl ?_
    obtain ⟨b5, e6, hf⟩ := ob1_s hf
    refine r_aaload (kd := 7) (ty := .object RX4) K dX9_judge_15 rfl rfl e6 ?_
    refine r_astore_n (lv1 := [(3, .ref b5), (0, .ref a0), (1, .int x1), (2, .int x2)]) K dX9_judge_16 (by decide) rfl ?_
    refine r_aload_n K 0 dX9_judge_17 rfl ?_
    obtain ⟨z7, hf⟩ := gd_s hf
    obtain ⟨r8, e9, hf⟩ := ob1_s hf
    refine r_callV (As := []) (rest := []) (st1 := [.int r8]) (cells1 := 0) (slots1 := 0) (b := b5) (ci := 4) K (fun z => mX4_isMissing l z e9) dX9_judge_18 rfl (fun _ => isO_of z7) rfl ceX4_isMissing q_806 q_807 q_808 q_84 q_809 ⟨Nat.le_of_ble_eq_true rfl, Nat.le_of_ble_eq_true rfl⟩ (Nat.le_of_ble_eq_true rfl) ⟨Nat.le_of_ble_eq_true rfl, Nat.le_of_ble_eq_true rfl⟩ ?_ rfl rfl rfl rfl
    refine r_if_eq (tgt := 27) K dX9_judge_21 (by decide) (fun c60 => ?_) (fun c60 => ?_)
    · replace hf := ite_t hf c60
      refine r_iload_n K 3 dX9_judge_27 rfl ?_
      refine r_if_lt (tgt := 47) K dX9_judge_28 (by decide) (fun c59 => ?_) (fun c59 => ?_)
      · replace hf := ite_t hf c59
        refine r_bipush (v := (-13 : Int32)) K dX9_judge_47 (by decide) ?_
        exact r_iret K dX9_judge_49 hf (Nat.le_of_ble_eq_true rfl) (Nat.le_of_ble_eq_true rfl)
      · replace hf := ite_f hf c59
        refine r_iload_n K 3 dX9_judge_31 rfl ?_
        refine r_aload_n K 0 dX9_judge_32 rfl ?_
        obtain ⟨v10, e11, hf⟩ := ob1_s hf
        refine r_getI (ci := 4) (k := 0) K dX9_judge_33 inX4 rfl (by decide) rfl q_349 e11 ?_
        refine r_aload_n K 1 dX9_judge_36 rfl ?_
        obtain ⟨b12, e13, hf⟩ := ob1_s hf
        refine r_getR (ci := 9) (k := 0) K dX9_judge_37 inX9 rfl (by decide) rfl q_357 e13 ?_
        obtain ⟨v14, e15, hf⟩ := ob1_s hf
        refine r_getI (ci := 1) (k := 1) K dX9_judge_40 inX1 rfl (by decide) rfl q_154 e15 ?_
        refine r_isub K dX9_judge_43 ?_
        refine r_icmp_le (tgt := 50) K dX9_judge_44 (by decide) (fun c58 => ?_) (fun c58 => ?_)
        · replace hf := ite_t hf c58
          refine r_aload_n K 1 dX9_judge_50 rfl ?_
          refine r_aload_n K 0 dX9_judge_51 rfl ?_
          obtain ⟨b16, e17, hf⟩ := ob1_s hf
          refine r_getR (ci := 4) (k := 1) K dX9_judge_52 inX4 rfl (by decide) rfl q_351 e17 ?_
          refine r_iload_n K 3 dX9_judge_55 rfl ?_
          obtain ⟨r18, e19, hf⟩ := ob1_s hf
          refine r_callV (As := [.ref b16, .int x2]) (rest := []) (st1 := [.int r18]) (cells1 := 0) (slots1 := 0) (b := a0) (ci := 9) K (fun z => mX9_conserves l z e19) dX9_judge_56 rfl (fun z => z _ _ ht) rfl ceX9_conserves q_814 q_816 q_27 q_75 q_817 ⟨Nat.le_of_ble_eq_true rfl, Nat.le_of_ble_eq_true rfl⟩ (Nat.le_of_ble_eq_true rfl) ⟨Nat.le_of_ble_eq_true rfl, Nat.le_of_ble_eq_true rfl⟩ ?_ rfl rfl rfl rfl
          refine r_if_ne (tgt := 64) K dX9_judge_59 (by decide) (fun c57 => ?_) (fun c57 => ?_)
          · replace hf := ite_f hf c57
            refine r_aload_n K 1 dX9_judge_64 rfl ?_
            refine r_aload_n K 0 dX9_judge_65 rfl ?_
            obtain ⟨b20, e21, hf⟩ := ob1_s hf
            refine r_getR (ci := 4) (k := 1) K dX9_judge_66 inX4 rfl (by decide) rfl q_351 e21 ?_
            refine r_iload_n K 3 dX9_judge_69 rfl ?_
            obtain ⟨r22, g23, e24, hf⟩ := ob2_s hf
            refine r_callV (As := [.ref b20, .int x2]) (rest := []) (st1 := [.int r22]) (cells1 := 0) (slots1 := 0) (b := a0) (ci := 9) K (fun z => mX9_takeTold l z e24) dX9_judge_70 rfl (fun z => z _ _ ht) rfl ceX9_takeTold q_827 q_829 q_29 q_75 q_830 ⟨Nat.le_of_ble_eq_true rfl, Nat.le_of_ble_eq_true rfl⟩ (Nat.le_of_ble_eq_true rfl) ⟨Nat.le_of_ble_eq_true rfl, Nat.le_of_ble_eq_true rfl⟩ ?_ rfl rfl rfl rfl
            refine r_if_ne (tgt := 79) K dX9_judge_73 (by decide) (fun c56 => ?_) (fun c56 => ?_)
            · replace hf := ite_f hf c56
              refine r_aload_n K 1 dX9_judge_79 rfl ?_
              obtain ⟨b25, e26, hf⟩ := ob1_s hf
              refine r_getR (ci := 9) (k := 0) K dX9_judge_80 inX9 rfl (by decide) rfl q_357 e26 ?_
              refine r_aload_n K 1 dX9_judge_83 rfl ?_
              obtain ⟨b27, e28, hf⟩ := ob1_s hf
              refine r_getR (ci := 9) (k := 15) K dX9_judge_84 inX9 rfl (by decide) rfl q_372 e28 ?_
              refine r_aload_n K 1 dX9_judge_87 rfl ?_
              obtain ⟨b29, e30, hf⟩ := ob1_s hf
              refine r_getR (ci := 9) (k := 16) K dX9_judge_88 inX9 rfl (by decide) rfl q_373 e30 ?_
              obtain ⟨z31, hf⟩ := gd_s hf
              obtain ⟨g32, e33, hf⟩ := ob1_s hf
              refine r_callV (As := [.ref b27, .ref b29]) (rest := []) (st1 := []) (cells1 := 0) (slots1 := 0) (b := b25) (ci := 1) K (fun z => mX1_addUp l z e33) dX9_judge_91 rfl (fun _ => isO_of z31) rfl ceX1_addUp q_831 q_658 q_659 q_76 q_660 ⟨Nat.le_of_ble_eq_true rfl, Nat.le_of_ble_eq_true rfl⟩ (Nat.le_of_ble_eq_true rfl) ⟨Nat.le_of_ble_eq_true rfl, Nat.le_of_ble_eq_true rfl⟩ ?_ rfl rfl rfl rfl
              refine r_aload_n K 1 dX9_judge_94 rfl ?_
              obtain ⟨b34, e35, hf⟩ := ob1_s hf
              refine r_getR (ci := 9) (k := 16) K dX9_judge_95 inX9 rfl (by decide) rfl q_373 e35 ?_
              obtain ⟨v36, e37, hf⟩ := ob1_s hf
              refine r_getI (ci := 6) (k := 1) K dX9_judge_98 inX6 rfl (by decide) rfl q_233 e37 ?_
              refine r_if_eq (tgt := 107) K dX9_judge_101 (by decide) (fun c55 => ?_) (fun c55 => ?_)
              · replace hf := ite_t hf c55
                refine r_aload_n K 1 dX9_judge_107 rfl ?_
                obtain ⟨b38, e39, hf⟩ := ob1_s hf
                refine r_getR (ci := 9) (k := 0) K dX9_judge_108 inX9 rfl (by decide) rfl q_357 e39 ?_
                refine r_aload_n K 1 dX9_judge_111 rfl ?_
                obtain ⟨b40, g41, e42, hf⟩ := ob2_s hf
                refine r_callV (As := []) (rest := [.ref b38]) (st1 := [.ref b40, .ref b38]) (cells1 := 0) (slots1 := 0) (b := a0) (ci := 9) K (fun z => mX9_freshPaths l z e42) dX9_judge_112 rfl (fun z => z _ _ ht) rfl ceX9_freshPaths q_561 q_563 q_9 q_75 q_564 ⟨Nat.le_of_ble_eq_true rfl, Nat.le_of_ble_eq_true rfl⟩ (Nat.le_of_ble_eq_true rfl) ⟨Nat.le_of_ble_eq_true rfl, Nat.le_of_ble_eq_true rfl⟩ ?_ rfl rfl rfl rfl
                obtain ⟨r43, e44, hf⟩ := ob1_s hf
                refine r_callSN (As := [.ref b38, .ref b40]) (rest := []) (st1 := [.int r43]) (cells1 := 0) (slots1 := 0) K (mX5_canAllDrive l e44) dX9_judge_115 ceX5_canAllDrive nw_9 q_617 q_81 q_618 ⟨Nat.le_of_ble_eq_true rfl, Nat.le_of_ble_eq_true rfl⟩ (Nat.le_of_ble_eq_true rfl) ⟨Nat.le_of_ble_eq_true rfl, Nat.le_of_ble_eq_true rfl⟩ ?_ rfl rfl rfl rfl
                refine r_if_ne (tgt := 123) K dX9_judge_118 (by decide) (fun c54 => ?_) (fun c54 => ?_)
                · replace hf := ite_f hf c54
                  refine r_aload_n K 1 dX9_judge_123 rfl ?_
                  obtain ⟨r45, g46, e47, hf⟩ := ob2_s hf
                  refine r_callV (As := []) (rest := []) (st1 := [.long r45]) (cells1 := 0) (slots1 := 0) (b := a0) (ci := 9) K (fun z => mX9_bestOrNo l z e47) dX9_judge_124 rfl (fun z => z _ _ ht) rfl ceX9_bestOrNo q_732 q_734 q_21 q_75 q_735 ⟨Nat.le_of_ble_eq_true rfl, Nat.le_of_ble_eq_true rfl⟩ (Nat.le_of_ble_eq_true rfl) ⟨Nat.le_of_ble_eq_true rfl, Nat.le_of_ble_eq_true rfl⟩ ?_ rfl rfl rfl rfl
                  refine r_lstore (lv1 := [(4, .long r45), (3, .ref b5), (0, .ref a0), (1, .int x1), (2, .int x2)]) K dX9_judge_127 (by decide) rfl ?_
                  refine r_lload K 0 dX9_judge_129 rfl ?_
                  refine r_ldc2 K dX9_judge_131 q_467 ?_
                  refine r_lif_ne (tgt := 141) K dX9_judge_134 dX9_judge_135 (by decide) (fun c53 => ?_) (fun c53 => ?_)
                  · replace hf := ite_f hf c53
                    refine r_aload_n K 2 dX9_judge_141 rfl ?_
                    obtain ⟨b48, e49, hf⟩ := ob1_s hf
                    refine r_getR (ci := 9) (k := 16) K dX9_judge_142 inX9 rfl (by decide) rfl q_373 e49 ?_
                    obtain ⟨v50, e51, hf⟩ := ob1_s hf
                    refine r_getL (ci := 6) (k := 0) K dX9_judge_145 inX6 rfl (by decide) rfl q_230 e51 ?_
                    refine r_lload K 0 dX9_judge_148 rfl ?_
                    refine r_lif_ne (tgt := 158) K dX9_judge_150 dX9_judge_151 (by decide) (fun c52 => ?_) (fun c52 => ?_)
                    · replace hf := ite_f hf c52
                      refine r_iconst (v := (1 : Int32)) K dX9_judge_158 (by decide) ?_
                      exact r_iret K dX9_judge_159 hf (Nat.le_of_ble_eq_true rfl) (Nat.le_of_ble_eq_true rfl)
                    · replace hf := ite_t hf c52
                      refine r_iconst (v := (2 : Int32)) K dX9_judge_154 (by decide) ?_
                      refine r_goto (tgt := 159) K dX9_judge_155 (by decide) ?_
                      exact r_iret K dX9_judge_159 hf (Nat.le_of_ble_eq_true rfl) (Nat.le_of_ble_eq_true rfl)
                  · replace hf := ite_t hf c53
                    refine r_bipush (v := (-6 : Int32)) K dX9_judge_138 (by decide) ?_
                    exact r_iret K dX9_judge_140 hf (Nat.le_of_ble_eq_true rfl) (Nat.le_of_ble_eq_true rfl)
                · replace hf := ite_t hf c54
                  refine r_iconst (v := (1 : Int32)) K dX9_judge_121 (by decide) ?_
                  exact r_iret K dX9_judge_122 hf (Nat.le_of_ble_eq_true rfl) (Nat.le_of_ble_eq_true rfl)
              · replace hf := ite_f hf c55
                refine r_bipush (v := (-6 : Int32)) K dX9_judge_104 (by decide) ?_
                exact r_iret K dX9_judge_106 hf (Nat.le_of_ble_eq_true rfl) (Nat.le_of_ble_eq_true rfl)
            · replace hf := ite_t hf c56
              refine r_bipush (v := (-6 : Int32)) K dX9_judge_76 (by decide) ?_
              exact r_iret K dX9_judge_78 hf (Nat.le_of_ble_eq_true rfl) (Nat.le_of_ble_eq_true rfl)
          · replace hf := ite_t hf c57
            refine r_iconst (v := (0 : Int32)) K dX9_judge_62 (by decide) ?_
            exact r_iret K dX9_judge_63 hf (Nat.le_of_ble_eq_true rfl) (Nat.le_of_ble_eq_true rfl)
        · replace hf := ite_f hf c58
          refine r_bipush (v := (-13 : Int32)) K dX9_judge_47 (by decide) ?_
          exact r_iret K dX9_judge_49 hf (Nat.le_of_ble_eq_true rfl) (Nat.le_of_ble_eq_true rfl)
    · replace hf := ite_f hf c60
      refine r_bipush (v := (-11 : Int32)) K dX9_judge_24 (by decide) ?_
      exact r_iret K dX9_judge_26 hf (Nat.le_of_ble_eq_true rfl) (Nat.le_of_ble_eq_true rfl)
  · replace hf := ite_t hf c61
    refine r_iconst (v := (-1 : Int32)) K dX9_judge_8 (by decide) ?_
    exact r_iret K dX9_judge_9 hf (Nat.le_of_ble_eq_true rfl) (Nat.le_of_ble_eq_true rfl)
