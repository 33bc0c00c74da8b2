theorem ceX9_way : CE yX9_way 3 := ⟨by decide, by decide, by decide +kernel⟩
abbrev rmX9_way : Room := { frames := 4, cells := 0, slots := 0, locals := 90 }
def fX9_way (a0 : Nat) (x1 : Int32) (x2 : Int32) (x3 : Int32) (h : AH) : Option (Int32 × AH) :=
  ob2 (fX9_rowOf a0 x1 x2 h) fun r1 g2 =>
  if r1 < (0 : Int32) then
    some ((-1 : Int32), g2)
  else
    if x3 < (-1 : Int32) then
      some ((-1 : Int32), g2)
    else
      ob1 (gR g2 a0 9 3) fun b4 =>
      ob1 (gR g2 b4 2 4) fun b6 =>
      ob1 (aI g2 b6 0 r1) fun v8 =>
      if x3 < v8 then
        if x3 = (-1 : Int32) then
          ob1 (gR g2 a0 9 3) fun b15 =>
          ob1 (gR g2 b15 2 4) fun b17 =>
          ob1 (aI g2 b17 0 r1) fun v19 =>
          some (v19, g2)
        else
          ob1 (gR g2 a0 9 3) fun b10 =>
          gd (ckO g2 b10 2) <|
          ob1 (fX2_roadAt b10 r1 x3 g2) fun r13 =>
          some (r13, g2)
      else
        some ((-1 : Int32), g2)
set_option maxHeartbeats 4000000 in
set_option maxRecDepth 100000 in
theorem mX9_way (l : Launch) {G : GG} {b0 : Nat} {h : AH} {a0 : Nat} {x1 : Int32} {x2 : Int32} {x3 : Int32} {rr : Int32} {hh : AH} (ht : isO h a0 9) (hf : fX9_way a0 x1 x2 x3 h = some (rr, hh)) : MM l yX9_way cX9_way 5 (some .int) rmX9_way G b0 h [.ref a0, .int x1, .int x2, .int x3] (some (.int rr)) hh := by
  refine MM.of (own := RX9) (lv0 := [(0, .ref a0), (1, .int x1), (2, .int x2), (3, .int x3)]) (by decide) rfl (Nat.le_of_ble_eq_true rfl) rfl ?_
  intro p e s m args below meth c K hnm
  unfold fX9_way at hf
  refine r_aload_n K 0 dX9_way_0 rfl ?_
  refine r_iload_n K 1 dX9_way_1 rfl ?_
  refine r_iload_n K 2 dX9_way_2 rfl ?_
  obtain ⟨r1, g2, e3, hf⟩ := ob2_s hf
  refine r_callV (As := [.int x1, .int x2]) (rest := []) (st1 := [.int r1]) (cells1 := 0) (slots1 := 0) (b := a0) (ci := 9) K (fun z => mX9_rowOf l z e3) dX9_way_3 rfl (fun z => z _ _ ht) rfl ceX9_rowOf q_581 q_583 q_11 q_75 q_584 ⟨Nat.le_of_ble_eq_true rfl, Nat.le_of_ble_eq_true rfl⟩ (Nat.le_of_ble_eq_true rfl) ⟨Nat.le_of_ble_eq_true rfl, Nat.le_of_ble_eq_true rfl⟩ ?_ rfl rfl rfl rfl
  refine r_istore (lv1 := [(4, .int r1), (0, .ref a0), (1, .int x1), (2, .int x2), (3, .int x3)]) K dX9_way_6 (by decide) rfl ?_
  refine r_iload K 0 dX9_way_8 rfl ?_
  refine r_if_lt (tgt := 32) K dX9_way_10 (by decide) (fun c24 => ?_) (fun c24 => ?_)
  · replace hf := ite_t hf c24
    refine r_iconst (v := (-1 : Int32)) K dX9_way_32 (by decide) ?_
    exact r_iret K dX9_way_33 hf (Nat.le_of_ble_eq_true rfl) (Nat.le_of_ble_eq_true rfl)
  · replace hf := ite_f hf c24
    refine r_iload_n K 4 dX9_way_13 rfl ?_
    refine r_iconst (v := (-1 : Int32)) K dX9_way_14 (by decide) ?_
    refine r_icmp_lt (tgt := 32) K dX9_way_15 (by decide) (fun c23 => ?_) (fun c23 => ?_)
    · replace hf := ite_t hf c23
      refine r_iconst (v := (-1 : Int32)) K dX9_way_32 (by decide) ?_
      exact r_iret K dX9_way_33 hf (Nat.le_of_ble_eq_true rfl) (Nat.le_of_ble_eq_true rfl)
    · replace hf := ite_f hf c23
      refine r_iload_n K 4 dX9_way_18 rfl ?_
      refine r_aload_n K 1 dX9_way_19 rfl ?_
      obtain ⟨b4, e5, hf⟩ := ob1_s hf
      refine r_getR (ci := 9) (k := 3) K dX9_way_20 inX9 rfl (by decide) rfl q_360 e5 ?_
      obtain ⟨b6, e7, hf⟩ := ob1_s hf
      refine r_getR (ci := 2) (k := 4) K dX9_way_23 inX2 rfl (by decide) rfl q_195 e7 ?_
      refine r_iload K 0 dX9_way_26 rfl ?_
      obtain ⟨v8, e9, hf⟩ := ob1_s hf
      refine r_iaload K dX9_way_28 e9 ?_
      refine r_icmp_lt (tgt := 34) K dX9_way_29 (by decide) (fun c22 => ?_) (fun c22 => ?_)
      · replace hf := ite_t hf c22
        refine r_iload_n K 4 dX9_way_34 rfl ?_
        refine r_iconst (v := (-1 : Int32)) K dX9_way_35 (by decide) ?_
        refine r_icmp_ne (tgt := 52) K dX9_way_36 (by decide) (fun c21 => ?_) (fun c21 => ?_)
        · replace hf := ite_f hf c21
          refine r_aload_n K 1 dX9_way_52 rfl ?_
          obtain ⟨b10, e11, hf⟩ := ob1_s hf
          refine r_getR (ci := 9) (k := 3) K dX9_way_53 inX9 rfl (by decide) rfl q_360 e11 ?_
          refine r_iload K 0 dX9_way_56 rfl ?_
          refine r_iload_n K 4 dX9_way_58 rfl ?_
          obtain ⟨z12, hf⟩ := gd_s hf
          obtain ⟨r13, e14, hf⟩ := ob1_s hf
          refine r_callV (As := [.int r1, .int x3]) (rest := []) (st1 := [.int r13]) (cells1 := 0) (slots1 := 0) (b := b10) (ci := 2) K (fun z => mX2_roadAt l z e14) dX9_way_59 rfl (fun _ => isO_of z12) rfl ceX2_roadAt q_589 q_590 q_591 q_78 q_592 ⟨Nat.le_of_ble_eq_true rfl, Nat.le_of_ble_eq_true rfl⟩ (Nat.le_of_ble_eq_true rfl) ⟨Nat.le_of_ble_eq_true rfl, Nat.le_of_ble_eq_true rfl⟩ ?_ rfl rfl rfl rfl
          exact r_iret K dX9_way_62 hf (Nat.le_of_ble_eq_true rfl) (Nat.le_of_ble_eq_true rfl)
        · replace hf := ite_t hf c21
          refine r_aload_n K 1 dX9_way_39 rfl ?_
          obtain ⟨b15, e16, hf⟩ := ob1_s hf
          refine r_getR (ci := 9) (k := 3) K dX9_way_40 inX9 rfl (by decide) rfl q_360 e16 ?_
          obtain ⟨b17, e18, hf⟩ := ob1_s hf
          refine r_getR (ci := 2) (k := 4) K dX9_way_43 inX2 rfl (by decide) rfl q_195 e18 ?_
          refine r_iload K 0 dX9_way_46 rfl ?_
          obtain ⟨v19, e20, hf⟩ := ob1_s hf
          refine r_iaload K dX9_way_48 e20 ?_
          refine r_goto (tgt := 62) K dX9_way_49 (by decide) ?_
          exact r_iret K dX9_way_62 hf (Nat.le_of_ble_eq_true rfl) (Nat.le_of_ble_eq_true rfl)
      · replace hf := ite_f hf c22
        refine r_iconst (v := (-1 : Int32)) K dX9_way_32 (by decide) ?_
        exact r_iret K dX9_way_33 hf (Nat.le_of_ble_eq_true rfl) (Nat.le_of_ble_eq_true rfl)
theorem ceX9_steadyOf : CE yX9_steadyOf 1 := ⟨by decide, by decide, by decide +kernel⟩
abbrev rmX9_steadyOf : Room := { frames := 5, cells := 0, slots := 0, locals := 124 }
def fX9_steadyOf (a0 : Nat) (x1 : Int32) (h : AH) : Option (Nat × AH) :=
  ob1 (gR h a0 9 6) fun b1 =>
  ob1 (aI h b1 2 x1) fun v3 =>
  if v3 = (0 : Int32) then
    ob1 (gR h a0 9 5) fun b9 =>
    ob1 (aR h b9 5 x1) fun b11 =>
    ob1 (gR h a0 9 0) fun b13 =>
    ob2 (fX9_freshPaths a0 h) fun b15 g16 =>
    gd (ckO g16 b11 5) <|
    ob1 (fX5_settle b11 b13 b15 x1 g16) fun g19 =>
    ob1 (gR g19 a0 9 6) fun b21 =>
    ob1 (sZ g19 b21 x1 (1 : Int32)) fun g23 =>
    ob1 (gR g23 a0 9 5) fun b25 =>
    ob1 (aR g23 b25 5 x1) fun b27 =>
    some (b27, g23)
  else
    ob1 (gR h a0 9 5) fun b5 =>
    ob1 (aR h b5 5 x1) fun b7 =>
    some (b7, h)
set_option maxHeartbeats 4000000 in
set_option maxRecDepth 100000 in
theorem mX9_steadyOf (l : Launch) {G : GG} {b0 : Nat} {h : AH} {a0 : Nat} {x1 : Int32} {rr : Nat} {hh : AH} (ht : isO h a0 9) (hf : fX9_steadyOf a0 x1 h = some (rr, hh)) : MM l yX9_steadyOf cX9_steadyOf 2 (some (.object "TollWays$Steady")) rmX9_steadyOf G b0 h [.ref a0, .int x1] (some (.ref rr)) hh := by
  refine MM.of (own := RX9) (lv0 := [(0, .ref a0), (1, .int x1)]) (by decide) rfl (Nat.le_of_ble_eq_true rfl) rfl ?_
  intro p e s m args below meth c K hnm
  unfold fX9_steadyOf at hf
  refine r_aload_n K 0 dX9_steadyOf_0 rfl ?_
  obtain ⟨b1, e2, hf⟩ := ob1_s hf
  refine r_getR (ci := 9) (k := 6) K dX9_steadyOf_1 inX9 rfl (by decide) rfl q_363 e2 ?_
  refine r_iload_n K 1 dX9_steadyOf_4 rfl ?_
  obtain ⟨v3, e4, hf⟩ := ob1_s hf
  refine r_zaload K dX9_steadyOf_5 e4 ?_
  refine r_if_ne (tgt := 34) K dX9_steadyOf_6 (by decide) (fun c29 => ?_) (fun c29 => ?_)
  · replace hf := ite_f hf c29
    refine r_aload_n K 0 dX9_steadyOf_34 rfl ?_
    obtain ⟨b5, e6, hf⟩ := ob1_s hf
    refine r_getR (ci := 9) (k := 5) K dX9_steadyOf_35 inX9 rfl (by decide) rfl q_362 e6 ?_
    refine r_iload_n K 1 dX9_steadyOf_38 rfl ?_
    obtain ⟨b7, e8, hf⟩ := ob1_s hf
    refine r_aaload (kd := 5) (ty := .object RX5) K dX9_steadyOf_39 rfl rfl e8 ?_
    exact r_aret K dX9_steadyOf_40 hf (Nat.le_of_ble_eq_true rfl) (Nat.le_of_ble_eq_true rfl)
  · replace hf := ite_t hf c29
    refine r_aload_n K 0 dX9_steadyOf_9 rfl ?_
    obtain ⟨b9, e10, hf⟩ := ob1_s hf
    refine r_getR (ci := 9) (k := 5) K dX9_steadyOf_10 inX9 rfl (by decide) rfl q_362 e10 ?_
    refine r_iload_n K 1 dX9_steadyOf_13 rfl ?_
    obtain ⟨b11, e12, hf⟩ := ob1_s hf
    refine r_aaload (kd := 5) (ty := .object RX5) K dX9_steadyOf_14 rfl rfl e12 ?_
    refine r_aload_n K 0 dX9_steadyOf_15 rfl ?_
    obtain ⟨b13, e14, hf⟩ := ob1_s hf
    refine r_getR (ci := 9) (k := 0) K dX9_steadyOf_16 inX9 rfl (by decide) rfl q_357 e14 ?_
    refine r_aload_n K 0 dX9_steadyOf_19 rfl ?_
    obtain ⟨b15, g16, e17, hf⟩ := ob2_s hf
    refine r_callV (As := []) (rest := [.ref b13, .ref b11]) (st1 := [.ref b15, .ref b13, .ref b11]) (cells1 := 0) (slots1 := 0) (b := a0) (ci := 9) K (fun z => mX9_freshPaths l z e17) dX9_steadyOf_20 rfl (fun z => z _ _ ht) rfl ceX9_freshPaths q_561 q_563 q_9 q_75 q_564 ⟨Nat.le_of_ble_eq_true rfl, Nat.le_of_ble_eq_true rfl⟩ (Nat.le_of_ble_eq_true rfl) ⟨Nat.le_of_ble_eq_true rfl, Nat.le_of_ble_eq_true rfl⟩ ?_ rfl rfl rfl rfl
    refine r_iload_n K 1 dX9_steadyOf_23 rfl ?_
    obtain ⟨z18, hf⟩ := gd_s hf
    obtain ⟨g19, e20, hf⟩ := ob1_s hf
    refine r_callV (As := [.ref b13, .ref b15, .int x1]) (rest := []) (st1 := []) (cells1 := 0) (slots1 := 0) (b := b11) (ci := 5) K (fun z => mX5_settle l z e20) dX9_steadyOf_24 rfl (fun _ => isO_of z18) rfl ceX5_settle q_601 q_602 q_603 q_81 q_604 ⟨Nat.le_of_ble_eq_true rfl, Nat.le_of_ble_eq_true rfl⟩ (Nat.le_of_ble_eq_true rfl) ⟨Nat.le_of_ble_eq_true rfl, Nat.le_of_ble_eq_true rfl⟩ ?_ rfl rfl rfl rfl
    refine r_aload_n K 0 dX9_steadyOf_27 rfl ?_
    obtain ⟨b21, e22, hf⟩ := ob1_s hf
    refine r_getR (ci := 9) (k := 6) K dX9_steadyOf_28 inX9 rfl (by decide) rfl q_363 e22 ?_
    refine r_iload_n K 1 dX9_steadyOf_31 rfl ?_
    refine r_iconst (v := (1 : Int32)) K dX9_steadyOf_32 (by decide) ?_
    obtain ⟨g23, e24, hf⟩ := ob1_s hf
    refine r_zastore K dX9_steadyOf_33 e24 ?_
    refine r_aload_n K 0 dX9_steadyOf_34 rfl ?_
    obtain ⟨b25, e26, hf⟩ := ob1_s hf
    refine r_getR (ci := 9) (k := 5) K dX9_steadyOf_35 inX9 rfl (by decide) rfl q_362 e26 ?_
    refine r_iload_n K 1 dX9_steadyOf_38 rfl ?_
    obtain ⟨b27, e28, hf⟩ := ob1_s hf
    refine r_aaload (kd := 5) (ty := .object RX5) K dX9_steadyOf_39 rfl rfl e28 ?_
    exact r_aret K dX9_steadyOf_40 hf (Nat.le_of_ble_eq_true rfl) (Nat.le_of_ble_eq_true rfl)
theorem ceX9_is : CE yX9_is 1 := ⟨by decide, by decide, by decide +kernel⟩
abbrev rmX9_is : Room := { frames := 6, cells := 0, slots := 0, locals := 145 }
def fX9_is (a0 : Nat) (x1 : Int32) (h : AH) : Option (Int32 × AH) :=
  ob1 (fX9_isOneOf x1 (3 : Int32)) fun r1 =>
  if r1 = (0 : Int32) then
    some ((-1 : Int32), h)
  else
    ob2 (fX9_steadyOf a0 x1 h) fun b3 g4 =>
    ob1 (gI g4 b3 5 3) fun v6 =>
    if v6 = (0 : Int32) then
      some ((-3 : Int32), g4)
    else
      ob1 (gR g4 b3 5 2) fun b8 =>
      ob1 (gI g4 b8 6 1) fun v10 =>
      if v10 = (0 : Int32) then
        some ((1 : Int32), g4)
      else
        some ((-6 : Int32), g4)
set_option maxHeartbeats 4000000 in
set_option maxRecDepth 100000 in
theorem mX9_is (l : Launch) {G : GG} {b0 : Nat} {h : AH} {a0 : Nat} {x1 : Int32} {rr : Int32} {hh : AH} (ht : isO h a0 9) (hf : fX9_is a0 x1 h = some (rr, hh)) : MM l yX9_is cX9_is 3 (some .int) rmX9_is G b0 h [.ref a0, .int x1] (some (.int rr)) hh := by
  refine MM.of (own := RX9) (lv0 := [(0, .ref a0), (1, .int x1)]) (by decide) rfl (Nat.le_of_ble_eq_true rfl) rfl ?_
  intro p e s m args below meth c K hnm
  unfold fX9_is at hf
  refine r_iload_n K 1 dX9_is_0 rfl ?_
  refine r_iconst (v := (3 : Int32)) K dX9_is_1 (by decide) ?_
  obtain ⟨r1, e2, hf⟩ := ob1_s hf
  refine r_callS (As := [.int x1, .int (3 : Int32)]) (rest := []) (st1 := [.int r1]) (cells1 := 0) (slots1 := 0) K (mX9_isOneOf l e2) dX9_is_2 ceX9_isOneOf q_431 q_426 q_75 q_427 ⟨Nat.le_of_ble_eq_true rfl, Nat.le_of_ble_eq_true rfl⟩ (Nat.le_of_ble_eq_true rfl) ⟨Nat.le_of_ble_eq_true rfl, Nat.le_of_ble_eq_true rfl⟩ ?_ rfl rfl rfl rfl
  refine r_if_ne (tgt := 10) K dX9_is_5 (by decide) (fun c14 => ?_) (fun c14 => ?_)
  · replace hf := ite_f hf c14
    refine r_aload_n K 0 dX9_is_10 rfl ?_
    refine r_iload_n K 1 dX9_is_11 rfl ?_
    obtain ⟨b3, g4, e5, hf⟩ := ob2_s hf
    refine r_callV (As := [.int x1]) (rest := []) (st1 := [.ref b3]) (cells1 := 0) (slots1 := 0) (b := a0) (ci := 9) K (fun z => mX9_steadyOf l z e5) dX9_is_12 rfl (fun z => z _ _ ht) rfl ceX9_steadyOf q_597 q_599 q_12 q_75 q_600 ⟨Nat.le_of_ble_eq_true rfl, Nat.le_of_ble_eq_true rfl⟩ (Nat.le_of_ble_eq_true rfl) ⟨Nat.le_of_ble_eq_true rfl, Nat.le_of_ble_eq_true rfl⟩ ?_ rfl rfl rfl rfl
    refine r_astore_n (lv1 := [(2, .ref b3), (0, .ref a0), (1, .int x1)]) K dX9_is_15 (by decide) rfl ?_
    refine r_aload_n K 0 dX9_is_16 rfl ?_
    obtain ⟨v6, e7, hf⟩ := ob1_s hf
    refine r_getI (ci := 5) (k := 3) K dX9_is_17 inX5 rfl (by decide) rfl q_275 e7 ?_
    refine r_if_ne (tgt := 26) K dX9_is_20 (by decide) (fun c13 => ?_) (fun c13 => ?_)
    · replace hf := ite_f hf c13
      refine r_aload_n K 0 dX9_is_26 rfl ?_
      obtain ⟨b8, e9, hf⟩ := ob1_s hf
      refine r_getR (ci := 5) (k := 2) K dX9_is_27 inX5 rfl (by decide) rfl q_273 e9 ?_
      obtain ⟨v10, e11, hf⟩ := ob1_s hf
      refine r_getI (ci := 6) (k := 1) K dX9_is_30 inX6 rfl (by decide) rfl q_233 e11 ?_
      refine r_if_eq (tgt := 41) K dX9_is_33 (by decide) (fun c12 => ?_) (fun c12 => ?_)
      · replace hf := ite_t hf c12
        refine r_iconst (v := (1 : Int32)) K dX9_is_41 (by decide) ?_
        exact r_iret K dX9_is_42 hf (Nat.le_of_ble_eq_true rfl) (Nat.le_of_ble_eq_true rfl)
      · replace hf := ite_f hf c12
        refine r_bipush (v := (-6 : Int32)) K dX9_is_36 (by decide) ?_
        refine r_goto (tgt := 42) K dX9_is_38 (by decide) ?_
        exact r_iret K dX9_is_42 hf (Nat.le_of_ble_eq_true rfl) (Nat.le_of_ble_eq_true rfl)
    · replace hf := ite_t hf c13
      refine r_bipush (v := (-3 : Int32)) K dX9_is_23 (by decide) ?_
      exact r_iret K dX9_is_25 hf (Nat.le_of_ble_eq_true rfl) (Nat.le_of_ble_eq_true rfl)
  · replace hf := ite_t hf c14
    refine r_iconst (v := (-1 : Int32)) K dX9_is_8 (by decide) ?_
    exact r_iret K dX9_is_9 hf (Nat.le_of_ble_eq_true rfl) (Nat.le_of_ble_eq_true rfl)
theorem ceX9_load : CE yX9_load 2 := ⟨by decide, by decide, by decide +kernel⟩
abbrev rmX9_load : Room := { frames := 6, cells := 0, slots := 0, locals := 145 }
def fX9_load (a0 : Nat) (x1 : Int32) (x2 : Int32) (h : AH) : Option (Int32 × AH) :=
  ob1 (fX9_isOneOf x1 (3 : Int32)) fun r1 =>
  if r1 = (0 : Int32) then
    some ((-1 : Int32), h)
  else
    ob1 (gR h a0 9 0) fun b3 =>
    gd (ckO h b3 1) <|
    ob1 (fX1_hasRoad b3 x2 h) fun r6 =>
    if r6 = (0 : Int32) then
      some ((-1 : Int32), h)
    else
      ob2 (fX9_steadyOf a0 x1 h) fun b8 g9 =>
      ob1 (gI g9 b8 5 3) fun v11 =>
      if v11 = (0 : Int32) then
        some ((-3 : Int32), g9)
      else
        ob1 (gR g9 b8 5 0) fun b13 =>
        ob1 (aI g9 b13 0 x2) fun v15 =>
        some (v15, g9)
set_option maxHeartbeats 4000000 in
set_option maxRecDepth 100000 in
theorem mX9_load (l : Launch) {G : GG} {b0 : Nat} {h : AH} {a0 : Nat} {x1 : Int32} {x2 : Int32} {rr : Int32} {hh : AH} (ht : isO h a0 9) (hf : fX9_load a0 x1 x2 h = some (rr, hh)) : MM l yX9_load cX9_load 4 (some .int) rmX9_load G b0 h [.ref a0, .int x1, .int x2] (some (.int rr)) hh := by
  refine MM.of (own := RX9) (lv0 := [(0, .ref a0), (1, .int x1), (2, .int x2)]) (by decide) rfl (Nat.le_of_ble_eq_true rfl) rfl ?_
  intro p e s m args below meth c K hnm
  unfold fX9_load at hf
  refine r_iload_n K 1 dX9_load_0 rfl ?_
  refine r_iconst (v := (3 : Int32)) K dX9_load_1 (by decide) ?_
  obtain ⟨r1, e2, hf⟩ := ob1_s hf
  refine r_callS (As := [.int x1, .int (3 : Int32)]) (rest := []) (st1 := [.int r1]) (cells1 := 0) (slots1 := 0) K (mX9_isOneOf l e2) dX9_load_2 ceX9_isOneOf q_431 q_426 q_75 q_427 ⟨Nat.le_of_ble_eq_true rfl, Nat.le_of_ble_eq_true rfl⟩ (Nat.le_of_ble_eq_true rfl) ⟨Nat.le_of_ble_eq_true rfl, Nat.le_of_ble_eq_true rfl⟩ ?_ rfl rfl rfl rfl
  refine r_if_eq (tgt := 19) K dX9_load_5 (by decide) (fun c19 => ?_) (fun c19 => ?_)
  · replace hf := ite_t hf c19
    refine r_iconst (v := (-1 : Int32)) K dX9_load_19 (by decide) ?_
    exact r_iret K dX9_load_20 hf (Nat.le_of_ble_eq_true rfl) (Nat.le_of_ble_eq_true rfl)
  · replace hf := ite_f hf c19
    refine r_aload_n K 0 dX9_load_8 rfl ?_
    obtain ⟨b3, e4, hf⟩ := ob1_s hf
    refine r_getR (ci := 9) (k := 0) K dX9_load_9 inX9 rfl (by decide) rfl q_357 e4 ?_
    refine r_iload_n K 2 dX9_load_12 rfl ?_
    obtain ⟨z5, hf⟩ := gd_s hf
    obtain ⟨r6, e7, hf⟩ := ob1_s hf
    refine r_callV (As := [.int x2]) (rest := []) (st1 := [.int r6]) (cells1 := 0) (slots1 := 0) (b := b3) (ci := 1) K (fun z => mX1_hasRoad l z e7) dX9_load_13 rfl (fun _ => isO_of z5) rfl ceX1_hasRoad q_448 q_449 q_450 q_76 q_451 ⟨Nat.le_of_ble_eq_true rfl, Nat.le_of_ble_eq_true rfl⟩ (Nat.le_of_ble_eq_true rfl) ⟨Nat.le_of_ble_eq_true rfl, Nat.le_of_ble_eq_true rfl⟩ ?_ rfl rfl rfl rfl
    refine r_if_ne (tgt := 21) K dX9_load_16 (by decide) (fun c18 => ?_) (fun c18 => ?_)
    · replace hf := ite_f hf c18
      refine r_aload_n K 0 dX9_load_21 rfl ?_
      refine r_iload_n K 1 dX9_load_22 rfl ?_
      obtain ⟨b8, g9, e10, hf⟩ := ob2_s hf
      refine r_callV (As := [.int x1]) (rest := []) (st1 := [.ref b8]) (cells1 := 0) (slots1 := 0) (b := a0) (ci := 9) K (fun z => mX9_steadyOf l z e10) dX9_load_23 rfl (fun z => z _ _ ht) rfl ceX9_steadyOf q_597 q_599 q_12 q_75 q_600 ⟨Nat.le_of_ble_eq_true rfl, Nat.le_of_ble_eq_true rfl⟩ (Nat.le_of_ble_eq_true rfl) ⟨Nat.le_of_ble_eq_true rfl, Nat.le_of_ble_eq_true rfl⟩ ?_ rfl rfl rfl rfl
      refine r_astore_n (lv1 := [(3, .ref b8), (0, .ref a0), (1, .int x1), (2, .int x2)]) K dX9_load_26 (by decide) rfl ?_
      refine r_aload_n K 0 dX9_load_27 rfl ?_
      obtain ⟨v11, e12, hf⟩ := ob1_s hf
      refine r_getI (ci := 5) (k := 3) K dX9_load_28 inX5 rfl (by decide) rfl q_275 e12 ?_
      refine r_if_eq (tgt := 43) K dX9_load_31 (by decide) (fun c17 => ?_) (fun c17 => ?_)
      · replace hf := ite_t hf c17
        refine r_bipush (v := (-3 : Int32)) K dX9_load_43 (by decide) ?_
        exact r_iret K dX9_load_45 hf (Nat.le_of_ble_eq_true rfl) (Nat.le_of_ble_eq_true rfl)
      · replace hf := ite_f hf c17
        refine r_aload_n K 0 dX9_load_34 rfl ?_
        obtain ⟨b13, e14, hf⟩ := ob1_s hf
        refine r_getR (ci := 5) (k := 0) K dX9_load_35 inX5 rfl (by decide) rfl q_269 e14 ?_
        refine r_iload_n K 3 dX9_load_38 rfl ?_
        obtain ⟨v15, e16, hf⟩ := ob1_s hf
        refine r_iaload K dX9_load_39 e16 ?_
        refine r_goto (tgt := 45) K dX9_load_40 (by decide) ?_
        exact r_iret K dX9_load_45 hf (Nat.le_of_ble_eq_true rfl) (Nat.le_of_ble_eq_true rfl)
    · replace hf := ite_t hf c18
      refine r_iconst (v := (-1 : Int32)) K dX9_load_19 (by decide) ?_
      exact r_iret K dX9_load_20 hf (Nat.le_of_ble_eq_true rfl) (Nat.le_of_ble_eq_true rfl)
theorem ceX9_on : CE yX9_on 3 := ⟨by decide, by decide, by decide +kernel⟩
abbrev rmX9_on : Room := { frames := 6, cells := 0, slots := 0, locals := 145 }
def fX9_on (a0 : Nat) (x1 : Int32) (x2 : Int32) (x3 : Int32) (h : AH) : Option (Int32 × AH) :=
  ob2 (fX9_rowOf a0 x2 x3 h) fun r1 g2 =>
  ob1 (fX9_isOneOf x1 (3 : Int32)) fun r4 =>
  if r4 = (0 : Int32) then
    some ((-1 : Int32), g2)
  else
    if (0 : Int32) ≤ r1 then
      ob2 (fX9_steadyOf a0 x1 g2) fun b6 g7 =>
      ob1 (gI g7 b6 5 3) fun v9 =>
      if v9 = (0 : Int32) then
        some ((-3 : Int32), g7)
      else
        ob1 (gR g7 b6 5 1) fun b11 =>
        ob1 (aR g7 b11 3 x2) fun b13 =>
        ob1 (aI g7 b13 0 r1) fun v15 =>
        some (v15, g7)
    else
      some ((-1 : Int32), g2)
set_option maxHeartbeats 4000000 in
set_option maxRecDepth 100000 in
theorem mX9_on (l : Launch) {G : GG} {b0 : Nat} {h : AH} {a0 : Nat} {x1 : Int32} {x2 : Int32} {x3 : Int32} {rr : Int32} {hh : AH} (ht : isO h a0 9) (hf : fX9_on a0 x1 x2 x3 h = some (rr, hh)) : MM l yX9_on cX9_on 6 (some .int) rmX9_on G b0 h [.ref a0, .int x1, .int x2, .int x3] (some (.int rr)) hh := by
  refine MM.of (own := RX9) (lv0 := [(0, .ref a0), (1, .int x1), (2, .int x2), (3, .int x3)]) (by decide) rfl (Nat.le_of_ble_eq_true rfl) rfl ?_
  intro p e s m args below meth c K hnm
  unfold fX9_on at hf
  refine r_aload_n K 0 dX9_on_0 rfl ?_
  refine r_iload_n K 2 dX9_on_1 rfl ?_
  refine r_iload_n K 3 dX9_on_2 rfl ?_
  obtain ⟨r1, g2, e3, hf⟩ := ob2_s hf
  refine r_callV (As := [.int x2, .int x3]) (rest := []) (st1 := [.int r1]) (cells1 := 0) (slots1 := 0) (b := a0) (ci := 9) K (fun z => mX9_rowOf l z e3) dX9_on_3 rfl (fun z => z _ _ ht) rfl ceX9_rowOf q_581 q_583 q_11 q_75 q_584 ⟨Nat.le_of_ble_eq_true rfl, Nat.le_of_ble_eq_true rfl⟩ (Nat.le_of_ble_eq_true rfl) ⟨Nat.le_of_ble_eq_true rfl, Nat.le_of_ble_eq_true rfl⟩ ?_ rfl rfl rfl rfl
  refine r_istore (lv1 := [(4, .int r1), (0, .ref a0), (1, .int x1), (2, .int x2), (3, .int x3)]) K dX9_on_6 (by decide) rfl ?_
  refine r_iload_n K 2 dX9_on_8 rfl ?_
  refine r_iconst (v := (3 : Int32)) K dX9_on_9 (by decide) ?_
  obtain ⟨r4, e5, hf⟩ := ob1_s hf
  refine r_callS (As := [.int x1, .int (3 : Int32)]) (rest := []) (st1 := [.int r4]) (cells1 := 0) (slots1 := 0) K (mX9_isOneOf l e5) dX9_on_10 ceX9_isOneOf q_431 q_426 q_75 q_427 ⟨Nat.le_of_ble_eq_true rfl, Nat.le_of_ble_eq_true rfl⟩ (Nat.le_of_ble_eq_true rfl) ⟨Nat.le_of_ble_eq_true rfl, Nat.le_of_ble_eq_true rfl⟩ ?_ rfl rfl rfl rfl
  refine r_if_eq (tgt := 21) K dX9_on_13 (by decide) (fun c19 => ?_) (fun c19 => ?_)
  · replace hf := ite_t hf c19
    refine r_iconst (v := (-1 : Int32)) K dX9_on_21 (by decide) ?_
    exact r_iret K dX9_on_22 hf (Nat.le_of_ble_eq_true rfl) (Nat.le_of_ble_eq_true rfl)
  · replace hf := ite_f hf c19
    refine r_iload K 0 dX9_on_16 rfl ?_
    refine r_if_ge (tgt := 23) K dX9_on_18 (by decide) (fun c18 => ?_) (fun c18 => ?_)
    · replace hf := ite_t hf c18
      refine r_aload_n K 1 dX9_on_23 rfl ?_
      refine r_iload_n K 2 dX9_on_24 rfl ?_
      obtain ⟨b6, g7, e8, hf⟩ := ob2_s hf
      refine r_callV (As := [.int x1]) (rest := []) (st1 := [.ref b6]) (cells1 := 0) (slots1 := 0) (b := a0) (ci := 9) K (fun z => mX9_steadyOf l z e8) dX9_on_25 rfl (fun z => z _ _ ht) rfl ceX9_steadyOf q_597 q_599 q_12 q_75 q_600 ⟨Nat.le_of_ble_eq_true rfl, Nat.le_of_ble_eq_true rfl⟩ (Nat.le_of_ble_eq_true rfl) ⟨Nat.le_of_ble_eq_true rfl, Nat.le_of_ble_eq_true rfl⟩ ?_ rfl rfl rfl rfl
      refine r_astore (lv1 := [(5, .ref b6), (4, .int r1), (0, .ref a0), (1, .int x1), (2, .int x2), (3, .int x3)]) K dX9_on_28 (by decide) rfl ?_
      refine r_aload K 0 dX9_on_30 rfl ?_
      obtain ⟨v9, e10, hf⟩ := ob1_s hf
      refine r_getI (ci := 5) (k := 3) K dX9_on_32 inX5 rfl (by decide) rfl q_275 e10 ?_
      refine r_if_eq (tgt := 51) K dX9_on_35 (by decide) (fun c17 => ?_) (fun c17 => ?_)
      · replace hf := ite_t hf c17
        refine r_bipush (v := (-3 : Int32)) K dX9_on_51 (by decide) ?_
        exact r_iret K dX9_on_53 hf (Nat.le_of_ble_eq_true rfl) (Nat.le_of_ble_eq_true rfl)
      · replace hf := ite_f hf c17
        refine r_aload K 0 dX9_on_38 rfl ?_
        obtain ⟨b11, e12, hf⟩ := ob1_s hf
        refine r_getR (ci := 5) (k := 1) K dX9_on_40 inX5 rfl (by decide) rfl q_271 e12 ?_
        refine r_iload_n K 4 dX9_on_43 rfl ?_
        obtain ⟨b13, e14, hf⟩ := ob1_s hf
        refine r_aaload (kd := 3) (ty := .array .int) K dX9_on_44 rfl rfl e14 ?_
        refine r_iload K 1 dX9_on_45 rfl ?_
        obtain ⟨v15, e16, hf⟩ := ob1_s hf
        refine r_iaload K dX9_on_47 e16 ?_
        refine r_goto (tgt := 53) K dX9_on_48 (by decide) ?_
        exact r_iret K dX9_on_53 hf (Nat.le_of_ble_eq_true rfl) (Nat.le_of_ble_eq_true rfl)
    · replace hf := ite_f hf c18
      refine r_iconst (v := (-1 : Int32)) K dX9_on_21 (by decide) ?_
      exact r_iret K dX9_on_22 hf (Nat.le_of_ble_eq_true rfl) (Nat.le_of_ble_eq_true rfl)
theorem ceX9_steps : CE yX9_steps 1 := ⟨by decide, by decide, by decide +kernel⟩
abbrev rmX9_steps : Room := { frames := 6, cells := 0, slots := 0, locals := 145 }
def fX9_steps (a0 : Nat) (x1 : Int32) (h : AH) : Option (Int32 × AH) :=
  ob1 (fX9_isOneOf x1 (3 : Int32)) fun r1 =>
  if r1 = (0 : Int32) then
    some ((-1 : Int32), h)
  else
    ob2 (fX9_steadyOf a0 x1 h) fun b3 g4 =>
    ob1 (gI g4 b3 5 3) fun v6 =>
    if v6 = (0 : Int32) then
      some ((-3 : Int32), g4)
    else
      ob1 (gI g4 b3 5 4) fun v8 =>
      some (v8, g4)
set_option maxHeartbeats 4000000 in
set_option maxRecDepth 100000 in
theorem mX9_steps (l : Launch) {G : GG} {b0 : Nat} {h : AH} {a0 : Nat} {x1 : Int32} {rr : Int32} {hh : AH} (ht : isO h a0 9) (hf : fX9_steps a0 x1 h = some (rr, hh)) : MM l yX9_steps cX9_steps 3 (some .int) rmX9_steps G b0 h [.ref a0, .int x1] (some (.int rr)) hh := by
  refine MM.of (own := RX9) (lv0 := [(0, .ref a0), (1, .int x1)]) (by decide) rfl (Nat.le_of_ble_eq_true rfl) rfl ?_
  intro p e s m args below meth c K hnm
  unfold fX9_steps at hf
  refine r_iload_n K 1 dX9_steps_0 rfl ?_
  refine r_iconst (v := (3 : Int32)) K dX9_steps_1 (by decide) ?_
  obtain ⟨r1, e2, hf⟩ := ob1_s hf
  refine r_callS (As := [.int x1, .int (3 : Int32)]) (rest := []) (st1 := [.int r1]) (cells1 := 0) (slots1 := 0) K (mX9_isOneOf l e2) dX9_steps_2 ceX9_isOneOf q_431 q_426 q_75 q_427 ⟨Nat.le_of_ble_eq_true rfl, Nat.le_of_ble_eq_true rfl⟩ (Nat.le_of_ble_eq_true rfl) ⟨Nat.le_of_ble_eq_true rfl, Nat.le_of_ble_eq_true rfl⟩ ?_ rfl rfl rfl rfl
  refine r_if_ne (tgt := 10) K dX9_steps_5 (by decide) (fun c11 => ?_) (fun c11 => ?_)
  · replace hf := ite_f hf c11
    refine r_aload_n K 0 dX9_steps_10 rfl ?_
    refine r_iload_n K 1 dX9_steps_11 rfl ?_
    obtain ⟨b3, g4, e5, hf⟩ := ob2_s hf
    refine r_callV (As := [.int x1]) (rest := []) (st1 := [.ref b3]) (cells1 := 0) (slots1 := 0) (b := a0) (ci := 9) K (fun z => mX9_steadyOf l z e5) dX9_steps_12 rfl (fun z => z _ _ ht) rfl ceX9_steadyOf q_597 q_599 q_12 q_75 q_600 ⟨Nat.le_of_ble_eq_true rfl, Nat.le_of_ble_eq_true rfl⟩ (Nat.le_of_ble_eq_true rfl) ⟨Nat.le_of_ble_eq_true rfl, Nat.le_of_ble_eq_true rfl⟩ ?_ rfl rfl rfl rfl
    refine r_astore_n (lv1 := [(2, .ref b3), (0, .ref a0), (1, .int x1)]) K dX9_steps_15 (by decide) rfl ?_
    refine r_aload_n K 0 dX9_steps_16 rfl ?_
    obtain ⟨v6, e7, hf⟩ := ob1_s hf
    refine r_getI (ci := 5) (k := 3) K dX9_steps_17 inX5 rfl (by decide) rfl q_275 e7 ?_
    refine r_if_eq (tgt := 30) K dX9_steps_20 (by decide) (fun c10 => ?_) (fun c10 => ?_)
    · replace hf := ite_t hf c10
      refine r_bipush (v := (-3 : Int32)) K dX9_steps_30 (by decide) ?_
      exact r_iret K dX9_steps_32 hf (Nat.le_of_ble_eq_true rfl) (Nat.le_of_ble_eq_true rfl)
    · replace hf := ite_f hf c10
      refine r_aload_n K 0 dX9_steps_23 rfl ?_
      obtain ⟨v8, e9, hf⟩ := ob1_s hf
      refine r_getI (ci := 5) (k := 4) K dX9_steps_24 inX5 rfl (by decide) rfl q_277 e9 ?_
      refine r_goto (tgt := 32) K dX9_steps_27 (by decide) ?_
      exact r_iret K dX9_steps_32 hf (Nat.le_of_ble_eq_true rfl) (Nat.le_of_ble_eq_true rfl)
  · replace hf := ite_t hf c11
    refine r_iconst (v := (-1 : Int32)) K dX9_steps_8 (by decide) ?_
    exact r_iret K dX9_steps_9 hf (Nat.le_of_ble_eq_true rfl) (Nat.le_of_ble_eq_true rfl)
theorem ceX9_total : CE yX9_total 1 := ⟨by decide, by decide, by decide +kernel⟩
abbrev rmX9_total : Room := { frames := 6, cells := 0, slots := 0, locals := 145 }
def fX9_total (a0 : Nat) (x1 : Int32) (h : AH) : Option (Int64 × AH) :=
  ob1 (fX9_isOneOf x1 (3 : Int32)) fun r1 =>
  if r1 = (0 : Int32) then
    some ((-9223372036854775808 : Int64), h)
  else
    ob2 (fX9_steadyOf a0 x1 h) fun b3 g4 =>
    gd (ckO g4 b3 5) <|
    ob1 (fX5_totalOrNo b3 g4) fun r7 =>
    some (r7, g4)
set_option maxHeartbeats 4000000 in
set_option maxRecDepth 100000 in
theorem mX9_total (l : Launch) {G : GG} {b0 : Nat} {h : AH} {a0 : Nat} {x1 : Int32} {rr : Int64} {hh : AH} (ht : isO h a0 9) (hf : fX9_total a0 x1 h = some (rr, hh)) : MM l yX9_total cX9_total 2 (some .long) rmX9_total G b0 h [.ref a0, .int x1] (some (.long rr)) hh := by
  refine MM.of (own := RX9) (lv0 := [(0, .ref a0), (1, .int x1)]) (by decide) rfl (Nat.le_of_ble_eq_true rfl) rfl ?_
  intro p e s m args below meth c K hnm
  unfold fX9_total at hf
  refine r_iload_n K 1 dX9_total_0 rfl ?_
  refine r_iconst (v := (3 : Int32)) K dX9_total_1 (by decide) ?_
  obtain ⟨r1, e2, hf⟩ := ob1_s hf
  refine r_callS (As := [.int x1, .int (3 : Int32)]) (rest := []) (st1 := [.int r1]) (cells1 := 0) (slots1 := 0) K (mX9_isOneOf l e2) dX9_total_2 ceX9_isOneOf q_431 q_426 q_75 q_427 ⟨Nat.le_of_ble_eq_true rfl, Nat.le_of_ble_eq_true rfl⟩ (Nat.le_of_ble_eq_true rfl) ⟨Nat.le_of_ble_eq_true rfl, Nat.le_of_ble_eq_true rfl⟩ ?_ rfl rfl rfl rfl
  refine r_if_eq (tgt := 19) K dX9_total_5 (by decide) (fun c9 => ?_) (fun c9 => ?_)
  · replace hf := ite_t hf c9
    refine r_ldc2 K dX9_total_19 q_467 ?_
    exact r_lret K dX9_total_22 hf (Nat.le_of_ble_eq_true rfl) (Nat.le_of_ble_eq_true rfl)
  · replace hf := ite_f hf c9
    refine r_aload_n K 0 dX9_total_8 rfl ?_
    refine r_iload_n K 1 dX9_total_9 rfl ?_
    obtain ⟨b3, g4, e5, hf⟩ := ob2_s hf
    refine r_callV (As := [.int x1]) (rest := []) (st1 := [.ref b3]) (cells1 := 0) (slots1 := 0) (b := a0) (ci := 9) K (fun z => mX9_steadyOf l z e5) dX9_total_10 rfl (fun z => z _ _ ht) rfl ceX9_steadyOf q_597 q_599 q_12 q_75 q_600 ⟨Nat.le_of_ble_eq_true rfl, Nat.le_of_ble_eq_true rfl⟩ (Nat.le_of_ble_eq_true rfl) ⟨Nat.le_of_ble_eq_true rfl, Nat.le_of_ble_eq_true rfl⟩ ?_ rfl rfl rfl rfl
    obtain ⟨z6, hf⟩ := gd_s hf
    obtain ⟨r7, e8, hf⟩ := ob1_s hf
    refine r_callV (As := []) (rest := []) (st1 := [.long r7]) (cells1 := 0) (slots1 := 0) (b := b3) (ci := 5) K (fun z => mX5_totalOrNo l z e8) dX9_total_13 rfl (fun _ => isO_of z6) rfl ceX5_totalOrNo q_683 q_684 q_685 q_81 q_686 ⟨Nat.le_of_ble_eq_true rfl, Nat.le_of_ble_eq_true rfl⟩ (Nat.le_of_ble_eq_true rfl) ⟨Nat.le_of_ble_eq_true rfl, Nat.le_of_ble_eq_true rfl⟩ ?_ rfl rfl rfl rfl
    refine r_goto (tgt := 22) K dX9_total_16 (by decide) ?_
    exact r_lret K dX9_total_22 hf (Nat.le_of_ble_eq_true rfl) (Nat.le_of_ble_eq_true rfl)
theorem ceX9_fare : CE yX9_fare 4 := ⟨by decide, by decide, by decide +kernel⟩
abbrev rmX9_fare : Room := { frames := 2, cells := 0, slots := 0, locals := 51 }
def fX9_fare_L17 (a0 : Nat) (x1 : Int32) (x2 : Int32) (x3 : Int32) (x4 : Int32) (a5 : Nat) (h : AH) (k : Int64 → Option Int64) : Nat → Int64 → Int32 → Option Int64
  | 0, _, _ => none
  | n + 1, x6, x8 =>
    ob1 (gR h a0 9 0) fun b7 =>
    ob1 (gI h b7 1 1) fun v9 =>
    if v9 ≤ x8 then
      k x6
    else
      ob1 (gR h a0 9 3) fun b11 =>
      gd (ckO h b11 2) <|
      ob1 (fX2_uses b11 x3 x8 h) fun r14 =>
      if r14 = (0 : Int32) then
        bnd (x8 + (1 : Int32)) fun y16 =>
        fX9_fare_L17 a0 x1 x2 x3 x4 a5 h k n x6 y16
      else
        ob1 (gR h a0 9 0) fun b17 =>
        ob1 (aI h a5 0 x8) fun v19 =>
        ob1 (fJ9_max_7cf53 (1 : Int32) (v19 + x4)) fun r21 =>
        gd (ckO h b17 1) <|
        ob1 (fX1_priceAt b17 x1 x2 x8 r21 h) fun r24 =>
        bnd (x6 + r24) fun y26 =>
        bnd (x8 + (1 : Int32)) fun y27 =>
        fX9_fare_L17 a0 x1 x2 x3 x4 a5 h k n y26 y27
def fX9_fare (a0 : Nat) (x1 : Int32) (x2 : Int32) (x3 : Int32) (x4 : Int32) (h : AH) : Option Int64 :=
  ob1 (gR h a0 9 5) fun b1 =>
  ob1 (aR h b1 5 x1) fun b3 =>
  ob1 (gR h b3 5 0) fun b5 =>
  fX9_fare_L17 a0 x1 x2 x3 x4 b5 h (fun (y30 : Int64) =>
    some y30
  ) lf (0 : Int64) (0 : Int32)
set_option maxHeartbeats 4000000 in
set_option maxRecDepth 100000 in
theorem wX9_fare_L17 {p : Program} {l : Launch} {e : Env} {s : State} {m : MethodId} {args : Array Value} {below : List Frame} {meth : Method} {c : Code} {G : GG} {b0 : Nat} {h0 : AH} {a0 : Nat} {x1 : Int32} {x2 : Int32} {x3 : Int32} {x4 : Int32} {a5 : Nat} {h : AH} {rr : Int64} (K : CX p s m args meth c cX9_fare 9 RX9 (some .long) G b0) (ht : isO h0 a0 9) (k : Int64 → Option Int64) (hk : ∀ (x6 : Int64), k x6 = some rr → WA p l e rmX9_fare s m args below meth c (MQ below (QG G b0 h0 (some (.long rr)) h) args s (rmX9_fare).cells (rmX9_fare).slots (AB b0)) G b0 9 h0 0 0 h 76 [(6, .long x6)] []) : ∀ (n : Nat) (x6 : Int64) (x8 : Int32), fX9_fare_L17 a0 x1 x2 x3 x4 a5 h k n x6 x8 = some rr → WA p l e rmX9_fare s m args below meth c (MQ below (QG G b0 h0 (some (.long rr)) h) args s (rmX9_fare).cells (rmX9_fare).slots (AB b0)) G b0 9 h0 0 0 h 17 [(0, .ref a0), (1, .int x1), (2, .int x2), (3, .int x3), (4, .int x4), (5, .ref a5), (6, .long x6), (8, .int x8)] [] := by
  intro n
  induction n with
  | zero =>
    intro x6 x8 hf
    rw [fX9_fare_L17] at hf
    cases hf
  | succ n ih =>
    intro x6 x8 hf
    rw [fX9_fare_L17] at hf
    refine r_iload K 7 dX9_fare_17 rfl ?_
    refine r_aload_n K 0 dX9_fare_19 rfl ?_
    obtain ⟨b7, e8, hf⟩ := ob1_s hf
    refine r_getR (ci := 9) (k := 0) K dX9_fare_20 inX9 rfl (by decide) rfl q_357 e8 ?_
    obtain ⟨v9, e10, hf⟩ := ob1_s hf
    refine r_getI (ci := 1) (k := 1) K dX9_fare_23 inX1 rfl (by decide) rfl q_154 e10 ?_
    refine r_icmp_ge (tgt := 76) K dX9_fare_26 (by decide) (fun c29 => ?_) (fun c29 => ?_)
    · replace hf := ite_t hf c29
      refine r_lv [6] rfl ?_
      exact hk x6 hf
    · replace hf := ite_f hf c29
      refine r_aload_n K 0 dX9_fare_29 rfl ?_
      obtain ⟨b11, e12, hf⟩ := ob1_s hf
      refine r_getR (ci := 9) (k := 3) K dX9_fare_30 inX9 rfl (by decide) rfl q_360 e12 ?_
      refine r_iload_n K 3 dX9_fare_33 rfl ?_
      refine r_iload K 7 dX9_fare_34 rfl ?_
      obtain ⟨z13, hf⟩ := gd_s hf
      obtain ⟨r14, e15, hf⟩ := ob1_s hf
      refine r_callV (As := [.int x3, .int x8]) (rest := []) (st1 := [.int r14]) (cells1 := 0) (slots1 := 0) (b := b11) (ci := 2) K (fun z => mX2_uses l z e15) dX9_fare_36 rfl (fun _ => isO_of z13) rfl ceX2_uses q_696 q_646 q_647 q_78 q_648 ⟨Nat.le_of_ble_eq_true rfl, Nat.le_of_ble_eq_true rfl⟩ (Nat.le_of_ble_eq_true rfl) ⟨Nat.le_of_ble_eq_true rfl, Nat.le_of_ble_eq_true rfl⟩ ?_ rfl rfl rfl rfl
      refine r_if_eq (tgt := 70) K dX9_fare_39 (by decide) (fun c28 => ?_) (fun c28 => ?_)
      · replace hf := ite_t hf c28
        obtain ⟨y16, ey16, hf⟩ := bnd_g hf
        refine r_iinc (lv1 := [(8, .int y16), (0, .ref a0), (1, .int x1), (2, .int x2), (3, .int x3), (4, .int x4), (5, .ref a5), (6, .long x6)]) K 7 dX9_fare_70 rfl (by rw [ey16]; rfl) (by decide) rfl ?_
        refine r_goto (tgt := 17) K dX9_fare_73 (by decide) ?_
        refine r_lv [1, 2, 3, 4, 5, 6, 7, 0] rfl ?_
        exact ih x6 y16 hf
      · replace hf := ite_f hf c28
        refine r_lload K 6 dX9_fare_42 rfl ?_
        refine r_aload_n K 0 dX9_fare_44 rfl ?_
        obtain ⟨b17, e18, hf⟩ := ob1_s hf
        refine r_getR (ci := 9) (k := 0) K dX9_fare_45 inX9 rfl (by decide) rfl q_357 e18 ?_
        refine r_iload_n K 1 dX9_fare_48 rfl ?_
        refine r_iload_n K 2 dX9_fare_49 rfl ?_
        refine r_iload K 7 dX9_fare_50 rfl ?_
        refine r_iconst (v := (1 : Int32)) K dX9_fare_52 (by decide) ?_
        refine r_aload K 5 dX9_fare_53 rfl ?_
        refine r_iload K 7 dX9_fare_55 rfl ?_
        obtain ⟨v19, e20, hf⟩ := ob1_s hf
        refine r_iaload K dX9_fare_57 e20 ?_
        refine r_iload K 4 dX9_fare_58 rfl ?_
        refine r_iadd K dX9_fare_60 ?_
        obtain ⟨r21, e22, hf⟩ := ob1_s hf
        refine r_callS (As := [.int (1 : Int32), .int (v19 + x4)]) (rest := [.int x8, .int x2, .int x1, .ref b17, .long x6]) (st1 := [.int r21, .int x8, .int x2, .int x1, .ref b17, .long x6]) (cells1 := 0) (slots1 := 0) K (mJ9_max_7cf53 l e22) dX9_fare_61 ceJ9_max_7cf53 q_697 q_629 q_88 q_630 ⟨Nat.le_of_ble_eq_true rfl, Nat.le_of_ble_eq_true rfl⟩ (Nat.le_of_ble_eq_true rfl) ⟨Nat.le_of_ble_eq_true rfl, Nat.le_of_ble_eq_true rfl⟩ ?_ rfl rfl rfl rfl
        obtain ⟨z23, hf⟩ := gd_s hf
        obtain ⟨r24, e25, hf⟩ := ob1_s hf
        refine r_callV (As := [.int x1, .int x2, .int x8, .int r21]) (rest := [.long x6]) (st1 := [.long r24, .long x6]) (cells1 := 0) (slots1 := 0) (b := b17) (ci := 1) K (fun z => mX1_priceAt l z e25) dX9_fare_64 rfl (fun _ => isO_of z23) rfl ceX1_priceAt q_698 q_632 q_633 q_76 q_634 ⟨Nat.le_of_ble_eq_true rfl, Nat.le_of_ble_eq_true rfl⟩ (Nat.le_of_ble_eq_true rfl) ⟨Nat.le_of_ble_eq_true rfl, Nat.le_of_ble_eq_true rfl⟩ ?_ rfl rfl rfl rfl
        refine r_ladd K dX9_fare_67 ?_
        obtain ⟨y26, ey26, hf⟩ := bnd_g hf
        refine r_nml ey26 ?_
        refine r_lstore (lv1 := [(6, .long y26), (0, .ref a0), (1, .int x1), (2, .int x2), (3, .int x3), (4, .int x4), (5, .ref a5), (8, .int x8)]) K dX9_fare_68 (by decide) rfl ?_
        obtain ⟨y27, ey27, hf⟩ := bnd_g hf
        refine r_iinc (lv1 := [(8, .int y27), (6, .long y26), (0, .ref a0), (1, .int x1), (2, .int x2), (3, .int x3), (4, .int x4), (5, .ref a5)]) K 7 dX9_fare_70 rfl (by rw [ey27]; rfl) (by decide) rfl ?_
        refine r_goto (tgt := 17) K dX9_fare_73 (by decide) ?_
        refine r_lv [2, 3, 4, 5, 6, 7, 1, 0] rfl ?_
        exact ih y26 y27 hf
set_option maxHeartbeats 4000000 in
set_option maxRecDepth 100000 in
theorem mX9_fare (l : Launch) {G : GG} {b0 : Nat} {h : AH} {a0 : Nat} {x1 : Int32} {x2 : Int32} {x3 : Int32} {x4 : Int32} {rr : Int64} (ht : isO h a0 9) (hf : fX9_fare a0 x1 x2 x3 x4 h = some rr) : MM l yX9_fare cX9_fare 9 (some .long) rmX9_fare G b0 h [.ref a0, .int x1, .int x2, .int x3, .int x4] (some (.long rr)) h := by
  refine MM.of (own := RX9) (lv0 := [(0, .ref a0), (1, .int x1), (2, .int x2), (3, .int x3), (4, .int x4)]) (by decide) rfl (Nat.le_of_ble_eq_true rfl) rfl ?_
  intro p e s m args below meth c K hnm
  unfold fX9_fare at hf
  refine r_aload_n K 0 dX9_fare_0 rfl ?_
  obtain ⟨b1, e2, hf⟩ := ob1_s hf
  refine r_getR (ci := 9) (k := 5) K dX9_fare_1 inX9 rfl (by decide) rfl q_362 e2 ?_
  refine r_iload_n K 1 dX9_fare_4 rfl ?_
  obtain ⟨b3, e4, hf⟩ := ob1_s hf
  refine r_aaload (kd := 5) (ty := .object RX5) K dX9_fare_5 rfl rfl e4 ?_
  obtain ⟨b5, e6, hf⟩ := ob1_s hf
  refine r_getR (ci := 5) (k := 0) K dX9_fare_6 inX5 rfl (by decide) rfl q_269 e6 ?_
  refine r_astore (lv1 := [(5, .ref b5), (0, .ref a0), (1, .int x1), (2, .int x2), (3, .int x3), (4, .int x4)]) K dX9_fare_9 (by decide) rfl ?_
  refine r_lconst (v := (0 : Int64)) K dX9_fare_11 (by decide) ?_
  refine r_lstore (lv1 := [(6, .long (0 : Int64)), (5, .ref b5), (0, .ref a0), (1, .int x1), (2, .int x2), (3, .int x3), (4, .int x4)]) K dX9_fare_12 (by decide) rfl ?_
  refine r_iconst (v := (0 : Int32)) K dX9_fare_14 (by decide) ?_
  refine r_istore (lv1 := [(8, .int (0 : Int32)), (6, .long (0 : Int64)), (5, .ref b5), (0, .ref a0), (1, .int x1), (2, .int x2), (3, .int x3), (4, .int x4)]) K dX9_fare_15 (by decide) rfl ?_
  refine r_lv [3, 4, 5, 6, 7, 2, 1, 0] rfl ?_
  refine wX9_fare_L17 K ht _ (fun y30 hf => ?_) lf (0 : Int64) (0 : Int32) hf
  refine r_lload K 0 dX9_fare_76 rfl ?_
  exact r_lret K dX9_fare_78 (retp hf) (Nat.le_of_ble_eq_true rfl) (Nat.le_of_ble_eq_true rfl)
theorem ceX9_price : CE yX9_price 4 := ⟨by decide, by decide, by decide +kernel⟩
abbrev rmX9_price : Room := { frames := 6, cells := 0, slots := 0, locals := 145 }
def fX9_price (a0 : Nat) (x1 : Int32) (x2 : Int32) (x3 : Int32) (x4 : Int32) (h : AH) : Option (Int64 × AH) :=
  ob2 (fX9_rowOf a0 x2 x3 h) fun r1 g2 =>
  ob1 (fX9_isOneOf x1 (3 : Int32)) fun r4 =>
  if r4 = (0 : Int32) then
    some ((-9223372036854775808 : Int64), g2)
  else
    if r1 < (0 : Int32) then
      some ((-9223372036854775808 : Int64), g2)
    else
      ob1 (fX9_isOneOf x4 (2 : Int32)) fun r6 =>
      if r6 = (0 : Int32) then
        some ((-9223372036854775808 : Int64), g2)
      else
        ob2 (fX9_steadyOf a0 x1 g2) fun b8 g9 =>
        ob1 (gI g9 b8 5 3) fun v11 =>
        if v11 = (0 : Int32) then
          some ((-9223372036854775808 : Int64), g9)
        else
          ob1 (fX9_fare a0 x1 x2 r1 x4 g9) fun r13 =>
          some (r13, g9)
set_option maxHeartbeats 4000000 in
set_option maxRecDepth 100000 in
theorem mX9_price (l : Launch) {G : GG} {b0 : Nat} {h : AH} {a0 : Nat} {x1 : Int32} {x2 : Int32} {x3 : Int32} {x4 : Int32} {rr : Int64} {hh : AH} (ht : isO h a0 9) (hf : fX9_price a0 x1 x2 x3 x4 h = some (rr, hh)) : MM l yX9_price cX9_price 6 (some .long) rmX9_price G b0 h [.ref a0, .int x1, .int x2, .int x3, .int x4] (some (.long rr)) hh := by
  refine MM.of (own := RX9) (lv0 := [(0, .ref a0), (1, .int x1), (2, .int x2), (3, .int x3), (4, .int x4)]) (by decide) rfl (Nat.le_of_ble_eq_true rfl) rfl ?_
  intro p e s m args below meth c K hnm
  unfold fX9_price at hf
  refine r_aload_n K 0 dX9_price_0 rfl ?_
  refine r_iload_n K 2 dX9_price_1 rfl ?_
  refine r_iload_n K 3 dX9_price_2 rfl ?_
  obtain ⟨r1, g2, e3, hf⟩ := ob2_s hf
  refine r_callV (As := [.int x2, .int x3]) (rest := []) (st1 := [.int r1]) (cells1 := 0) (slots1 := 0) (b := a0) (ci := 9) K (fun z => mX9_rowOf l z e3) dX9_price_3 rfl (fun z => z _ _ ht) rfl ceX9_rowOf q_581 q_583 q_11 q_75 q_584 ⟨Nat.le_of_ble_eq_true rfl, Nat.le_of_ble_eq_true rfl⟩ (Nat.le_of_ble_eq_true rfl) ⟨Nat.le_of_ble_eq_true rfl, Nat.le_of_ble_eq_true rfl⟩ ?_ rfl rfl rfl rfl
  refine r_istore (lv1 := [(5, .int r1), (0, .ref a0), (1, .int x1), (2, .int x2), (3, .int x3), (4, .int x4)]) K dX9_price_6 (by decide) rfl ?_
  refine r_iload_n K 2 dX9_price_8 rfl ?_
  refine r_iconst (v := (3 : Int32)) K dX9_price_9 (by decide) ?_
  obtain ⟨r4, e5, hf⟩ := ob1_s hf
  refine r_callS (As := [.int x1, .int (3 : Int32)]) (rest := []) (st1 := [.int r4]) (cells1 := 0) (slots1 := 0) K (mX9_isOneOf l e5) dX9_price_10 ceX9_isOneOf q_431 q_426 q_75 q_427 ⟨Nat.le_of_ble_eq_true rfl, Nat.le_of_ble_eq_true rfl⟩ (Nat.le_of_ble_eq_true rfl) ⟨Nat.le_of_ble_eq_true rfl, Nat.le_of_ble_eq_true rfl⟩ ?_ rfl rfl rfl rfl
  refine r_if_eq (tgt := 30) K dX9_price_13 (by decide) (fun c18 => ?_) (fun c18 => ?_)
  · replace hf := ite_t hf c18
    refine r_ldc2 K dX9_price_30 q_467 ?_
    exact r_lret K dX9_price_33 hf (Nat.le_of_ble_eq_true rfl) (Nat.le_of_ble_eq_true rfl)
  · replace hf := ite_f hf c18
    refine r_iload K 0 dX9_price_16 rfl ?_
    refine r_if_lt (tgt := 30) K dX9_price_18 (by decide) (fun c17 => ?_) (fun c17 => ?_)
    · replace hf := ite_t hf c17
      refine r_ldc2 K dX9_price_30 q_467 ?_
      exact r_lret K dX9_price_33 hf (Nat.le_of_ble_eq_true rfl) (Nat.le_of_ble_eq_true rfl)
    · replace hf := ite_f hf c17
      refine r_iload K 5 dX9_price_21 rfl ?_
      refine r_iconst (v := (2 : Int32)) K dX9_price_23 (by decide) ?_
      obtain ⟨r6, e7, hf⟩ := ob1_s hf
      refine r_callS (As := [.int x4, .int (2 : Int32)]) (rest := []) (st1 := [.int r6]) (cells1 := 0) (slots1 := 0) K (mX9_isOneOf l e7) dX9_price_24 ceX9_isOneOf q_431 q_426 q_75 q_427 ⟨Nat.le_of_ble_eq_true rfl, Nat.le_of_ble_eq_true rfl⟩ (Nat.le_of_ble_eq_true rfl) ⟨Nat.le_of_ble_eq_true rfl, Nat.le_of_ble_eq_true rfl⟩ ?_ rfl rfl rfl rfl
      refine r_if_ne (tgt := 34) K dX9_price_27 (by decide) (fun c16 => ?_) (fun c16 => ?_)
      · replace hf := ite_f hf c16
        refine r_aload_n K 1 dX9_price_34 rfl ?_
        refine r_iload_n K 2 dX9_price_35 rfl ?_
        obtain ⟨b8, g9, e10, hf⟩ := ob2_s hf
        refine r_callV (As := [.int x1]) (rest := []) (st1 := [.ref b8]) (cells1 := 0) (slots1 := 0) (b := a0) (ci := 9) K (fun z => mX9_steadyOf l z e10) dX9_price_36 rfl (fun z => z _ _ ht) rfl ceX9_steadyOf q_597 q_599 q_12 q_75 q_600 ⟨Nat.le_of_ble_eq_true rfl, Nat.le_of_ble_eq_true rfl⟩ (Nat.le_of_ble_eq_true rfl) ⟨Nat.le_of_ble_eq_true rfl, Nat.le_of_ble_eq_true rfl⟩ ?_ rfl rfl rfl rfl
        obtain ⟨v11, e12, hf⟩ := ob1_s hf
        refine r_getI (ci := 5) (k := 3) K dX9_price_39 inX5 rfl (by decide) rfl q_275 e12 ?_
        refine r_if_eq (tgt := 58) K dX9_price_42 (by decide) (fun c15 => ?_) (fun c15 => ?_)
        · replace hf := ite_t hf c15
          refine r_ldc2 K dX9_price_58 q_467 ?_
          exact r_lret K dX9_price_61 hf (Nat.le_of_ble_eq_true rfl) (Nat.le_of_ble_eq_true rfl)
        · replace hf := ite_f hf c15
          refine r_aload_n K 1 dX9_price_45 rfl ?_
          refine r_iload_n K 2 dX9_price_46 rfl ?_
          refine r_iload_n K 3 dX9_price_47 rfl ?_
          refine r_iload K 0 dX9_price_48 rfl ?_
          refine r_iload K 5 dX9_price_50 rfl ?_
          obtain ⟨r13, e14, hf⟩ := ob1_s hf
          refine r_callV (As := [.int x1, .int x2, .int r1, .int x4]) (rest := []) (st1 := [.long r13]) (cells1 := 0) (slots1 := 0) (b := a0) (ci := 9) K (fun z => mX9_fare l z e14) dX9_price_52 rfl (fun z => z _ _ ht) rfl ceX9_fare q_692 q_694 q_20 q_75 q_695 ⟨Nat.le_of_ble_eq_true rfl, Nat.le_of_ble_eq_true rfl⟩ (Nat.le_of_ble_eq_true rfl) ⟨Nat.le_of_ble_eq_true rfl, Nat.le_of_ble_eq_true rfl⟩ ?_ rfl rfl rfl rfl
          refine r_goto (tgt := 61) K dX9_price_55 (by decide) ?_
          exact r_lret K dX9_price_61 hf (Nat.le_of_ble_eq_true rfl) (Nat.le_of_ble_eq_true rfl)
      · replace hf := ite_t hf c16
        refine r_ldc2 K dX9_price_30 q_467 ?_
        exact r_lret K dX9_price_33 hf (Nat.le_of_ble_eq_true rfl) (Nat.le_of_ble_eq_true rfl)
theorem ceX9_fractionPart : CE yX9_fractionPart 3 := ⟨by decide, by decide, by decide +kernel⟩
abbrev rmX9_fractionPart : Room := { frames := 0, cells := 0, slots := 0, locals := 0 }
def fX9_fractionPart_L9 (x0 : Int64) (x2 : Int64) (x4 : Int32) (k : Int64 → Option Int64) : Nat → Int64 → Int64 → Int32 → Option Int64
  | 0, _, _, _ => none
  | n + 1, x5, x7, x9 =>
    if (128 : Int32) ≤ x9 then
      k x5
    else
      if x7 = (0 : Int64) then
        k x5
      else
        gd (decide (¬ x7 = 0)) <|
        bnd (x5 - x5 / x7 * x7) fun y2 =>
        bnd (x9 + (1 : Int32)) fun y3 =>
        fX9_fractionPart_L9 x0 x2 x4 k n x7 y2 y3
def fX9_fractionPart (x0 : Int64) (x2 : Int64) (x4 : Int32) : Option Int64 :=
  fX9_fractionPart_L9 x0 x2 x4 (fun (y6 : Int64) =>
    if y6 = (0 : Int64) then
      some (Int32.toInt64 x4)
    else
      if x4 = (0 : Int32) then
        gd (decide (¬ y6 = 0)) <|
        some (x0 / y6)
      else
        gd (decide (¬ y6 = 0)) <|
        some (x2 / y6)
  ) lf x0 x2 (0 : Int32)
set_option maxHeartbeats 4000000 in
set_option maxRecDepth 100000 in
theorem wX9_fractionPart_L9 {p : Program} {l : Launch} {e : Env} {s : State} {m : MethodId} {args : Array Value} {below : List Frame} {meth : Method} {c : Code} {G : GG} {b0 : Nat} {h0 : AH} {x0 : Int64} {x2 : Int64} {x4 : Int32} {h : AH} {rr : Int64} (K : CX p s m args meth c cX9_fractionPart 12 RX9 (some .long) G b0) (k : Int64 → Option Int64) (hk : ∀ (x5 : Int64), k x5 = some rr → WA p l e rmX9_fractionPart s m args below meth c (MQ below (QG G b0 h0 (some (.long rr)) h) args s (rmX9_fractionPart).cells (rmX9_fractionPart).slots (AB b0)) G b0 12 h0 0 0 h 45 [(0, .long x0), (2, .long x2), (4, .int x4), (5, .long x5)] []) : ∀ (n : Nat) (x5 : Int64) (x7 : Int64) (x9 : Int32), fX9_fractionPart_L9 x0 x2 x4 k n x5 x7 x9 = some rr → WA p l e rmX9_fractionPart s m args below meth c (MQ below (QG G b0 h0 (some (.long rr)) h) args s (rmX9_fractionPart).cells (rmX9_fractionPart).slots (AB b0)) G b0 12 h0 0 0 h 9 [(0, .long x0), (2, .long x2), (4, .int x4), (5, .long x5), (7, .long x7), (9, .int x9)] [] := by
  intro n
  induction n with
  | zero =>
    intro x5 x7 x9 hf
    rw [fX9_fractionPart_L9] at hf
    cases hf
  | succ n ih =>
    intro x5 x7 x9 hf
    rw [fX9_fractionPart_L9] at hf
    refine r_iload K 5 dX9_fractionPart_9 rfl ?_
    refine r_sipush (v := (128 : Int32)) K dX9_fractionPart_11 (by decide) ?_
    refine r_icmp_ge (tgt := 45) K dX9_fractionPart_14 (by decide) (fun c5 => ?_) (fun c5 => ?_)
    · replace hf := ite_t hf c5
      refine r_lv [0, 1, 2, 3] rfl ?_
      exact hk x5 hf
    · replace hf := ite_f hf c5
      refine r_lload K 4 dX9_fractionPart_17 rfl ?_
      refine r_lconst (v := (0 : Int64)) K dX9_fractionPart_19 (by decide) ?_
      refine r_lif_eq (tgt := 45) K dX9_fractionPart_20 dX9_fractionPart_21 (by decide) (fun c4 => ?_) (fun c4 => ?_)
      · replace hf := ite_t hf c4
        refine r_lv [0, 1, 2, 3] rfl ?_
        exact hk x5 hf
      · replace hf := ite_f hf c4
        refine r_lload K 3 dX9_fractionPart_24 rfl ?_
        refine r_lload K 4 dX9_fractionPart_26 rfl ?_
        obtain ⟨z1, hf⟩ := gd_s hf
        refine r_lrem K dX9_fractionPart_28 (of_decide_eq_true z1) ?_
        obtain ⟨y2, ey2, hf⟩ := bnd_g hf
        refine r_nml ey2 ?_
        refine r_lstore (lv1 := [(10, .long y2), (0, .long x0), (2, .long x2), (4, .int x4), (5, .long x5), (7, .long x7), (9, .int x9)]) K dX9_fractionPart_29 (by decide) rfl ?_
        refine r_lload K 5 dX9_fractionPart_31 rfl ?_
        refine r_lstore (lv1 := [(5, .long x7), (10, .long y2), (0, .long x0), (2, .long x2), (4, .int x4), (7, .long x7), (9, .int x9)]) K dX9_fractionPart_33 (by decide) rfl ?_
        refine r_lload K 1 dX9_fractionPart_35 rfl ?_
        refine r_lstore (lv1 := [(7, .long y2), (5, .long x7), (10, .long y2), (0, .long x0), (2, .long x2), (4, .int x4), (9, .int x9)]) K dX9_fractionPart_37 (by decide) rfl ?_
        obtain ⟨y3, ey3, hf⟩ := bnd_g hf
        refine r_iinc (lv1 := [(9, .int y3), (7, .long y2), (5, .long x7), (10, .long y2), (0, .long x0), (2, .long x2), (4, .int x4)]) K 6 dX9_fractionPart_39 rfl (by rw [ey3]; rfl) (by decide) rfl ?_
        refine r_goto (tgt := 9) K dX9_fractionPart_42 (by decide) ?_
        refine r_lv [4, 5, 6, 2, 1, 0] rfl ?_
        exact ih x7 y2 y3 hf
set_option maxHeartbeats 4000000 in
set_option maxRecDepth 100000 in
theorem mX9_fractionPart (l : Launch) {G : GG} {b0 : Nat} {h : AH} {x0 : Int64} {x2 : Int64} {x4 : Int32} {rr : Int64} (hf : fX9_fractionPart x0 x2 x4 = some rr) : MM l yX9_fractionPart cX9_fractionPart 12 (some .long) rmX9_fractionPart G b0 h [.long x0, .long x2, .int x4] (some (.long rr)) h := by
  refine MM.of (own := RX9) (lv0 := [(0, .long x0), (2, .long x2), (4, .int x4)]) (by decide) rfl (Nat.le_of_ble_eq_true rfl) rfl ?_
  intro p e s m args below meth c K hnm
  unfold fX9_fractionPart at hf
  refine r_lload_n K 0 dX9_fractionPart_0 rfl ?_
  refine r_lstore (lv1 := [(5, .long x0), (0, .long x0), (2, .long x2), (4, .int x4)]) K dX9_fractionPart_1 (by decide) rfl ?_
  refine r_lload_n K 2 dX9_fractionPart_3 rfl ?_
  refine r_lstore (lv1 := [(7, .long x2), (5, .long x0), (0, .long x0), (2, .long x2), (4, .int x4)]) K dX9_fractionPart_4 (by decide) rfl ?_
  refine r_iconst (v := (0 : Int32)) K dX9_fractionPart_6 (by decide) ?_
  refine r_istore (lv1 := [(9, .int (0 : Int32)), (7, .long x2), (5, .long x0), (0, .long x0), (2, .long x2), (4, .int x4)]) K dX9_fractionPart_7 (by decide) rfl ?_
  refine r_lv [3, 4, 5, 2, 1, 0] rfl ?_
  refine wX9_fractionPart_L9 K _ (fun y6 hf => ?_) lf x0 x2 (0 : Int32) hf
  refine r_lload K 3 dX9_fractionPart_45 rfl ?_
  refine r_lconst (v := (0 : Int64)) K dX9_fractionPart_47 (by decide) ?_
  refine r_lif_ne (tgt := 56) K dX9_fractionPart_48 dX9_fractionPart_49 (by decide) (fun c10 => ?_) (fun c10 => ?_)
  · replace hf := ite_f hf c10
    refine r_iload K 2 dX9_fractionPart_56 rfl ?_
    refine r_if_ne (tgt := 68) K dX9_fractionPart_58 (by decide) (fun c9 => ?_) (fun c9 => ?_)
    · replace hf := ite_f hf c9
      refine r_lload_n K 1 dX9_fractionPart_68 rfl ?_
      refine r_lload K 3 dX9_fractionPart_69 rfl ?_
      obtain ⟨z7, hf⟩ := gd_s hf
      refine r_ldiv K dX9_fractionPart_71 (of_decide_eq_true z7) ?_
      exact r_lret K dX9_fractionPart_72 (retp hf) (Nat.le_of_ble_eq_true rfl) (Nat.le_of_ble_eq_true rfl)
    · replace hf := ite_t hf c9
      refine r_lload_n K 0 dX9_fractionPart_61 rfl ?_
      refine r_lload K 3 dX9_fractionPart_62 rfl ?_
      obtain ⟨z8, hf⟩ := gd_s hf
      refine r_ldiv K dX9_fractionPart_64 (of_decide_eq_true z8) ?_
      refine r_goto (tgt := 72) K dX9_fractionPart_65 (by decide) ?_
      exact r_lret K dX9_fractionPart_72 (retp hf) (Nat.le_of_ble_eq_true rfl) (Nat.le_of_ble_eq_true rfl)
  · replace hf := ite_t hf c10
    refine r_iload K 2 dX9_fractionPart_52 rfl ?_
    refine r_i2l K dX9_fractionPart_54 ?_
    exact r_lret K dX9_fractionPart_55 (retp hf) (Nat.le_of_ble_eq_true rfl) (Nat.le_of_ble_eq_true rfl)
theorem ceX9_mean : CE yX9_mean 3 := ⟨by decide, by decide, by decide +kernel⟩
abbrev rmX9_mean : Room := { frames := 6, cells := 0, slots := 0, locals := 145 }
def fX9_mean_L75 (a0 : Nat) (x1 : Int32) (x2 : Int32) (x3 : Int32) (x4 : Int32) (a5 : Nat) (k : AH → Option (Int64 × AH)) : Nat → Int32 → AH → Option (Int64 × AH)
  | 0, _, _ => none
  | n + 1, x6, h =>
    ob1 (gR h a0 9 3) fun b25 =>
    ob1 (gI h b25 2 0) fun v27 =>
    if v27 ≤ x6 then
      k h
    else
      ob1 (gR h a5 5 1) fun b29 =>
      ob1 (aR h b29 3 x2) fun b31 =>
      ob1 (aI h b31 0 x6) fun v33 =>
      if v33 ≤ (0 : Int32) then
        bnd (x6 + (1 : Int32)) fun y35 =>
        fX9_mean_L75 a0 x1 x2 x3 x4 a5 k n y35 h
      else
        ob1 (gR h a0 9 16) fun b36 =>
        ob1 (gR h a5 5 1) fun b38 =>
        ob1 (aR h b38 3 x2) fun b40 =>
        ob1 (aI h b40 0 x6) fun v42 =>
        ob1 (fX9_fare a0 x1 x2 x6 (0 : Int32) h) fun r44 =>
        gd (ckO h b36 6) <|
        ob1 (fX6_add b36 (Int32.toInt64 v42) r44 h) fun g47 =>
        bnd (x6 + (1 : Int32)) fun y49 =>
        fX9_mean_L75 a0 x1 x2 x3 x4 a5 k n y49 g47
def fX9_mean (a0 : Nat) (x1 : Int32) (x2 : Int32) (x3 : Int32) (h : AH) : Option (Int64 × AH) :=
  ob1 (fX9_isOneOf x1 (3 : Int32)) fun r1 =>
  if r1 = (0 : Int32) then
    some ((-9223372036854775808 : Int64), h)
  else
    ob1 (fX9_isOneOf x2 (3 : Int32)) fun r3 =>
    if r3 = (0 : Int32) then
      some ((-9223372036854775808 : Int64), h)
    else
      ob1 (fX9_isOneOf x3 (2 : Int32)) fun r5 =>
      if r5 = (0 : Int32) then
        some ((-9223372036854775808 : Int64), h)
      else
        ob1 (gR h a0 9 0) fun b7 =>
        ob1 (gR h b7 1 4) fun b9 =>
        ob1 (aR h b9 3 x2) fun b11 =>
        ob1 (aI h b11 0 (1 : Int32)) fun v13 =>
        ob2 (fX9_steadyOf a0 x1 h) fun b15 g16 =>
        if v13 = (0 : Int32) then
          some ((-9223372036854775808 : Int64), g16)
        else
          ob1 (gI g16 b15 5 3) fun v18 =>
          if v18 = (0 : Int32) then
            some ((-9223372036854775808 : Int64), g16)
          else
            ob1 (gR g16 a0 9 16) fun b20 =>
            gd (ckO g16 b20 6) <|
            ob1 (fX6_reset b20 g16) fun g23 =>
            fX9_mean_L75 a0 x1 x2 x3 v13 b15 (fun (g52 : AH) =>
              ob1 (gR g52 a0 9 16) fun b53 =>
              ob1 (gI g52 b53 6 1) fun v55 =>
              if v55 = (0 : Int32) then
                ob1 (gR g52 a0 9 16) fun b57 =>
                ob1 (gL g52 b57 6 0) fun v59 =>
                ob1 (fX9_fractionPart v59 (Int32.toInt64 v13) x3) fun r61 =>
                some (r61, g52)
              else
                some ((-9223372036854775808 : Int64), g52)
            ) lf (1 : Int32) g23
set_option maxHeartbeats 4000000 in
set_option maxRecDepth 100000 in
theorem wX9_mean_L75 {p : Program} {l : Launch} {e : Env} {s : State} {m : MethodId} {args : Array Value} {below : List Frame} {meth : Method} {c : Code} {G : GG} {b0 : Nat} {h0 : AH} {a0 : Nat} {x1 : Int32} {x2 : Int32} {x3 : Int32} {x4 : Int32} {a5 : Nat} {rr : Int64} {hh : AH} (K : CX p s m args meth c cX9_mean 7 RX9 (some .long) G b0) (ht : isO h0 a0 9) (k : AH → Option (Int64 × AH)) (hk : ∀ (h : AH), k h = some (rr, hh) → WA p l e rmX9_mean s m args below meth c (MQ below (QG G b0 h0 (some (.long rr)) hh) args s (rmX9_mean).cells (rmX9_mean).slots (AB b0)) G b0 7 h0 0 0 h 133 [(0, .ref a0), (3, .int x3), (4, .int x4)] []) : ∀ (n : Nat) (x6 : Int32) (h : AH), fX9_mean_L75 a0 x1 x2 x3 x4 a5 k n x6 h = some (rr, hh) → WA p l e rmX9_mean s m args below meth c (MQ below (QG G b0 h0 (some (.long rr)) hh) args s (rmX9_mean).cells (rmX9_mean).slots (AB b0)) G b0 7 h0 0 0 h 75 [(0, .ref a0), (1, .int x1), (2, .int x2), (3, .int x3), (4, .int x4), (5, .ref a5), (6, .int x6)] [] := by
  intro n
  induction n with
  | zero =>
    intro x6 h hf
    rw [fX9_mean_L75] at hf
    cases hf
  | succ n ih =>
    intro x6 h hf
    rw [fX9_mean_L75] at hf
    refine r_iload K 6 dX9_mean_75 rfl ?_
    refine r_aload_n K 0 dX9_mean_77 rfl ?_
    obtain ⟨b25, e26, hf⟩ := ob1_s hf
    refine r_getR (ci := 9) (k := 3) K dX9_mean_78 inX9 rfl (by decide) rfl q_360 e26 ?_
    obtain ⟨v27, e28, hf⟩ := ob1_s hf
    refine r_getI (ci := 2) (k := 0) K dX9_mean_81 inX2 rfl (by decide) rfl q_187 e28 ?_
    refine r_icmp_ge (tgt := 133) K dX9_mean_84 (by decide) (fun c51 => ?_) (fun c51 => ?_)
    · replace hf := ite_t hf c51
      refine r_lv [0, 3, 4] rfl ?_
      exact hk h hf
    · replace hf := ite_f hf c51
      refine r_aload K 5 dX9_mean_87 rfl ?_
      obtain ⟨b29, e30, hf⟩ := ob1_s hf
      refine r_getR (ci := 5) (k := 1) K dX9_mean_89 inX5 rfl (by decide) rfl q_271 e30 ?_
      refine r_iload_n K 2 dX9_mean_92 rfl ?_
      obtain ⟨b31, e32, hf⟩ := ob1_s hf
      refine r_aaload (kd := 3) (ty := .array .int) K dX9_mean_93 rfl rfl e32 ?_
      refine r_iload K 6 dX9_mean_94 rfl ?_
      obtain ⟨v33, e34, hf⟩ := ob1_s hf
      refine r_iaload K dX9_mean_96 e34 ?_
      refine r_if_le (tgt := 127) K dX9_mean_97 (by decide) (fun c50 => ?_) (fun c50 => ?_)
      · replace hf := ite_t hf c50
        obtain ⟨y35, ey35, hf⟩ := bnd_g hf
        refine r_iinc (lv1 := [(6, .int y35), (0, .ref a0), (1, .int x1), (2, .int x2), (3, .int x3), (4, .int x4), (5, .ref a5)]) K 6 dX9_mean_127 rfl (by rw [ey35]; rfl) (by decide) rfl ?_
        refine r_goto (tgt := 75) K dX9_mean_130 (by decide) ?_
        refine r_lv [1, 2, 3, 4, 5, 6, 0] rfl ?_
        exact ih y35 h hf
      · replace hf := ite_f hf c50
        refine r_aload_n K 0 dX9_mean_100 rfl ?_
        obtain ⟨b36, e37, hf⟩ := ob1_s hf
        refine r_getR (ci := 9) (k := 16) K dX9_mean_101 inX9 rfl (by decide) rfl q_373 e37 ?_
        refine r_aload K 5 dX9_mean_104 rfl ?_
        obtain ⟨b38, e39, hf⟩ := ob1_s hf
        refine r_getR (ci := 5) (k := 1) K dX9_mean_106 inX5 rfl (by decide) rfl q_271 e39 ?_
        refine r_iload_n K 2 dX9_mean_109 rfl ?_
        obtain ⟨b40, e41, hf⟩ := ob1_s hf
        refine r_aaload (kd := 3) (ty := .array .int) K dX9_mean_110 rfl rfl e41 ?_
        refine r_iload K 6 dX9_mean_111 rfl ?_
        obtain ⟨v42, e43, hf⟩ := ob1_s hf
        refine r_iaload K dX9_mean_113 e43 ?_
        refine r_i2l K dX9_mean_114 ?_
        refine r_aload_n K 0 dX9_mean_115 rfl ?_
        refine r_iload_n K 1 dX9_mean_116 rfl ?_
        refine r_iload_n K 2 dX9_mean_117 rfl ?_
        refine r_iload K 6 dX9_mean_118 rfl ?_
        refine r_iconst (v := (0 : Int32)) K dX9_mean_120 (by decide) ?_
        obtain ⟨r44, e45, hf⟩ := ob1_s hf
        refine r_callV (As := [.int x1, .int x2, .int x6, .int (0 : Int32)]) (rest := [.long (Int32.toInt64 v42), .ref b36]) (st1 := [.long r44, .long (Int32.toInt64 v42), .ref b36]) (cells1 := 0) (slots1 := 0) (b := a0) (ci := 9) K (fun z => mX9_fare l z e45) dX9_mean_121 rfl (fun z => z _ _ ht) rfl ceX9_fare q_692 q_694 q_20 q_75 q_695 ⟨Nat.le_of_ble_eq_true rfl, Nat.le_of_ble_eq_true rfl⟩ (Nat.le_of_ble_eq_true rfl) ⟨Nat.le_of_ble_eq_true rfl, Nat.le_of_ble_eq_true rfl⟩ ?_ rfl rfl rfl rfl
        obtain ⟨z46, hf⟩ := gd_s hf
        obtain ⟨g47, e48, hf⟩ := ob1_s hf
        refine r_callV (As := [.long (Int32.toInt64 v42), .long r44]) (rest := []) (st1 := []) (cells1 := 0) (slots1 := 0) (b := b36) (ci := 6) K (fun z => mX6_add l z e48) dX9_mean_124 rfl (fun _ => isO_of z46) rfl ceX6_add q_704 q_663 q_664 q_80 q_665 ⟨Nat.le_of_ble_eq_true rfl, Nat.le_of_ble_eq_true rfl⟩ (Nat.le_of_ble_eq_true rfl) ⟨Nat.le_of_ble_eq_true rfl, Nat.le_of_ble_eq_true rfl⟩ ?_ rfl rfl rfl rfl
        obtain ⟨y49, ey49, hf⟩ := bnd_g hf
        refine r_iinc (lv1 := [(6, .int y49), (0, .ref a0), (1, .int x1), (2, .int x2), (3, .int x3), (4, .int x4), (5, .ref a5)]) K 6 dX9_mean_127 rfl (by rw [ey49]; rfl) (by decide) rfl ?_
        refine r_goto (tgt := 75) K dX9_mean_130 (by decide) ?_
        refine r_lv [1, 2, 3, 4, 5, 6, 0] rfl ?_
        exact ih y49 g47 hf
set_option maxHeartbeats 4000000 in
set_option maxRecDepth 100000 in
theorem mX9_mean (l : Launch) {G : GG} {b0 : Nat} {h : AH} {a0 : Nat} {x1 : Int32} {x2 : Int32} {x3 : Int32} {rr : Int64} {hh : AH} (ht : isO h a0 9) (hf : fX9_mean a0 x1 x2 x3 h = some (rr, hh)) : MM l yX9_mean cX9_mean 7 (some .long) rmX9_mean G b0 h [.ref a0, .int x1, .int x2, .int x3] (some (.long rr)) hh := by
  refine MM.of (own := RX9) (lv0 := [(0, .ref a0), (1, .int x1), (2, .int x2), (3, .int x3)]) (by decide) rfl (Nat.le_of_ble_eq_true rfl) rfl ?_
  intro p e s m args below meth c K hnm
  unfold fX9_mean at hf
  refine r_iload_n K 1 dX9_mean_0 rfl ?_
  refine r_iconst (v := (3 : Int32)) K dX9_mean_1 (by decide) ?_
  obtain ⟨r1, e2, hf⟩ := ob1_s hf
  refine r_callS (As := [.int x1, .int (3 : Int32)]) (rest := []) (st1 := [.int r1]) (cells1 := 0) (slots1 := 0) K (mX9_isOneOf l e2) dX9_mean_2 ceX9_isOneOf q_431 q_426 q_75 q_427 ⟨Nat.le_of_ble_eq_true rfl, Nat.le_of_ble_eq_true rfl⟩ (Nat.le_of_ble_eq_true rfl) ⟨Nat.le_of_ble_eq_true rfl, Nat.le_of_ble_eq_true rfl⟩ ?_ rfl rfl rfl rfl
  refine r_if_eq (tgt := 24) K dX9_mean_5 (by decide) (fun c68 => ?_) (fun c68 => ?_)
  · replace hf := ite_t hf c68
    refine r_ldc2 K dX9_mean_24 q_467 ?_
    exact r_lret K dX9_mean_27 hf (Nat.le_of_ble_eq_true rfl) (Nat.le_of_ble_eq_true rfl)
  · replace hf := ite_f hf c68
    refine r_iload_n K 2 dX9_mean_8 rfl ?_
    refine r_iconst (v := (3 : Int32)) K dX9_mean_9 (by decide) ?_
    obtain ⟨r3, e4, hf⟩ := ob1_s hf
    refine r_callS (As := [.int x2, .int (3 : Int32)]) (rest := []) (st1 := [.int r3]) (cells1 := 0) (slots1 := 0) K (mX9_isOneOf l e4) dX9_mean_10 ceX9_isOneOf q_431 q_426 q_75 q_427 ⟨Nat.le_of_ble_eq_true rfl, Nat.le_of_ble_eq_true rfl⟩ (Nat.le_of_ble_eq_true rfl) ⟨Nat.le_of_ble_eq_true rfl, Nat.le_of_ble_eq_true rfl⟩ ?_ rfl rfl rfl rfl
    refine r_if_eq (tgt := 24) K dX9_mean_13 (by decide) (fun c67 => ?_) (fun c67 => ?_)
    · replace hf := ite_t hf c67
      refine r_ldc2 K dX9_mean_24 q_467 ?_
      exact r_lret K dX9_mean_27 hf (Nat.le_of_ble_eq_true rfl) (Nat.le_of_ble_eq_true rfl)
    · replace hf := ite_f hf c67
      refine r_iload_n K 3 dX9_mean_16 rfl ?_
      refine r_iconst (v := (2 : Int32)) K dX9_mean_17 (by decide) ?_
      obtain ⟨r5, e6, hf⟩ := ob1_s hf
      refine r_callS (As := [.int x3, .int (2 : Int32)]) (rest := []) (st1 := [.int r5]) (cells1 := 0) (slots1 := 0) K (mX9_isOneOf l e6) dX9_mean_18 ceX9_isOneOf q_431 q_426 q_75 q_427 ⟨Nat.le_of_ble_eq_true rfl, Nat.le_of_ble_eq_true rfl⟩ (Nat.le_of_ble_eq_true rfl) ⟨Nat.le_of_ble_eq_true rfl, Nat.le_of_ble_eq_true rfl⟩ ?_ rfl rfl rfl rfl
      refine r_if_ne (tgt := 28) K dX9_mean_21 (by decide) (fun c66 => ?_) (fun c66 => ?_)
      · replace hf := ite_f hf c66
        refine r_aload_n K 0 dX9_mean_28 rfl ?_
        obtain ⟨b7, e8, hf⟩ := ob1_s hf
        refine r_getR (ci := 9) (k := 0) K dX9_mean_29 inX9 rfl (by decide) rfl q_357 e8 ?_
        obtain ⟨b9, e10, hf⟩ := ob1_s hf
        refine r_getR (ci := 1) (k := 4) K dX9_mean_32 inX1 rfl (by decide) rfl q_167 e10 ?_
        refine r_iload_n K 2 dX9_mean_35 rfl ?_
        obtain ⟨b11, e12, hf⟩ := ob1_s hf
        refine r_aaload (kd := 3) (ty := .array .int) K dX9_mean_36 rfl rfl e12 ?_
        refine r_iconst (v := (1 : Int32)) K dX9_mean_37 (by decide) ?_
        obtain ⟨v13, e14, hf⟩ := ob1_s hf
        refine r_iaload K dX9_mean_38 e14 ?_
        refine r_istore (lv1 := [(4, .int v13), (0, .ref a0), (1, .int x1), (2, .int x2), (3, .int x3)]) K dX9_mean_39 (by decide) rfl ?_
        refine r_aload_n K 1 dX9_mean_41 rfl ?_
        refine r_iload_n K 2 dX9_mean_42 rfl ?_
        obtain ⟨b15, g16, e17, hf⟩ := ob2_s hf
        refine r_callV (As := [.int x1]) (rest := []) (st1 := [.ref b15]) (cells1 := 0) (slots1 := 0) (b := a0) (ci := 9) K (fun z => mX9_steadyOf l z e17) dX9_mean_43 rfl (fun z => z _ _ ht) rfl ceX9_steadyOf q_597 q_599 q_12 q_75 q_600 ⟨Nat.le_of_ble_eq_true rfl, Nat.le_of_ble_eq_true rfl⟩ (Nat.le_of_ble_eq_true rfl) ⟨Nat.le_of_ble_eq_true rfl, Nat.le_of_ble_eq_true rfl⟩ ?_ rfl rfl rfl rfl
        refine r_astore (lv1 := [(5, .ref b15), (4, .int v13), (0, .ref a0), (1, .int x1), (2, .int x2), (3, .int x3)]) K dX9_mean_46 (by decide) rfl ?_
        refine r_iload K 1 dX9_mean_48 rfl ?_
        refine r_if_eq (tgt := 61) K dX9_mean_50 (by decide) (fun c65 => ?_) (fun c65 => ?_)
        · replace hf := ite_t hf c65
          refine r_ldc2 K dX9_mean_61 q_467 ?_
          exact r_lret K dX9_mean_64 hf (Nat.le_of_ble_eq_true rfl) (Nat.le_of_ble_eq_true rfl)
        · replace hf := ite_f hf c65
          refine r_aload K 0 dX9_mean_53 rfl ?_
          obtain ⟨v18, e19, hf⟩ := ob1_s hf
          refine r_getI (ci := 5) (k := 3) K dX9_mean_55 inX5 rfl (by decide) rfl q_275 e19 ?_
          refine r_if_ne (tgt := 65) K dX9_mean_58 (by decide) (fun c64 => ?_) (fun c64 => ?_)
          · replace hf := ite_f hf c64
            refine r_aload_n K 2 dX9_mean_65 rfl ?_
            obtain ⟨b20, e21, hf⟩ := ob1_s hf
            refine r_getR (ci := 9) (k := 16) K dX9_mean_66 inX9 rfl (by decide) rfl q_373 e21 ?_
            obtain ⟨z22, hf⟩ := gd_s hf
            obtain ⟨g23, e24, hf⟩ := ob1_s hf
            refine r_callV (As := []) (rest := []) (st1 := []) (cells1 := 0) (slots1 := 0) (b := b20) (ci := 6) K (fun z => mX6_reset l z e24) dX9_mean_69 rfl (fun _ => isO_of z22) rfl ceX6_reset q_703 q_610 q_611 q_80 q_612 ⟨Nat.le_of_ble_eq_true rfl, Nat.le_of_ble_eq_true rfl⟩ (Nat.le_of_ble_eq_true rfl) ⟨Nat.le_of_ble_eq_true rfl, Nat.le_of_ble_eq_true rfl⟩ ?_ rfl rfl rfl rfl
            refine r_iconst (v := (1 : Int32)) K dX9_mean_72 (by decide) ?_
            refine r_istore (lv1 := [(6, .int (1 : Int32)), (5, .ref b15), (4, .int v13), (0, .ref a0), (1, .int x1), (2, .int x2), (3, .int x3)]) K dX9_mean_73 (by decide) rfl ?_
            refine r_lv [3, 4, 5, 6, 2, 1, 0] rfl ?_
            refine wX9_mean_L75 K ht _ (fun g52 hf => ?_) lf (1 : Int32) g23 hf
            refine r_aload_n K 0 dX9_mean_133 rfl ?_
            obtain ⟨b53, e54, hf⟩ := ob1_s hf
            refine r_getR (ci := 9) (k := 16) K dX9_mean_134 inX9 rfl (by decide) rfl q_373 e54 ?_
            obtain ⟨v55, e56, hf⟩ := ob1_s hf
            refine r_getI (ci := 6) (k := 1) K dX9_mean_137 inX6 rfl (by decide) rfl q_233 e56 ?_
            refine r_if_eq (tgt := 149) K dX9_mean_140 (by decide) (fun c63 => ?_) (fun c63 => ?_)
            · replace hf := ite_t hf c63
              refine r_aload_n K 0 dX9_mean_149 rfl ?_
              obtain ⟨b57, e58, hf⟩ := ob1_s hf
              refine r_getR (ci := 9) (k := 16) K dX9_mean_150 inX9 rfl (by decide) rfl q_373 e58 ?_
              obtain ⟨v59, e60, hf⟩ := ob1_s hf
              refine r_getL (ci := 6) (k := 0) K dX9_mean_153 inX6 rfl (by decide) rfl q_230 e60 ?_
              refine r_iload K 2 dX9_mean_156 rfl ?_
              refine r_i2l K dX9_mean_158 ?_
              refine r_iload_n K 1 dX9_mean_159 rfl ?_
              obtain ⟨r61, e62, hf⟩ := ob1_s hf
              refine r_callS (As := [.long v59, .long (Int32.toInt64 v13), .int x3]) (rest := []) (st1 := [.long r61]) (cells1 := 0) (slots1 := 0) K (mX9_fractionPart l e62) dX9_mean_160 ceX9_fractionPart q_705 q_706 q_75 q_707 ⟨Nat.le_of_ble_eq_true rfl, Nat.le_of_ble_eq_true rfl⟩ (Nat.le_of_ble_eq_true rfl) ⟨Nat.le_of_ble_eq_true rfl, Nat.le_of_ble_eq_true rfl⟩ ?_ rfl rfl rfl rfl
              exact r_lret K dX9_mean_163 hf (Nat.le_of_ble_eq_true rfl) (Nat.le_of_ble_eq_true rfl)
            · replace hf := ite_f hf c63
              refine r_ldc2 K dX9_mean_143 q_467 ?_
              refine r_goto (tgt := 163) K dX9_mean_146 (by decide) ?_
              exact r_lret K dX9_mean_163 hf (Nat.le_of_ble_eq_true rfl) (Nat.le_of_ble_eq_true rfl)
          · replace hf := ite_t hf c64
            refine r_ldc2 K dX9_mean_61 q_467 ?_
            exact r_lret K dX9_mean_64 hf (Nat.le_of_ble_eq_true rfl) (Nat.le_of_ble_eq_true rfl)
      · replace hf := ite_t hf c66
        refine r_ldc2 K dX9_mean_24 q_467 ?_
        exact r_lret K dX9_mean_27 hf (Nat.le_of_ble_eq_true rfl) (Nat.le_of_ble_eq_true rfl)
theorem ceX9_bitsOf : CE yX9_bitsOf 1 := ⟨by decide, by decide, by decide +kernel⟩
abbrev rmX9_bitsOf : Room := { frames := 0, cells := 0, slots := 0, locals := 0 }
def fX9_bitsOf_L15 (k : UInt32 → Int32 → Option Int32) : Nat → UInt32 → Int32 → Int32 → Option Int32
  | 0, _, _, _ => none
  | n + 1, x1, x2, x3 =>
    if (128 : Int32) ≤ x3 then
      k x1 x2
    else
      if (Op.cmpValue (FP.fcmp x1 FP.fconst2) CmpOp.l) < (0 : Int32) then
        k x1 x2
      else
        gd (nn (FP.fdiv x1 FP.fconst2)) <|
        bnd (FP.fdiv x1 FP.fconst2) fun y2 =>
        bnd (x2 + (1 : Int32)) fun y3 =>
        bnd (x3 + (1 : Int32)) fun y4 =>
        fX9_bitsOf_L15 k n y2 y3 y4
def fX9_bitsOf_L43 (k : UInt32 → Int32 → Option Int32) : Nat → UInt32 → Int32 → Int32 → Option Int32
  | 0, _, _, _ => none
  | n + 1, x1, x2, x3 =>
    if (126 : Int32) ≤ x3 then
      k x1 x2
    else
      if (0 : Int32) ≤ (Op.cmpValue (FP.fcmp x1 FP.fconst1) CmpOp.g) then
        k x1 x2
      else
        gd (nn (FP.fmul x1 FP.fconst2)) <|
        bnd (FP.fmul x1 FP.fconst2) fun y10 =>
        bnd (x2 + (-1 : Int32)) fun y11 =>
        bnd (x3 + (1 : Int32)) fun y12 =>
        fX9_bitsOf_L43 k n y10 y11 y12
def fX9_bitsOf (x0 : UInt32) : Option Int32 :=
  if (0 : Int32) < (Op.cmpValue (FP.fcmp x0 FP.fconst0) CmpOp.g) then
    fX9_bitsOf_L15 (fun (y7 : UInt32) (y8 : Int32) =>
      fX9_bitsOf_L43 (fun (y15 : UInt32) (y16 : Int32) =>
        gd (nn (FP.fsub y15 FP.fconst1)) <|
        gd (nn (FP.fmul (FP.fsub y15 FP.fconst1) (1258291200 : UInt32))) <|
        some ((y16 <<< ((23 : Int32) &&& 31)) ||| (FP.f2i (FP.fmul (FP.fsub y15 FP.fconst1) (1258291200 : UInt32))))
      ) lf y7 y8 (0 : Int32)
    ) lf x0 (127 : Int32) (0 : Int32)
  else
    some (0 : Int32)
set_option maxHeartbeats 4000000 in
set_option maxRecDepth 100000 in
theorem wX9_bitsOf_L15 {p : Program} {l : Launch} {e : Env} {s : State} {m : MethodId} {args : Array Value} {below : List Frame} {meth : Method} {c : Code} {G : GG} {b0 : Nat} {h0 : AH} {h : AH} {rr : Int32} (K : CX p s m args meth c cX9_bitsOf 4 RX9 (some .int) G b0) (k : UInt32 → Int32 → Option Int32) (hk : ∀ (x1 : UInt32) (x2 : Int32), k x1 x2 = some rr → WA p l e rmX9_bitsOf s m args below meth c (MQ below (QG G b0 h0 (some (.int rr)) h) args s (rmX9_bitsOf).cells (rmX9_bitsOf).slots (AB b0)) G b0 4 h0 0 0 h 41 [(1, .float x1), (2, .int x2)] []) : ∀ (n : Nat) (x1 : UInt32) (x2 : Int32) (x3 : Int32), fX9_bitsOf_L15 k n x1 x2 x3 = some rr → WA p l e rmX9_bitsOf s m args below meth c (MQ below (QG G b0 h0 (some (.int rr)) h) args s (rmX9_bitsOf).cells (rmX9_bitsOf).slots (AB b0)) G b0 4 h0 0 0 h 15 [(1, .float x1), (2, .int x2), (3, .int x3)] [] := by
  intro n
  induction n with
  | zero =>
    intro x1 x2 x3 hf
    rw [fX9_bitsOf_L15] at hf
    cases hf
  | succ n ih =>
    intro x1 x2 x3 hf
    rw [fX9_bitsOf_L15] at hf
    refine r_iload_n K 2 dX9_bitsOf_15 rfl ?_
    refine r_sipush (v := (128 : Int32)) K dX9_bitsOf_16 (by decide) ?_
    refine r_icmp_ge (tgt := 41) K dX9_bitsOf_19 (by decide) (fun c6 => ?_) (fun c6 => ?_)
    · replace hf := ite_t hf c6
      refine r_lv [0, 1] rfl ?_
      exact hk x1 x2 hf
    · replace hf := ite_f hf c6
      refine r_fload_n K 0 dX9_bitsOf_22 rfl ?_
      refine r_fconst2 K dX9_bitsOf_23 ?_
      refine r_fcmp K dX9_bitsOf_24 ?_
      refine r_if_lt (tgt := 41) K dX9_bitsOf_25 (by decide) (fun c5 => ?_) (fun c5 => ?_)
      · replace hf := ite_t hf c5
        refine r_lv [0, 1] rfl ?_
        exact hk x1 x2 hf
      · replace hf := ite_f hf c5
        refine r_fload_n K 0 dX9_bitsOf_28 rfl ?_
        refine r_fconst2 K dX9_bitsOf_29 ?_
        obtain ⟨z1, hf⟩ := gd_s hf
        refine r_fdiv K dX9_bitsOf_30 (nn_n z1) ?_
        obtain ⟨y2, ey2, hf⟩ := bnd_g hf
        refine r_nmf ey2 ?_
        refine r_fstore_n (lv1 := [(1, .float y2), (2, .int x2), (3, .int x3)]) K dX9_bitsOf_31 (by decide) rfl ?_
        obtain ⟨y3, ey3, hf⟩ := bnd_g hf
        refine r_iinc (lv1 := [(2, .int y3), (1, .float y2), (3, .int x3)]) K 1 dX9_bitsOf_32 rfl (by rw [ey3]; rfl) (by decide) rfl ?_
        obtain ⟨y4, ey4, hf⟩ := bnd_g hf
        refine r_iinc (lv1 := [(3, .int y4), (2, .int y3), (1, .float y2)]) K 2 dX9_bitsOf_35 rfl (by rw [ey4]; rfl) (by decide) rfl ?_
        refine r_goto (tgt := 15) K dX9_bitsOf_38 (by decide) ?_
        refine r_lv [2, 1, 0] rfl ?_
        exact ih y2 y3 y4 hf
set_option maxHeartbeats 4000000 in
set_option maxRecDepth 100000 in
theorem wX9_bitsOf_L43 {p : Program} {l : Launch} {e : Env} {s : State} {m : MethodId} {args : Array Value} {below : List Frame} {meth : Method} {c : Code} {G : GG} {b0 : Nat} {h0 : AH} {h : AH} {rr : Int32} (K : CX p s m args meth c cX9_bitsOf 4 RX9 (some .int) G b0) (k : UInt32 → Int32 → Option Int32) (hk : ∀ (x1 : UInt32) (x2 : Int32), k x1 x2 = some rr → WA p l e rmX9_bitsOf s m args below meth c (MQ below (QG G b0 h0 (some (.int rr)) h) args s (rmX9_bitsOf).cells (rmX9_bitsOf).slots (AB b0)) G b0 4 h0 0 0 h 68 [(1, .float x1), (2, .int x2)] []) : ∀ (n : Nat) (x1 : UInt32) (x2 : Int32) (x3 : Int32), fX9_bitsOf_L43 k n x1 x2 x3 = some rr → WA p l e rmX9_bitsOf s m args below meth c (MQ below (QG G b0 h0 (some (.int rr)) h) args s (rmX9_bitsOf).cells (rmX9_bitsOf).slots (AB b0)) G b0 4 h0 0 0 h 43 [(1, .float x1), (2, .int x2), (3, .int x3)] [] := by
  intro n
  induction n with
  | zero =>
    intro x1 x2 x3 hf
    rw [fX9_bitsOf_L43] at hf
    cases hf
  | succ n ih =>
    intro x1 x2 x3 hf
    rw [fX9_bitsOf_L43] at hf
    refine r_iload_n K 2 dX9_bitsOf_43 rfl ?_
    refine r_bipush (v := (126 : Int32)) K dX9_bitsOf_44 (by decide) ?_
    refine r_icmp_ge (tgt := 68) K dX9_bitsOf_46 (by decide) (fun c14 => ?_) (fun c14 => ?_)
    · replace hf := ite_t hf c14
      refine r_lv [0, 1] rfl ?_
      exact hk x1 x2 hf
    · replace hf := ite_f hf c14
      refine r_fload_n K 0 dX9_bitsOf_49 rfl ?_
      refine r_fconst1 K dX9_bitsOf_50 ?_
      refine r_fcmp K dX9_bitsOf_51 ?_
      refine r_if_ge (tgt := 68) K dX9_bitsOf_52 (by decide) (fun c13 => ?_) (fun c13 => ?_)
      · replace hf := ite_t hf c13
        refine r_lv [0, 1] rfl ?_
        exact hk x1 x2 hf
      · replace hf := ite_f hf c13
        refine r_fload_n K 0 dX9_bitsOf_55 rfl ?_
        refine r_fconst2 K dX9_bitsOf_56 ?_
        obtain ⟨z9, hf⟩ := gd_s hf
        refine r_fmul K dX9_bitsOf_57 (nn_n z9) ?_
        obtain ⟨y10, ey10, hf⟩ := bnd_g hf
        refine r_nmf ey10 ?_
        refine r_fstore_n (lv1 := [(1, .float y10), (2, .int x2), (3, .int x3)]) K dX9_bitsOf_58 (by decide) rfl ?_
        obtain ⟨y11, ey11, hf⟩ := bnd_g hf
        refine r_iinc (lv1 := [(2, .int y11), (1, .float y10), (3, .int x3)]) K 1 dX9_bitsOf_59 rfl (by rw [ey11]; rfl) (by decide) rfl ?_
        obtain ⟨y12, ey12, hf⟩ := bnd_g hf
        refine r_iinc (lv1 := [(3, .int y12), (2, .int y11), (1, .float y10)]) K 2 dX9_bitsOf_62 rfl (by rw [ey12]; rfl) (by decide) rfl ?_
        refine r_goto (tgt := 43) K dX9_bitsOf_65 (by decide) ?_
        refine r_lv [2, 1, 0] rfl ?_
        exact ih y10 y11 y12 hf
set_option maxHeartbeats 4000000 in
set_option maxRecDepth 100000 in
theorem mX9_bitsOf (l : Launch) {G : GG} {b0 : Nat} {h : AH} {x0 : UInt32} {rr : Int32} (hf : fX9_bitsOf x0 = some rr) : MM l yX9_bitsOf cX9_bitsOf 4 (some .int) rmX9_bitsOf G b0 h [.float x0] (some (.int rr)) h := by
  refine MM.of (own := RX9) (lv0 := [(0, .float x0)]) (by decide) rfl (Nat.le_of_ble_eq_true rfl) rfl ?_
  intro p e s m args below meth c K hnm
  unfold fX9_bitsOf at hf
  refine r_fload_n K 0 dX9_bitsOf_0 rfl ?_
  refine r_fconst0 K dX9_bitsOf_1 ?_
  refine r_fcmp K dX9_bitsOf_2 ?_
  refine r_if_gt (tgt := 8) K dX9_bitsOf_3 (by decide) (fun c19 => ?_) (fun c19 => ?_)
  · replace hf := ite_t hf c19
    refine r_fload_n K 0 dX9_bitsOf_8 rfl ?_
    refine r_fstore_n (lv1 := [(1, .float x0), (0, .float x0)]) K dX9_bitsOf_9 (by decide) rfl ?_
    refine r_bipush (v := (127 : Int32)) K dX9_bitsOf_10 (by decide) ?_
    refine r_istore_n (lv1 := [(2, .int (127 : Int32)), (1, .float x0), (0, .float x0)]) K dX9_bitsOf_12 (by decide) rfl ?_
    refine r_iconst (v := (0 : Int32)) K dX9_bitsOf_13 (by decide) ?_
    refine r_istore_n (lv1 := [(3, .int (0 : Int32)), (2, .int (127 : Int32)), (1, .float x0), (0, .float x0)]) K dX9_bitsOf_14 (by decide) rfl ?_
    refine r_lv [2, 1, 0] rfl ?_
    refine wX9_bitsOf_L15 K _ (fun y7 y8 hf => ?_) lf x0 (127 : Int32) (0 : Int32) hf
    refine r_iconst (v := (0 : Int32)) K dX9_bitsOf_41 (by decide) ?_
    refine r_istore_n (lv1 := [(3, .int (0 : Int32)), (1, .float y7), (2, .int y8)]) K dX9_bitsOf_42 (by decide) rfl ?_
    refine r_lv [1, 2, 0] rfl ?_
    refine wX9_bitsOf_L43 K _ (fun y15 y16 hf => ?_) lf y7 y8 (0 : Int32) hf
    refine r_iload_n K 1 dX9_bitsOf_68 rfl ?_
    refine r_bipush (v := (23 : Int32)) K dX9_bitsOf_69 (by decide) ?_
    refine r_ishl K dX9_bitsOf_71 ?_
    refine r_fload_n K 0 dX9_bitsOf_72 rfl ?_
    refine r_fconst1 K dX9_bitsOf_73 ?_
    obtain ⟨z17, hf⟩ := gd_s hf
    refine r_fsub K dX9_bitsOf_74 (nn_n z17) ?_
    refine r_ldcfw K dX9_bitsOf_75 q_715 ?_
    obtain ⟨z18, hf⟩ := gd_s hf
    refine r_fmul K dX9_bitsOf_78 (nn_n z18) ?_
    refine r_f2i K dX9_bitsOf_79 ?_
    refine r_ior K dX9_bitsOf_80 ?_
    exact r_iret K dX9_bitsOf_81 (retp hf) (Nat.le_of_ble_eq_true rfl) (Nat.le_of_ble_eq_true rfl)
  · replace hf := ite_f hf c19
    refine r_iconst (v := (0 : Int32)) K dX9_bitsOf_6 (by decide) ?_
    exact r_iret K dX9_bitsOf_7 (retp hf) (Nat.le_of_ble_eq_true rfl) (Nat.le_of_ble_eq_true rfl)
theorem ceX9_shown : CE yX9_shown 2 := ⟨by decide, by decide, by decide +kernel⟩
abbrev rmX9_shown : Room := { frames := 6, cells := 0, slots := 0, locals := 145 }
def fX9_shown_L58 (a0 : Nat) (x1 : Int32) (x2 : Int32) (x3 : Int32) (a4 : Nat) (h : AH) (k : UInt32 → Option (Int32 × AH)) : Nat → UInt32 → Int32 → Option (Int32 × AH)
  | 0, _, _ => none
  | n + 1, x5, x6 =>
    ob1 (gR h a0 9 3) fun b18 =>
    ob1 (gI h b18 2 0) fun v20 =>
    if v20 ≤ x6 then
      k x5
    else
      ob1 (gR h a4 5 1) fun b22 =>
      ob1 (aR h b22 3 x2) fun b24 =>
      ob1 (aI h b24 0 x6) fun v26 =>
      if v26 ≤ (0 : Int32) then
        bnd (x6 + (1 : Int32)) fun y28 =>
        fX9_shown_L58 a0 x1 x2 x3 a4 h k n x5 y28
      else
        ob1 (fX9_fare a0 x1 x2 x6 (0 : Int32) h) fun r29 =>
        gd (nn (FP.fmul (FP.l2f r29) (FP.i2f v26))) <|
        bnd (FP.fmul (FP.l2f r29) (FP.i2f v26)) fun y32 =>
        gd (nn (FP.fdiv y32 (FP.i2f x3))) <|
        gd (nn (FP.fadd x5 (FP.fdiv y32 (FP.i2f x3)))) <|
        bnd (FP.fadd x5 (FP.fdiv y32 (FP.i2f x3))) fun y35 =>
        bnd (x6 + (1 : Int32)) fun y36 =>
        fX9_shown_L58 a0 x1 x2 x3 a4 h k n y35 y36
def fX9_shown (a0 : Nat) (x1 : Int32) (x2 : Int32) (h : AH) : Option (Int32 × AH) :=
  ob1 (fX9_isOneOf x1 (3 : Int32)) fun r1 =>
  if r1 = (0 : Int32) then
    some ((-1 : Int32), h)
  else
    ob1 (fX9_isOneOf x2 (3 : Int32)) fun r3 =>
    if r3 = (0 : Int32) then
      some ((-1 : Int32), h)
    else
      ob1 (gR h a0 9 0) fun b5 =>
      ob1 (gR h b5 1 4) fun b7 =>
      ob1 (aR h b7 3 x2) fun b9 =>
      ob1 (aI h b9 0 (1 : Int32)) fun v11 =>
      ob2 (fX9_steadyOf a0 x1 h) fun b13 g14 =>
      if v11 = (0 : Int32) then
        some ((-3 : Int32), g14)
      else
        ob1 (gI g14 b13 5 3) fun v16 =>
        if v16 = (0 : Int32) then
          some ((-3 : Int32), g14)
        else
          fX9_shown_L58 a0 x1 x2 v11 b13 g14 (fun (y39 : UInt32) =>
            ob1 (fX9_bitsOf y39) fun r40 =>
            some (r40, g14)
          ) lf FP.fconst0 (1 : Int32)
set_option maxHeartbeats 4000000 in
set_option maxRecDepth 100000 in
theorem wX9_shown_L58 {p : Program} {l : Launch} {e : Env} {s : State} {m : MethodId} {args : Array Value} {below : List Frame} {meth : Method} {c : Code} {G : GG} {b0 : Nat} {h0 : AH} {a0 : Nat} {x1 : Int32} {x2 : Int32} {x3 : Int32} {a4 : Nat} {h : AH} {rr : Int32} {hh : AH} (K : CX p s m args meth c cX9_shown 9 RX9 (some .int) G b0) (ht : isO h0 a0 9) (k : UInt32 → Option (Int32 × AH)) (hk : ∀ (x5 : UInt32), k x5 = some (rr, hh) → WA p l e rmX9_shown s m args below meth c (MQ below (QG G b0 h0 (some (.int rr)) hh) args s (rmX9_shown).cells (rmX9_shown).slots (AB b0)) G b0 9 h0 0 0 h 119 [(5, .float x5)] []) : ∀ (n : Nat) (x5 : UInt32) (x6 : Int32), fX9_shown_L58 a0 x1 x2 x3 a4 h k n x5 x6 = some (rr, hh) → WA p l e rmX9_shown s m args below meth c (MQ below (QG G b0 h0 (some (.int rr)) hh) args s (rmX9_shown).cells (rmX9_shown).slots (AB b0)) G b0 9 h0 0 0 h 58 [(0, .ref a0), (1, .int x1), (2, .int x2), (3, .int x3), (4, .ref a4), (5, .float x5), (6, .int x6)] [] := by
  intro n
  induction n with
  | zero =>
    intro x5 x6 hf
    rw [fX9_shown_L58] at hf
    cases hf
  | succ n ih =>
    intro x5 x6 hf
    rw [fX9_shown_L58] at hf
    refine r_iload K 6 dX9_shown_58 rfl ?_
    refine r_aload_n K 0 dX9_shown_60 rfl ?_
    obtain ⟨b18, e19, hf⟩ := ob1_s hf
    refine r_getR (ci := 9) (k := 3) K dX9_shown_61 inX9 rfl (by decide) rfl q_360 e19 ?_
    obtain ⟨v20, e21, hf⟩ := ob1_s hf
    refine r_getI (ci := 2) (k := 0) K dX9_shown_64 inX2 rfl (by decide) rfl q_187 e21 ?_
    refine r_icmp_ge (tgt := 119) K dX9_shown_67 (by decide) (fun c38 => ?_) (fun c38 => ?_)
    · replace hf := ite_t hf c38
      refine r_lv [5] rfl ?_
      exact hk x5 hf
    · replace hf := ite_f hf c38
      refine r_aload K 4 dX9_shown_70 rfl ?_
      obtain ⟨b22, e23, hf⟩ := ob1_s hf
      refine r_getR (ci := 5) (k := 1) K dX9_shown_72 inX5 rfl (by decide) rfl q_271 e23 ?_
      refine r_iload_n K 2 dX9_shown_75 rfl ?_
      obtain ⟨b24, e25, hf⟩ := ob1_s hf
      refine r_aaload (kd := 3) (ty := .array .int) K dX9_shown_76 rfl rfl e25 ?_
      refine r_iload K 6 dX9_shown_77 rfl ?_
      obtain ⟨v26, e27, hf⟩ := ob1_s hf
      refine r_iaload K dX9_shown_79 e27 ?_
      refine r_istore (lv1 := [(7, .int v26), (0, .ref a0), (1, .int x1), (2, .int x2), (3, .int x3), (4, .ref a4), (5, .float x5), (6, .int x6)]) K dX9_shown_80 (by decide) rfl ?_
      refine r_iload K 0 dX9_shown_82 rfl ?_
      refine r_if_le (tgt := 113) K dX9_shown_84 (by decide) (fun c37 => ?_) (fun c37 => ?_)
      · replace hf := ite_t hf c37
        obtain ⟨y28, ey28, hf⟩ := bnd_g hf
        refine r_iinc (lv1 := [(6, .int y28), (7, .int v26), (0, .ref a0), (1, .int x1), (2, .int x2), (3, .int x3), (4, .ref a4), (5, .float x5)]) K 7 dX9_shown_113 rfl (by rw [ey28]; rfl) (by decide) rfl ?_
        refine r_goto (tgt := 58) K dX9_shown_116 (by decide) ?_
        refine r_lv [2, 3, 4, 5, 6, 7, 0] rfl ?_
        exact ih x5 y28 hf
      · replace hf := ite_f hf c37
        refine r_aload_n K 1 dX9_shown_87 rfl ?_
        refine r_iload_n K 2 dX9_shown_88 rfl ?_
        refine r_iload_n K 3 dX9_shown_89 rfl ?_
        refine r_iload K 7 dX9_shown_90 rfl ?_
        refine r_iconst (v := (0 : Int32)) K dX9_shown_92 (by decide) ?_
        obtain ⟨r29, e30, hf⟩ := ob1_s hf
        refine r_callV (As := [.int x1, .int x2, .int x6, .int (0 : Int32)]) (rest := []) (st1 := [.long r29]) (cells1 := 0) (slots1 := 0) (b := a0) (ci := 9) K (fun z => mX9_fare l z e30) dX9_shown_93 rfl (fun z => z _ _ ht) rfl ceX9_fare q_692 q_694 q_20 q_75 q_695 ⟨Nat.le_of_ble_eq_true rfl, Nat.le_of_ble_eq_true rfl⟩ (Nat.le_of_ble_eq_true rfl) ⟨Nat.le_of_ble_eq_true rfl, Nat.le_of_ble_eq_true rfl⟩ ?_ rfl rfl rfl rfl
        refine r_l2f K dX9_shown_96 ?_
        refine r_iload K 0 dX9_shown_97 rfl ?_
        refine r_i2f K dX9_shown_99 ?_
        obtain ⟨z31, hf⟩ := gd_s hf
        refine r_fmul K dX9_shown_100 (nn_n z31) ?_
        obtain ⟨y32, ey32, hf⟩ := bnd_g hf
        refine r_nmf ey32 ?_
        refine r_fstore (lv1 := [(8, .float y32), (7, .int v26), (0, .ref a0), (1, .int x1), (2, .int x2), (3, .int x3), (4, .ref a4), (5, .float x5), (6, .int x6)]) K dX9_shown_101 (by decide) rfl ?_
        refine r_fload K 7 dX9_shown_103 rfl ?_
        refine r_fload K 0 dX9_shown_105 rfl ?_
        refine r_iload_n K 5 dX9_shown_107 rfl ?_
        refine r_i2f K dX9_shown_108 ?_
        obtain ⟨z33, hf⟩ := gd_s hf
        refine r_fdiv K dX9_shown_109 (nn_n z33) ?_
        obtain ⟨z34, hf⟩ := gd_s hf
        refine r_fadd K dX9_shown_110 (nn_n z34) ?_
        obtain ⟨y35, ey35, hf⟩ := bnd_g hf
        refine r_nmf ey35 ?_
        refine r_fstore (lv1 := [(5, .float y35), (8, .float y32), (7, .int v26), (0, .ref a0), (1, .int x1), (2, .int x2), (3, .int x3), (4, .ref a4), (6, .int x6)]) K dX9_shown_111 (by decide) rfl ?_
        obtain ⟨y36, ey36, hf⟩ := bnd_g hf
        refine r_iinc (lv1 := [(6, .int y36), (5, .float y35), (8, .float y32), (7, .int v26), (0, .ref a0), (1, .int x1), (2, .int x2), (3, .int x3), (4, .ref a4)]) K 8 dX9_shown_113 rfl (by rw [ey36]; rfl) (by decide) rfl ?_
        refine r_goto (tgt := 58) K dX9_shown_116 (by decide) ?_
        refine r_lv [4, 5, 6, 7, 8, 1, 0] rfl ?_
        exact ih y35 y36 hf
set_option maxHeartbeats 4000000 in
set_option maxRecDepth 100000 in
theorem mX9_shown (l : Launch) {G : GG} {b0 : Nat} {h : AH} {a0 : Nat} {x1 : Int32} {x2 : Int32} {rr : Int32} {hh : AH} (ht : isO h a0 9) (hf : fX9_shown a0 x1 x2 h = some (rr, hh)) : MM l yX9_shown cX9_shown 9 (some .int) rmX9_shown G b0 h [.ref a0, .int x1, .int x2] (some (.int rr)) hh := by
  refine MM.of (own := RX9) (lv0 := [(0, .ref a0), (1, .int x1), (2, .int x2)]) (by decide) rfl (Nat.le_of_ble_eq_true rfl) rfl ?_
  intro p e s m args below meth c K hnm
  unfold fX9_shown at hf
  refine r_iload_n K 1 dX9_shown_0 rfl ?_
  refine r_iconst (v := (3 : Int32)) K dX9_shown_1 (by decide) ?_
  obtain ⟨r1, e2, hf⟩ := ob1_s hf
  refine r_callS (As := [.int x1, .int (3 : Int32)]) (rest := []) (st1 := [.int r1]) (cells1 := 0) (slots1 := 0) K (mX9_isOneOf l e2) dX9_shown_2 ceX9_isOneOf q_431 q_426 q_75 q_427 ⟨Nat.le_of_ble_eq_true rfl, Nat.le_of_ble_eq_true rfl⟩ (Nat.le_of_ble_eq_true rfl) ⟨Nat.le_of_ble_eq_true rfl, Nat.le_of_ble_eq_true rfl⟩ ?_ rfl rfl rfl rfl
  refine r_if_eq (tgt := 16) K dX9_shown_5 (by decide) (fun c45 => ?_) (fun c45 => ?_)
  · replace hf := ite_t hf c45
    refine r_iconst (v := (-1 : Int32)) K dX9_shown_16 (by decide) ?_
    exact r_iret K dX9_shown_17 hf (Nat.le_of_ble_eq_true rfl) (Nat.le_of_ble_eq_true rfl)
  · replace hf := ite_f hf c45
    refine r_iload_n K 2 dX9_shown_8 rfl ?_
    refine r_iconst (v := (3 : Int32)) K dX9_shown_9 (by decide) ?_
    obtain ⟨r3, e4, hf⟩ := ob1_s hf
    refine r_callS (As := [.int x2, .int (3 : Int32)]) (rest := []) (st1 := [.int r3]) (cells1 := 0) (slots1 := 0) K (mX9_isOneOf l e4) dX9_shown_10 ceX9_isOneOf q_431 q_426 q_75 q_427 ⟨Nat.le_of_ble_eq_true rfl, Nat.le_of_ble_eq_true rfl⟩ (Nat.le_of_ble_eq_true rfl) ⟨Nat.le_of_ble_eq_true rfl, Nat.le_of_ble_eq_true rfl⟩ ?_ rfl rfl rfl rfl
    refine r_if_ne (tgt := 18) K dX9_shown_13 (by decide) (fun c44 => ?_) (fun c44 => ?_)
    · replace hf := ite_f hf c44
      refine r_aload_n K 0 dX9_shown_18 rfl ?_
      obtain ⟨b5, e6, hf⟩ := ob1_s hf
      refine r_getR (ci := 9) (k := 0) K dX9_shown_19 inX9 rfl (by decide) rfl q_357 e6 ?_
      obtain ⟨b7, e8, hf⟩ := ob1_s hf
      refine r_getR (ci := 1) (k := 4) K dX9_shown_22 inX1 rfl (by decide) rfl q_167 e8 ?_
      refine r_iload_n K 2 dX9_shown_25 rfl ?_
      obtain ⟨b9, e10, hf⟩ := ob1_s hf
      refine r_aaload (kd := 3) (ty := .array .int) K dX9_shown_26 rfl rfl e10 ?_
      refine r_iconst (v := (1 : Int32)) K dX9_shown_27 (by decide) ?_
      obtain ⟨v11, e12, hf⟩ := ob1_s hf
      refine r_iaload K dX9_shown_28 e12 ?_
      refine r_istore_n (lv1 := [(3, .int v11), (0, .ref a0), (1, .int x1), (2, .int x2)]) K dX9_shown_29 (by decide) rfl ?_
      refine r_aload_n K 1 dX9_shown_30 rfl ?_
      refine r_iload_n K 2 dX9_shown_31 rfl ?_
      obtain ⟨b13, g14, e15, hf⟩ := ob2_s hf
      refine r_callV (As := [.int x1]) (rest := []) (st1 := [.ref b13]) (cells1 := 0) (slots1 := 0) (b := a0) (ci := 9) K (fun z => mX9_steadyOf l z e15) dX9_shown_32 rfl (fun z => z _ _ ht) rfl ceX9_steadyOf q_597 q_599 q_12 q_75 q_600 ⟨Nat.le_of_ble_eq_true rfl, Nat.le_of_ble_eq_true rfl⟩ (Nat.le_of_ble_eq_true rfl) ⟨Nat.le_of_ble_eq_true rfl, Nat.le_of_ble_eq_true rfl⟩ ?_ rfl rfl rfl rfl
      refine r_astore (lv1 := [(4, .ref b13), (3, .int v11), (0, .ref a0), (1, .int x1), (2, .int x2)]) K dX9_shown_35 (by decide) rfl ?_
      refine r_iload_n K 1 dX9_shown_37 rfl ?_
      refine r_if_eq (tgt := 49) K dX9_shown_38 (by decide) (fun c43 => ?_) (fun c43 => ?_)
      · replace hf := ite_t hf c43
        refine r_bipush (v := (-3 : Int32)) K dX9_shown_49 (by decide) ?_
        exact r_iret K dX9_shown_51 hf (Nat.le_of_ble_eq_true rfl) (Nat.le_of_ble_eq_true rfl)
      · replace hf := ite_f hf c43
        refine r_aload K 0 dX9_shown_41 rfl ?_
        obtain ⟨v16, e17, hf⟩ := ob1_s hf
        refine r_getI (ci := 5) (k := 3) K dX9_shown_43 inX5 rfl (by decide) rfl q_275 e17 ?_
        refine r_if_ne (tgt := 52) K dX9_shown_46 (by decide) (fun c42 => ?_) (fun c42 => ?_)
        · replace hf := ite_f hf c42
          refine r_fconst0 K dX9_shown_52 ?_
          refine r_fstore (lv1 := [(5, .float FP.fconst0), (4, .ref b13), (3, .int v11), (0, .ref a0), (1, .int x1), (2, .int x2)]) K dX9_shown_53 (by decide) rfl ?_
          refine r_iconst (v := (1 : Int32)) K dX9_shown_55 (by decide) ?_
          refine r_istore (lv1 := [(6, .int (1 : Int32)), (5, .float FP.fconst0), (4, .ref b13), (3, .int v11), (0, .ref a0), (1, .int x1), (2, .int x2)]) K dX9_shown_56 (by decide) rfl ?_
          refine r_lv [4, 5, 6, 3, 2, 1, 0] rfl ?_
          refine wX9_shown_L58 K ht _ (fun y39 hf => ?_) lf FP.fconst0 (1 : Int32) hf
          refine r_fload K 0 dX9_shown_119 rfl ?_
          obtain ⟨r40, e41, hf⟩ := ob1_s hf
          refine r_callS (As := [.float y39]) (rest := []) (st1 := [.int r40]) (cells1 := 0) (slots1 := 0) K (mX9_bitsOf l e41) dX9_shown_121 ceX9_bitsOf q_712 q_713 q_75 q_714 ⟨Nat.le_of_ble_eq_true rfl, Nat.le_of_ble_eq_true rfl⟩ (Nat.le_of_ble_eq_true rfl) ⟨Nat.le_of_ble_eq_true rfl, Nat.le_of_ble_eq_true rfl⟩ ?_ rfl rfl rfl rfl
          exact r_iret K dX9_shown_124 hf (Nat.le_of_ble_eq_true rfl) (Nat.le_of_ble_eq_true rfl)
        · replace hf := ite_t hf c42
          refine r_bipush (v := (-3 : Int32)) K dX9_shown_49 (by decide) ?_
          exact r_iret K dX9_shown_51 hf (Nat.le_of_ble_eq_true rfl) (Nat.le_of_ble_eq_true rfl)
    · replace hf := ite_t hf c44
      refine r_iconst (v := (-1 : Int32)) K dX9_shown_16 (by decide) ?_
      exact r_iret K dX9_shown_17 hf (Nat.le_of_ble_eq_true rfl) (Nat.le_of_ble_eq_true rfl)
theorem ceX9_taken : CE yX9_taken 1 := ⟨by decide, by decide, by decide +kernel⟩
abbrev rmX9_taken : Room := { frames := 6, cells := 0, slots := 0, locals := 145 }
def fX9_taken_L38 (a0 : Nat) (x1 : Int32) (a2 : Nat) (k : AH → Option (Int64 × AH)) : Nat → Int32 → AH → Option (Int64 × AH)
  | 0, _, _ => none
  | n + 1, x3, h =>
    ob1 (gR h a0 9 0) fun b13 =>
    ob1 (gI h b13 1 1) fun v15 =>
    if v15 ≤ x3 then
      k h
    else
      ob1 (gR h a2 5 0) fun b17 =>
      ob1 (aI h b17 0 x3) fun v19 =>
      bnd (fun (y22 : Int32) (g23 : AH) =>
        if v19 ≤ (0 : Int32) then
          bnd (y22 + (1 : Int32)) fun y24 =>
          fX9_taken_L38 a0 x1 a2 k n y24 g23
        else
          if x1 = (2 : Int32) then
            ob1 (gR g23 a0 9 16) fun b26 =>
            ob1 (gR g23 a0 9 0) fun b28 =>
            ob1 (gR g23 b28 1 2) fun b30 =>
            ob1 (aR g23 b30 4 y22) fun b32 =>
            gd (ckO g23 b32 3) <|
            ob1 (fX3_lossAt b32 v19 g23) fun r35 =>
            gd (ckO g23 b26 6) <|
            ob1 (fX6_add b26 (Int32.toInt64 v19) r35 g23) fun g38 =>
            bnd (y22 + (1 : Int32)) fun y40 =>
            fX9_taken_L38 a0 x1 a2 k n y40 g38
          else
            bnd (y22 + (1 : Int32)) fun y25 =>
            fX9_taken_L38 a0 x1 a2 k n y25 g23
      ) fun j21 =>
      if v19 ≤ (0 : Int32) then
        j21 x3 h
      else
        if x1 = (1 : Int32) then
          ob1 (gR h a0 9 16) fun b43 =>
          ob1 (gR h a0 9 0) fun b45 =>
          ob1 (gR h b45 1 3) fun b47 =>
          ob1 (aL h b47 x3) fun v49 =>
          gd (ckO h b43 6) <|
          ob1 (fX6_add b43 (Int32.toInt64 v19) v49 h) fun g52 =>
          bnd (x3 + (1 : Int32)) fun y54 =>
          fX9_taken_L38 a0 x1 a2 k n y54 g52
        else
          j21 x3 h
def fX9_taken (a0 : Nat) (x1 : Int32) (h : AH) : Option (Int64 × AH) :=
  ob1 (fX9_isOneOf x1 (3 : Int32)) fun r1 =>
  if r1 = (0 : Int32) then
    some ((-9223372036854775808 : Int64), h)
  else
    ob2 (fX9_steadyOf a0 x1 h) fun b3 g4 =>
    ob1 (gI g4 b3 5 3) fun v6 =>
    if v6 = (0 : Int32) then
      some ((-9223372036854775808 : Int64), g4)
    else
      ob1 (gR g4 a0 9 16) fun b8 =>
      gd (ckO g4 b8 6) <|
      ob1 (fX6_reset b8 g4) fun g11 =>
      fX9_taken_L38 a0 x1 b3 (fun (g58 : AH) =>
        ob1 (gR g58 a0 9 16) fun b59 =>
        ob1 (gI g58 b59 6 1) fun v61 =>
        if v61 = (0 : Int32) then
          ob1 (gR g58 a0 9 16) fun b63 =>
          ob1 (gL g58 b63 6 0) fun v65 =>
          some (v65, g58)
        else
          some ((-9223372036854775808 : Int64), g58)
      ) lf (0 : Int32) g11
set_option maxHeartbeats 4000000 in
set_option maxRecDepth 100000 in
theorem wX9_taken_L38 {p : Program} {l : Launch} {e : Env} {s : State} {m : MethodId} {args : Array Value} {below : List Frame} {meth : Method} {c : Code} {G : GG} {b0 : Nat} {h0 : AH} {a0 : Nat} {x1 : Int32} {a2 : Nat} {rr : Int64} {hh : AH} (K : CX p s m args meth c cX9_taken 5 RX9 (some .long) G b0) (ht : isO h0 a0 9) (k : AH → Option (Int64 × AH)) (hk : ∀ (h : AH), k h = some (rr, hh) → WA p l e rmX9_taken s m args below meth c (MQ below (QG G b0 h0 (some (.long rr)) hh) args s (rmX9_taken).cells (rmX9_taken).slots (AB b0)) G b0 5 h0 0 0 h 129 [(0, .ref a0)] []) : ∀ (n : Nat) (x3 : Int32) (h : AH), fX9_taken_L38 a0 x1 a2 k n x3 h = some (rr, hh) → WA p l e rmX9_taken s m args below meth c (MQ below (QG G b0 h0 (some (.long rr)) hh) args s (rmX9_taken).cells (rmX9_taken).slots (AB b0)) G b0 5 h0 0 0 h 38 [(0, .ref a0), (1, .int x1), (2, .ref a2), (3, .int x3)] [] := by
  intro n
  induction n with
  | zero =>
    intro x3 h hf
    rw [fX9_taken_L38] at hf
    cases hf
  | succ n ih =>
    intro x3 h hf
    rw [fX9_taken_L38] at hf
    refine r_iload_n K 3 dX9_taken_38 rfl ?_
    refine r_aload_n K 0 dX9_taken_39 rfl ?_
    obtain ⟨b13, e14, hf⟩ := ob1_s hf
    refine r_getR (ci := 9) (k := 0) K dX9_taken_40 inX9 rfl (by decide) rfl q_357 e14 ?_
    obtain ⟨v15, e16, hf⟩ := ob1_s hf
    refine r_getI (ci := 1) (k := 1) K dX9_taken_43 inX1 rfl (by decide) rfl q_154 e16 ?_
    refine r_icmp_ge (tgt := 129) K dX9_taken_46 (by decide) (fun c57 => ?_) (fun c57 => ?_)
    · replace hf := ite_t hf c57
      refine r_lv [0] rfl ?_
      exact hk h hf
    · replace hf := ite_f hf c57
      refine r_aload_n K 2 dX9_taken_49 rfl ?_
      obtain ⟨b17, e18, hf⟩ := ob1_s hf
      refine r_getR (ci := 5) (k := 0) K dX9_taken_50 inX5 rfl (by decide) rfl q_269 e18 ?_
      refine r_iload_n K 3 dX9_taken_53 rfl ?_
      obtain ⟨v19, e20, hf⟩ := ob1_s hf
      refine r_iaload K dX9_taken_54 e20 ?_
      refine r_istore (lv1 := [(4, .int v19), (0, .ref a0), (1, .int x1), (2, .ref a2), (3, .int x3)]) K dX9_taken_55 (by decide) rfl ?_
      refine r_iload K 0 dX9_taken_57 rfl ?_
      obtain ⟨j21, ej21, hf⟩ := bnd_g hf
      have Jj21 : ∀ (y22 : Int32) (g23 : AH), j21 y22 g23 = some (rr, hh) → WA p l e rmX9_taken s m args below meth c (MQ below (QG G b0 h0 (some (.long rr)) hh) args s (rmX9_taken).cells (rmX9_taken).slots (AB b0)) G b0 5 h0 0 0 g23 89 [(0, .ref a0), (1, .int x1), (2, .ref a2), (3, .int y22), (4, .int v19)] [] := by
        intro y22 g23 hf
        rw [ej21] at hf
        refine r_iload K 4 dX9_taken_89 rfl ?_
        refine r_if_le (tgt := 123) K dX9_taken_91 (by decide) (fun c42 => ?_) (fun c42 => ?_)
        · replace hf := ite_t hf c42
          obtain ⟨y24, ey24, hf⟩ := bnd_g hf
          refine r_iinc (lv1 := [(3, .int y24), (0, .ref a0), (1, .int x1), (2, .ref a2), (4, .int v19)]) K 3 dX9_taken_123 rfl (by rw [ey24]; rfl) (by decide) rfl ?_
          refine r_goto (tgt := 38) K dX9_taken_126 (by decide) ?_
          refine r_lv [1, 2, 3, 0] rfl ?_
          exact ih y24 g23 hf
        · replace hf := ite_f hf c42
          refine r_iload_n K 1 dX9_taken_94 rfl ?_
          refine r_iconst (v := (2 : Int32)) K dX9_taken_95 (by decide) ?_
          refine r_icmp_ne (tgt := 123) K dX9_taken_96 (by decide) (fun c41 => ?_) (fun c41 => ?_)
          · replace hf := ite_f hf c41
            obtain ⟨y25, ey25, hf⟩ := bnd_g hf
            refine r_iinc (lv1 := [(3, .int y25), (0, .ref a0), (1, .int x1), (2, .ref a2), (4, .int v19)]) K 3 dX9_taken_123 rfl (by rw [ey25]; rfl) (by decide) rfl ?_
            refine r_goto (tgt := 38) K dX9_taken_126 (by decide) ?_
            refine r_lv [1, 2, 3, 0] rfl ?_
            exact ih y25 g23 hf
          · replace hf := ite_t hf c41
            refine r_aload_n K 0 dX9_taken_99 rfl ?_
            obtain ⟨b26, e27, hf⟩ := ob1_s hf
            refine r_getR (ci := 9) (k := 16) K dX9_taken_100 inX9 rfl (by decide) rfl q_373 e27 ?_
            refine r_iload K 4 dX9_taken_103 rfl ?_
            refine r_i2l K dX9_taken_105 ?_
            refine r_aload_n K 0 dX9_taken_106 rfl ?_
            obtain ⟨b28, e29, hf⟩ := ob1_s hf
            refine r_getR (ci := 9) (k := 0) K dX9_taken_107 inX9 rfl (by decide) rfl q_357 e29 ?_
            obtain ⟨b30, e31, hf⟩ := ob1_s hf
            refine r_getR (ci := 1) (k := 2) K dX9_taken_110 inX1 rfl (by decide) rfl q_161 e31 ?_
            refine r_iload_n K 3 dX9_taken_113 rfl ?_
            obtain ⟨b32, e33, hf⟩ := ob1_s hf
            refine r_aaload (kd := 4) (ty := .object RX3) K dX9_taken_114 rfl rfl e33 ?_
            refine r_iload K 4 dX9_taken_115 rfl ?_
            obtain ⟨z34, hf⟩ := gd_s hf
            obtain ⟨r35, e36, hf⟩ := ob1_s hf
            refine r_callV (As := [.int v19]) (rest := [.long (Int32.toInt64 v19), .ref b26]) (st1 := [.long r35, .long (Int32.toInt64 v19), .ref b26]) (cells1 := 0) (slots1 := 0) (b := b32) (ci := 3) K (fun z => mX3_lossAt l z e36) dX9_taken_117 rfl (fun _ => isO_of z34) rfl ceX3_lossAt q_479 q_480 q_481 q_77 q_482 ⟨Nat.le_of_ble_eq_true rfl, Nat.le_of_ble_eq_true rfl⟩ (Nat.le_of_ble_eq_true rfl) ⟨Nat.le_of_ble_eq_true rfl, Nat.le_of_ble_eq_true rfl⟩ ?_ rfl rfl rfl rfl
            obtain ⟨z37, hf⟩ := gd_s hf
            obtain ⟨g38, e39, hf⟩ := ob1_s hf
            refine r_callV (As := [.long (Int32.toInt64 v19), .long r35]) (rest := []) (st1 := []) (cells1 := 0) (slots1 := 0) (b := b26) (ci := 6) K (fun z => mX6_add l z e39) dX9_taken_120 rfl (fun _ => isO_of z37) rfl ceX6_add q_704 q_663 q_664 q_80 q_665 ⟨Nat.le_of_ble_eq_true rfl, Nat.le_of_ble_eq_true rfl⟩ (Nat.le_of_ble_eq_true rfl) ⟨Nat.le_of_ble_eq_true rfl, Nat.le_of_ble_eq_true rfl⟩ ?_ rfl rfl rfl rfl
            obtain ⟨y40, ey40, hf⟩ := bnd_g hf
            refine r_iinc (lv1 := [(3, .int y40), (0, .ref a0), (1, .int x1), (2, .ref a2), (4, .int v19)]) K 3 dX9_taken_123 rfl (by rw [ey40]; rfl) (by decide) rfl ?_
            refine r_goto (tgt := 38) K dX9_taken_126 (by decide) ?_
            refine r_lv [1, 2, 3, 0] rfl ?_
            exact ih y40 g38 hf
      refine r_if_le (tgt := 89) K dX9_taken_59 (by decide) (fun c56 => ?_) (fun c56 => ?_)
      · replace hf := ite_t hf c56
        refine r_lv [1, 2, 3, 4, 0] rfl ?_
        exact Jj21 x3 h hf
      · replace hf := ite_f hf c56
        refine r_iload_n K 2 dX9_taken_62 rfl ?_
        refine r_iconst (v := (1 : Int32)) K dX9_taken_63 (by decide) ?_
        refine r_icmp_ne (tgt := 89) K dX9_taken_64 (by decide) (fun c55 => ?_) (fun c55 => ?_)
        · replace hf := ite_f hf c55
          refine r_lv [1, 2, 3, 4, 0] rfl ?_
          exact Jj21 x3 h hf
        · replace hf := ite_t hf c55
          refine r_aload_n K 1 dX9_taken_67 rfl ?_
          obtain ⟨b43, e44, hf⟩ := ob1_s hf
          refine r_getR (ci := 9) (k := 16) K dX9_taken_68 inX9 rfl (by decide) rfl q_373 e44 ?_
          refine r_iload K 0 dX9_taken_71 rfl ?_
          refine r_i2l K dX9_taken_73 ?_
          refine r_aload_n K 1 dX9_taken_74 rfl ?_
          obtain ⟨b45, e46, hf⟩ := ob1_s hf
          refine r_getR (ci := 9) (k := 0) K dX9_taken_75 inX9 rfl (by decide) rfl q_357 e46 ?_
          obtain ⟨b47, e48, hf⟩ := ob1_s hf
          refine r_getR (ci := 1) (k := 3) K dX9_taken_78 inX1 rfl (by decide) rfl q_163 e48 ?_
          refine r_iload_n K 4 dX9_taken_81 rfl ?_
          obtain ⟨v49, e50, hf⟩ := ob1_s hf
          refine r_laload K dX9_taken_82 e50 ?_
          obtain ⟨z51, hf⟩ := gd_s hf
          obtain ⟨g52, e53, hf⟩ := ob1_s hf
          refine r_callV (As := [.long (Int32.toInt64 v19), .long v49]) (rest := []) (st1 := []) (cells1 := 0) (slots1 := 0) (b := b43) (ci := 6) K (fun z => mX6_add l z e53) dX9_taken_83 rfl (fun _ => isO_of z51) rfl ceX6_add q_704 q_663 q_664 q_80 q_665 ⟨Nat.le_of_ble_eq_true rfl, Nat.le_of_ble_eq_true rfl⟩ (Nat.le_of_ble_eq_true rfl) ⟨Nat.le_of_ble_eq_true rfl, Nat.le_of_ble_eq_true rfl⟩ ?_ rfl rfl rfl rfl
          refine r_goto (tgt := 123) K dX9_taken_86 (by decide) ?_
          obtain ⟨y54, ey54, hf⟩ := bnd_g hf
          refine r_iinc (lv1 := [(3, .int y54), (4, .int v19), (0, .ref a0), (1, .int x1), (2, .ref a2)]) K 4 dX9_taken_123 rfl (by rw [ey54]; rfl) (by decide) rfl ?_
          refine r_goto (tgt := 38) K dX9_taken_126 (by decide) ?_
          refine r_lv [2, 3, 4, 0] rfl ?_
          exact ih y54 g52 hf
set_option maxHeartbeats 4000000 in
set_option maxRecDepth 100000 in
theorem mX9_taken (l : Launch) {G : GG} {b0 : Nat} {h : AH} {a0 : Nat} {x1 : Int32} {rr : Int64} {hh : AH} (ht : isO h a0 9) (hf : fX9_taken a0 x1 h = some (rr, hh)) : MM l yX9_taken cX9_taken 5 (some .long) rmX9_taken G b0 h [.ref a0, .int x1] (some (.long rr)) hh := by
  refine MM.of (own := RX9) (lv0 := [(0, .ref a0), (1, .int x1)]) (by decide) rfl (Nat.le_of_ble_eq_true rfl) rfl ?_
  intro p e s m args below meth c K hnm
  unfold fX9_taken at hf
  refine r_iload_n K 1 dX9_taken_0 rfl ?_
  refine r_iconst (v := (3 : Int32)) K dX9_taken_1 (by decide) ?_
  obtain ⟨r1, e2, hf⟩ := ob1_s hf
  refine r_callS (As := [.int x1, .int (3 : Int32)]) (rest := []) (st1 := [.int r1]) (cells1 := 0) (slots1 := 0) K (mX9_isOneOf l e2) dX9_taken_2 ceX9_isOneOf q_431 q_426 q_75 q_427 ⟨Nat.le_of_ble_eq_true rfl, Nat.le_of_ble_eq_true rfl⟩ (Nat.le_of_ble_eq_true rfl) ⟨Nat.le_of_ble_eq_true rfl, Nat.le_of_ble_eq_true rfl⟩ ?_ rfl rfl rfl rfl
  refine r_if_ne (tgt := 12) K dX9_taken_5 (by decide) (fun c69 => ?_) (fun c69 => ?_)
  · replace hf := ite_f hf c69
    refine r_aload_n K 0 dX9_taken_12 rfl ?_
    refine r_iload_n K 1 dX9_taken_13 rfl ?_
    obtain ⟨b3, g4, e5, hf⟩ := ob2_s hf
    refine r_callV (As := [.int x1]) (rest := []) (st1 := [.ref b3]) (cells1 := 0) (slots1 := 0) (b := a0) (ci := 9) K (fun z => mX9_steadyOf l z e5) dX9_taken_14 rfl (fun z => z _ _ ht) rfl ceX9_steadyOf q_597 q_599 q_12 q_75 q_600 ⟨Nat.le_of_ble_eq_true rfl, Nat.le_of_ble_eq_true rfl⟩ (Nat.le_of_ble_eq_true rfl) ⟨Nat.le_of_ble_eq_true rfl, Nat.le_of_ble_eq_true rfl⟩ ?_ rfl rfl rfl rfl
    refine r_astore_n (lv1 := [(2, .ref b3), (0, .ref a0), (1, .int x1)]) K dX9_taken_17 (by decide) rfl ?_
    refine r_aload_n K 0 dX9_taken_18 rfl ?_
    obtain ⟨v6, e7, hf⟩ := ob1_s hf
    refine r_getI (ci := 5) (k := 3) K dX9_taken_19 inX5 rfl (by decide) rfl q_275 e7 ?_
    refine r_if_ne (tgt := 29) K dX9_taken_22 (by decide) (fun c68 => ?_) (fun c68 => ?_)
    · replace hf := ite_f hf c68
      refine r_aload_n K 1 dX9_taken_29 rfl ?_
      obtain ⟨b8, e9, hf⟩ := ob1_s hf
      refine r_getR (ci := 9) (k := 16) K dX9_taken_30 inX9 rfl (by decide) rfl q_373 e9 ?_
      obtain ⟨z10, hf⟩ := gd_s hf
      obtain ⟨g11, e12, hf⟩ := ob1_s hf
      refine r_callV (As := []) (rest := []) (st1 := []) (cells1 := 0) (slots1 := 0) (b := b8) (ci := 6) K (fun z => mX6_reset l z e12) dX9_taken_33 rfl (fun _ => isO_of z10) rfl ceX6_reset q_703 q_610 q_611 q_80 q_612 ⟨Nat.le_of_ble_eq_true rfl, Nat.le_of_ble_eq_true rfl⟩ (Nat.le_of_ble_eq_true rfl) ⟨Nat.le_of_ble_eq_true rfl, Nat.le_of_ble_eq_true rfl⟩ ?_ rfl rfl rfl rfl
      refine r_iconst (v := (0 : Int32)) K dX9_taken_36 (by decide) ?_
      refine r_istore_n (lv1 := [(3, .int (0 : Int32)), (2, .ref b3), (0, .ref a0), (1, .int x1)]) K dX9_taken_37 (by decide) rfl ?_
      refine r_lv [2, 3, 1, 0] rfl ?_
      refine wX9_taken_L38 K ht _ (fun g58 hf => ?_) lf (0 : Int32) g11 hf
      refine r_aload_n K 0 dX9_taken_129 rfl ?_
      obtain ⟨b59, e60, hf⟩ := ob1_s hf
      refine r_getR (ci := 9) (k := 16) K dX9_taken_130 inX9 rfl (by decide) rfl q_373 e60 ?_
      obtain ⟨v61, e62, hf⟩ := ob1_s hf
      refine r_getI (ci := 6) (k := 1) K dX9_taken_133 inX6 rfl (by decide) rfl q_233 e62 ?_
      refine r_if_eq (tgt := 145) K dX9_taken_136 (by decide) (fun c67 => ?_) (fun c67 => ?_)
      · replace hf := ite_t hf c67
        refine r_aload_n K 0 dX9_taken_145 rfl ?_
        obtain ⟨b63, e64, hf⟩ := ob1_s hf
        refine r_getR (ci := 9) (k := 16) K dX9_taken_146 inX9 rfl (by decide) rfl q_373 e64 ?_
        obtain ⟨v65, e66, hf⟩ := ob1_s hf
        refine r_getL (ci := 6) (k := 0) K dX9_taken_149 inX6 rfl (by decide) rfl q_230 e66 ?_
        exact r_lret K dX9_taken_152 hf (Nat.le_of_ble_eq_true rfl) (Nat.le_of_ble_eq_true rfl)
      · replace hf := ite_f hf c67
        refine r_ldc2 K dX9_taken_139 q_467 ?_
        refine r_goto (tgt := 152) K dX9_taken_142 (by decide) ?_
        exact r_lret K dX9_taken_152 hf (Nat.le_of_ble_eq_true rfl) (Nat.le_of_ble_eq_true rfl)
    · replace hf := ite_t hf c68
      refine r_ldc2 K dX9_taken_25 q_467 ?_
      exact r_lret K dX9_taken_28 hf (Nat.le_of_ble_eq_true rfl) (Nat.le_of_ble_eq_true rfl)
  · replace hf := ite_t hf c69
    refine r_ldc2 K dX9_taken_8 q_467 ?_
    exact r_lret K dX9_taken_11 hf (Nat.le_of_ble_eq_true rfl) (Nat.le_of_ble_eq_true rfl)
theorem ceX9_busy : CE yX9_busy 2 := ⟨by decide, by decide, by decide +kernel⟩
abbrev rmX9_busy : Room := { frames := 6, cells := 0, slots := 0, locals := 145 }
def fX9_busy_L40 (a0 : Nat) (x2 : Int32) (a3 : Nat) (h : AH) (k : Option (Int32 × AH)) : Nat → Int32 → Option (Int32 × AH)
  | 0, _ => none
  | n + 1, x4 =>
    ob1 (gR h a0 9 0) fun b13 =>
    ob1 (gI h b13 1 1) fun v15 =>
    if v15 ≤ x4 then
      k
    else
      ob1 (gR h a0 9 0) fun b17 =>
      ob1 (gI h b17 1 1) fun v19 =>
      gd (ckO h a3 5) <|
      ob1 (fX5_busierThan a3 x4 v19 h) fun r22 =>
      if r22 = x2 then
        some (x4, h)
      else
        bnd (x4 + (1 : Int32)) fun y24 =>
        fX9_busy_L40 a0 x2 a3 h k n y24
def fX9_busy (a0 : Nat) (x1 : Int32) (x2 : Int32) (h : AH) : Option (Int32 × AH) :=
  ob1 (fX9_isOneOf x1 (3 : Int32)) fun r1 =>
  if r1 = (0 : Int32) then
    some ((-1 : Int32), h)
  else
    ob1 (gR h a0 9 0) fun b3 =>
    gd (ckO h b3 1) <|
    ob1 (fX1_hasRoad b3 x2 h) fun r6 =>
    if r6 = (0 : Int32) then
      some ((-1 : Int32), h)
    else
      ob2 (fX9_steadyOf a0 x1 h) fun b8 g9 =>
      ob1 (gI g9 b8 5 3) fun v11 =>
      if v11 = (0 : Int32) then
        some ((-3 : Int32), g9)
      else
        fX9_busy_L40 a0 x2 b8 g9 (
          some ((-1 : Int32), g9)
        ) lf (0 : Int32)
set_option maxHeartbeats 4000000 in
set_option maxRecDepth 100000 in
theorem wX9_busy_L40 {p : Program} {l : Launch} {e : Env} {s : State} {m : MethodId} {args : Array Value} {below : List Frame} {meth : Method} {c : Code} {G : GG} {b0 : Nat} {h0 : AH} {a0 : Nat} {x2 : Int32} {a3 : Nat} {h : AH} {rr : Int32} {hh : AH} (K : CX p s m args meth c cX9_busy 5 RX9 (some .int) G b0) (ht : isO h0 a0 9) (k : Option (Int32 × AH)) (hk : k = some (rr, hh) → WA p l e rmX9_busy s m args below meth c (MQ below (QG G b0 h0 (some (.int rr)) hh) args s (rmX9_busy).cells (rmX9_busy).slots (AB b0)) G b0 5 h0 0 0 h 78 [] []) : ∀ (n : Nat) (x4 : Int32), fX9_busy_L40 a0 x2 a3 h k n x4 = some (rr, hh) → WA p l e rmX9_busy s m args below meth c (MQ below (QG G b0 h0 (some (.int rr)) hh) args s (rmX9_busy).cells (rmX9_busy).slots (AB b0)) G b0 5 h0 0 0 h 40 [(0, .ref a0), (2, .int x2), (3, .ref a3), (4, .int x4)] [] := by
  intro n
  induction n with
  | zero =>
    intro x4 hf
    rw [fX9_busy_L40] at hf
    cases hf
  | succ n ih =>
    intro x4 hf
    rw [fX9_busy_L40] at hf
    refine r_iload K 3 dX9_busy_40 rfl ?_
    refine r_aload_n K 0 dX9_busy_42 rfl ?_
    obtain ⟨b13, e14, hf⟩ := ob1_s hf
    refine r_getR (ci := 9) (k := 0) K dX9_busy_43 inX9 rfl (by decide) rfl q_357 e14 ?_
    obtain ⟨v15, e16, hf⟩ := ob1_s hf
    refine r_getI (ci := 1) (k := 1) K dX9_busy_46 inX1 rfl (by decide) rfl q_154 e16 ?_
    refine r_icmp_ge (tgt := 78) K dX9_busy_49 (by decide) (fun c26 => ?_) (fun c26 => ?_)
    · replace hf := ite_t hf c26
      refine r_lv [] rfl ?_
      exact hk  hf
    · replace hf := ite_f hf c26
      refine r_aload_n K 2 dX9_busy_52 rfl ?_
      refine r_iload K 3 dX9_busy_53 rfl ?_
      refine r_aload_n K 0 dX9_busy_55 rfl ?_
      obtain ⟨b17, e18, hf⟩ := ob1_s hf
      refine r_getR (ci := 9) (k := 0) K dX9_busy_56 inX9 rfl (by decide) rfl q_357 e18 ?_
      obtain ⟨v19, e20, hf⟩ := ob1_s hf
      refine r_getI (ci := 1) (k := 1) K dX9_busy_59 inX1 rfl (by decide) rfl q_154 e20 ?_
      obtain ⟨z21, hf⟩ := gd_s hf
      obtain ⟨r22, e23, hf⟩ := ob1_s hf
      refine r_callV (As := [.int x4, .int v19]) (rest := []) (st1 := [.int r22]) (cells1 := 0) (slots1 := 0) (b := a3) (ci := 5) K (fun z => mX5_busierThan l z e23) dX9_busy_62 rfl (fun _ => isO_of z21) rfl ceX5_busierThan q_724 q_725 q_726 q_81 q_727 ⟨Nat.le_of_ble_eq_true rfl, Nat.le_of_ble_eq_true rfl⟩ (Nat.le_of_ble_eq_true rfl) ⟨Nat.le_of_ble_eq_true rfl, Nat.le_of_ble_eq_true rfl⟩ ?_ rfl rfl rfl rfl
      refine r_iload_n K 1 dX9_busy_65 rfl ?_
      refine r_icmp_ne (tgt := 72) K dX9_busy_66 (by decide) (fun c25 => ?_) (fun c25 => ?_)
      · replace hf := ite_f hf c25
        obtain ⟨y24, ey24, hf⟩ := bnd_g hf
        refine r_iinc (lv1 := [(4, .int y24), (0, .ref a0), (2, .int x2), (3, .ref a3)]) K 3 dX9_busy_72 rfl (by rw [ey24]; rfl) (by decide) rfl ?_
        refine r_goto (tgt := 40) K dX9_busy_75 (by decide) ?_
        refine r_lv [1, 2, 3, 0] rfl ?_
        exact ih y24 hf
      · replace hf := ite_t hf c25
        refine r_iload K 3 dX9_busy_69 rfl ?_
        exact r_iret K dX9_busy_71 hf (Nat.le_of_ble_eq_true rfl) (Nat.le_of_ble_eq_true rfl)
set_option maxHeartbeats 4000000 in
set_option maxRecDepth 100000 in
theorem mX9_busy (l : Launch) {G : GG} {b0 : Nat} {h : AH} {a0 : Nat} {x1 : Int32} {x2 : Int32} {rr : Int32} {hh : AH} (ht : isO h a0 9) (hf : fX9_busy a0 x1 x2 h = some (rr, hh)) : MM l yX9_busy cX9_busy 5 (some .int) rmX9_busy G b0 h [.ref a0, .int x1, .int x2] (some (.int rr)) hh := by
  refine MM.of (own := RX9) (lv0 := [(0, .ref a0), (1, .int x1), (2, .int x2)]) (by decide) rfl (Nat.le_of_ble_eq_true rfl) rfl ?_
  intro p e s m args below meth c K hnm
  unfold fX9_busy at hf
  refine r_iload_n K 1 dX9_busy_0 rfl ?_
  refine r_iconst (v := (3 : Int32)) K dX9_busy_1 (by decide) ?_
  obtain ⟨r1, e2, hf⟩ := ob1_s hf
  refine r_callS (As := [.int x1, .int (3 : Int32)]) (rest := []) (st1 := [.int r1]) (cells1 := 0) (slots1 := 0) K (mX9_isOneOf l e2) dX9_busy_2 ceX9_isOneOf q_431 q_426 q_75 q_427 ⟨Nat.le_of_ble_eq_true rfl, Nat.le_of_ble_eq_true rfl⟩ (Nat.le_of_ble_eq_true rfl) ⟨Nat.le_of_ble_eq_true rfl, Nat.le_of_ble_eq_true rfl⟩ ?_ rfl rfl rfl rfl
  refine r_if_eq (tgt := 19) K dX9_busy_5 (by decide) (fun c29 => ?_) (fun c29 => ?_)
  · replace hf := ite_t hf c29
    refine r_iconst (v := (-1 : Int32)) K dX9_busy_19 (by decide) ?_
    exact r_iret K dX9_busy_20 hf (Nat.le_of_ble_eq_true rfl) (Nat.le_of_ble_eq_true rfl)
  · replace hf := ite_f hf c29
    refine r_aload_n K 0 dX9_busy_8 rfl ?_
    obtain ⟨b3, e4, hf⟩ := ob1_s hf
    refine r_getR (ci := 9) (k := 0) K dX9_busy_9 inX9 rfl (by decide) rfl q_357 e4 ?_
    refine r_iload_n K 2 dX9_busy_12 rfl ?_
    obtain ⟨z5, hf⟩ := gd_s hf
    obtain ⟨r6, e7, hf⟩ := ob1_s hf
    refine r_callV (As := [.int x2]) (rest := []) (st1 := [.int r6]) (cells1 := 0) (slots1 := 0) (b := b3) (ci := 1) K (fun z => mX1_hasRoad l z e7) dX9_busy_13 rfl (fun _ => isO_of z5) rfl ceX1_hasRoad q_448 q_449 q_450 q_76 q_451 ⟨Nat.le_of_ble_eq_true rfl, Nat.le_of_ble_eq_true rfl⟩ (Nat.le_of_ble_eq_true rfl) ⟨Nat.le_of_ble_eq_true rfl, Nat.le_of_ble_eq_true rfl⟩ ?_ rfl rfl rfl rfl
    refine r_if_ne (tgt := 21) K dX9_busy_16 (by decide) (fun c28 => ?_) (fun c28 => ?_)
    · replace hf := ite_f hf c28
      refine r_aload_n K 0 dX9_busy_21 rfl ?_
      refine r_iload_n K 1 dX9_busy_22 rfl ?_
      obtain ⟨b8, g9, e10, hf⟩ := ob2_s hf
      refine r_callV (As := [.int x1]) (rest := []) (st1 := [.ref b8]) (cells1 := 0) (slots1 := 0) (b := a0) (ci := 9) K (fun z => mX9_steadyOf l z e10) dX9_busy_23 rfl (fun z => z _ _ ht) rfl ceX9_steadyOf q_597 q_599 q_12 q_75 q_600 ⟨Nat.le_of_ble_eq_true rfl, Nat.le_of_ble_eq_true rfl⟩ (Nat.le_of_ble_eq_true rfl) ⟨Nat.le_of_ble_eq_true rfl, Nat.le_of_ble_eq_true rfl⟩ ?_ rfl rfl rfl rfl
      refine r_astore_n (lv1 := [(3, .ref b8), (0, .ref a0), (1, .int x1), (2, .int x2)]) K dX9_busy_26 (by decide) rfl ?_
      refine r_aload_n K 0 dX9_busy_27 rfl ?_
      obtain ⟨v11, e12, hf⟩ := ob1_s hf
      refine r_getI (ci := 5) (k := 3) K dX9_busy_28 inX5 rfl (by decide) rfl q_275 e12 ?_
      refine r_if_ne (tgt := 37) K dX9_busy_31 (by decide) (fun c27 => ?_) (fun c27 => ?_)
      · replace hf := ite_f hf c27
        refine r_iconst (v := (0 : Int32)) K dX9_busy_37 (by decide) ?_
        refine r_istore (lv1 := [(4, .int (0 : Int32)), (3, .ref b8), (0, .ref a0), (1, .int x1), (2, .int x2)]) K dX9_busy_38 (by decide) rfl ?_
        refine r_lv [2, 4, 1, 0] rfl ?_
        refine wX9_busy_L40 K ht _ (fun  hf => ?_) lf (0 : Int32) hf
        refine r_iconst (v := (-1 : Int32)) K dX9_busy_78 (by decide) ?_
        exact r_iret K dX9_busy_79 hf (Nat.le_of_ble_eq_true rfl) (Nat.le_of_ble_eq_true rfl)
      · replace hf := ite_t hf c27
        refine r_bipush (v := (-3 : Int32)) K dX9_busy_34 (by decide) ?_
        exact r_iret K dX9_busy_36 hf (Nat.le_of_ble_eq_true rfl) (Nat.le_of_ble_eq_true rfl)
    · replace hf := ite_t hf c28
      refine r_iconst (v := (-1 : Int32)) K dX9_busy_19 (by decide) ?_
      exact r_iret K dX9_busy_20 hf (Nat.le_of_ble_eq_true rfl) (Nat.le_of_ble_eq_true rfl)
theorem ceX9_bestOrNo : CE yX9_bestOrNo 0 := ⟨by decide, by decide, by decide +kernel⟩
abbrev rmX9_bestOrNo : Room := { frames := 4, cells := 0, slots := 0, locals := 97 }
def fX9_bestOrNo (a0 : Nat) (h : AH) : Option (Int64 × AH) :=
  ob1 (gR h a0 9 0) fun b1 =>
  ob2 (fX9_freshPaths a0 h) fun b3 g4 =>
  ob1 (fX5_canAllDrive b1 b3 g4) fun r6 =>
  if r6 = (0 : Int32) then
    some ((-9223372036854775808 : Int64), g4)
  else
    ob1 (gI g4 a0 9 8) fun v8 =>
    bnd (fun (g11 : AH) =>
      ob1 (gR g11 a0 9 7) fun b12 =>
      ob1 (gR g11 b12 0 0) fun b14 =>
      ob1 (gI g11 b14 6 1) fun v16 =>
      if v16 = (0 : Int32) then
        ob1 (gR g11 a0 9 7) fun b18 =>
        ob1 (gR g11 b18 0 0) fun b20 =>
        ob1 (gL g11 b20 6 0) fun v22 =>
        some (v22, g11)
      else
        some ((-9223372036854775808 : Int64), g11)
    ) fun j10 =>
    if v8 = (0 : Int32) then
      ob1 (gR g4 a0 9 7) fun b25 =>
      ob1 (gR g4 a0 9 0) fun b27 =>
      gd (ckO g4 b25 0) <|
      ob1 (fX0_seek b25 b27 g4) fun g30 =>
      ob1 (pV g30 a0 9 8 (.int (1 : Int32))) fun g32 =>
      j10 g32
    else
      j10 g4
set_option maxHeartbeats 4000000 in
set_option maxRecDepth 100000 in
theorem mX9_bestOrNo (l : Launch) {G : GG} {b0 : Nat} {h : AH} {a0 : Nat} {rr : Int64} {hh : AH} (ht : isO h a0 9) (hf : fX9_bestOrNo a0 h = some (rr, hh)) : MM l yX9_bestOrNo cX9_bestOrNo 1 (some .long) rmX9_bestOrNo G b0 h [.ref a0] (some (.long rr)) hh := by
  refine MM.of (own := RX9) (lv0 := [(0, .ref a0)]) (by decide) rfl (Nat.le_of_ble_eq_true rfl) rfl ?_
  intro p e s m args below meth c K hnm
  unfold fX9_bestOrNo at hf
  refine r_aload_n K 0 dX9_bestOrNo_0 rfl ?_
  obtain ⟨b1, e2, hf⟩ := ob1_s hf
  refine r_getR (ci := 9) (k := 0) K dX9_bestOrNo_1 inX9 rfl (by decide) rfl q_357 e2 ?_
  refine r_aload_n K 0 dX9_bestOrNo_4 rfl ?_
  obtain ⟨b3, g4, e5, hf⟩ := ob2_s hf
  refine r_callV (As := []) (rest := [.ref b1]) (st1 := [.ref b3, .ref b1]) (cells1 := 0) (slots1 := 0) (b := a0) (ci := 9) K (fun z => mX9_freshPaths l z e5) dX9_bestOrNo_5 rfl (fun z => z _ _ ht) rfl ceX9_freshPaths q_561 q_563 q_9 q_75 q_564 ⟨Nat.le_of_ble_eq_true rfl, Nat.le_of_ble_eq_true rfl⟩ (Nat.le_of_ble_eq_true rfl) ⟨Nat.le_of_ble_eq_true rfl, Nat.le_of_ble_eq_true rfl⟩ ?_ rfl rfl rfl rfl
  obtain ⟨r6, e7, hf⟩ := ob1_s hf
  refine r_callSN (As := [.ref b1, .ref b3]) (rest := []) (st1 := [.int r6]) (cells1 := 0) (slots1 := 0) K (mX5_canAllDrive l e7) dX9_bestOrNo_8 ceX5_canAllDrive nw_9 q_617 q_81 q_618 ⟨Nat.le_of_ble_eq_true rfl, Nat.le_of_ble_eq_true rfl⟩ (Nat.le_of_ble_eq_true rfl) ⟨Nat.le_of_ble_eq_true rfl, Nat.le_of_ble_eq_true rfl⟩ ?_ rfl rfl rfl rfl
  refine r_if_ne (tgt := 18) K dX9_bestOrNo_11 (by decide) (fun c35 => ?_) (fun c35 => ?_)
  · replace hf := ite_f hf c35
    refine r_aload_n K 0 dX9_bestOrNo_18 rfl ?_
    obtain ⟨v8, e9, hf⟩ := ob1_s hf
    refine r_getI (ci := 9) (k := 8) K dX9_bestOrNo_19 inX9 rfl (by decide) rfl q_365 e9 ?_
    obtain ⟨j10, ej10, hf⟩ := bnd_g hf
    have Jj10 : ∀ (g11 : AH), j10 g11 = some (rr, hh) → WA p l e rmX9_bestOrNo s m args below meth c (MQ below (QG G b0 h (some (.long rr)) hh) args s (rmX9_bestOrNo).cells (rmX9_bestOrNo).slots (AB b0)) G b0 1 h 0 0 g11 41 [(0, .ref a0)] [] := by
      intro g11 hf
      rw [ej10] at hf
      refine r_aload_n K 0 dX9_bestOrNo_41 rfl ?_
      obtain ⟨b12, e13, hf⟩ := ob1_s hf
      refine r_getR (ci := 9) (k := 7) K dX9_bestOrNo_42 inX9 rfl (by decide) rfl q_364 e13 ?_
      obtain ⟨b14, e15, hf⟩ := ob1_s hf
      refine r_getR (ci := 0) (k := 0) K dX9_bestOrNo_45 inX0 rfl (by decide) rfl q_241 e15 ?_
      obtain ⟨v16, e17, hf⟩ := ob1_s hf
      refine r_getI (ci := 6) (k := 1) K dX9_bestOrNo_48 inX6 rfl (by decide) rfl q_233 e17 ?_
      refine r_if_eq (tgt := 60) K dX9_bestOrNo_51 (by decide) (fun c24 => ?_) (fun c24 => ?_)
      · replace hf := ite_t hf c24
        refine r_aload_n K 0 dX9_bestOrNo_60 rfl ?_
        obtain ⟨b18, e19, hf⟩ := ob1_s hf
        refine r_getR (ci := 9) (k := 7) K dX9_bestOrNo_61 inX9 rfl (by decide) rfl q_364 e19 ?_
        obtain ⟨b20, e21, hf⟩ := ob1_s hf
        refine r_getR (ci := 0) (k := 0) K dX9_bestOrNo_64 inX0 rfl (by decide) rfl q_241 e21 ?_
        obtain ⟨v22, e23, hf⟩ := ob1_s hf
        refine r_getL (ci := 6) (k := 0) K dX9_bestOrNo_67 inX6 rfl (by decide) rfl q_230 e23 ?_
        exact r_lret K dX9_bestOrNo_70 hf (Nat.le_of_ble_eq_true rfl) (Nat.le_of_ble_eq_true rfl)
      · replace hf := ite_f hf c24
        refine r_ldc2 K dX9_bestOrNo_54 q_467 ?_
        refine r_goto (tgt := 70) K dX9_bestOrNo_57 (by decide) ?_
        exact r_lret K dX9_bestOrNo_70 hf (Nat.le_of_ble_eq_true rfl) (Nat.le_of_ble_eq_true rfl)
    refine r_if_ne (tgt := 41) K dX9_bestOrNo_22 (by decide) (fun c34 => ?_) (fun c34 => ?_)
    · replace hf := ite_f hf c34
      exact Jj10 g4 hf
    · replace hf := ite_t hf c34
      refine r_aload_n K 0 dX9_bestOrNo_25 rfl ?_
      obtain ⟨b25, e26, hf⟩ := ob1_s hf
      refine r_getR (ci := 9) (k := 7) K dX9_bestOrNo_26 inX9 rfl (by decide) rfl q_364 e26 ?_
      refine r_aload_n K 0 dX9_bestOrNo_29 rfl ?_
      obtain ⟨b27, e28, hf⟩ := ob1_s hf
      refine r_getR (ci := 9) (k := 0) K dX9_bestOrNo_30 inX9 rfl (by decide) rfl q_357 e28 ?_
      obtain ⟨z29, hf⟩ := gd_s hf
      obtain ⟨g30, e31, hf⟩ := ob1_s hf
      refine r_callV (As := [.ref b27]) (rest := []) (st1 := []) (cells1 := 0) (slots1 := 0) (b := b25) (ci := 0) K (fun z => mX0_seek l z e31) dX9_bestOrNo_33 rfl (fun _ => isO_of z29) rfl ceX0_seek q_737 q_738 q_739 q_79 q_740 ⟨Nat.le_of_ble_eq_true rfl, Nat.le_of_ble_eq_true rfl⟩ (Nat.le_of_ble_eq_true rfl) ⟨Nat.le_of_ble_eq_true rfl, Nat.le_of_ble_eq_true rfl⟩ ?_ rfl rfl rfl rfl
      refine r_aload_n K 0 dX9_bestOrNo_36 rfl ?_
      refine r_iconst (v := (1 : Int32)) K dX9_bestOrNo_37 (by decide) ?_
      obtain ⟨g32, e33, hf⟩ := ob1_s hf
      refine r_putV (ci := 9) (k := 8) (ty0 := tyX9) (ty := tyX9 8) K dX9_bestOrNo_38 inX9 rfl (by decide) rfl q_365 tyX9_ok nmX9 rfl rfl rfl rfl e33 ?_
      exact Jj10 g32 hf
  · replace hf := ite_t hf c35
    refine r_ldc2 K dX9_bestOrNo_14 q_467 ?_
    exact r_lret K dX9_bestOrNo_17 hf (Nat.le_of_ble_eq_true rfl) (Nat.le_of_ble_eq_true rfl)
