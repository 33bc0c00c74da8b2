theorem ceX10_is : CE yX10_is 1 := ⟨by decide, by decide, by decide +kernel⟩
abbrev rmX10_is : Room := { frames := 10, cells := 0, slots := 0, locals := 251 }
def fX10_is (a0 : Nat) (x1 : Int32) (h : AH) : Option (Int32 × AH) :=
  ob1 (fX10_isMode x1) fun r1 =>
  if r1 = (0 : Int32) then
    some ((-1 : Int32), h)
  else
    ob2 (fX10_totalBy a0 x1 h) fun r3 g4 =>
    if (0 : Int64) ≤ r3 then
      some ((1 : Int32), g4)
    else
      some (Int64.toInt32 r3, g4)
set_option maxHeartbeats 4000000 in
set_option maxRecDepth 100000 in
theorem mX10_is (l : Launch) {G : GG} {b0 : Nat} {h : AH} {a0 : Nat} {x1 : Int32} {rr : Int32} {hh : AH} (ht : isO h a0 10) (hf : fX10_is a0 x1 h = some (rr, hh)) : MM l yX10_is cX10_is 4 (some .int) rmX10_is G b0 h [.ref a0, .int x1] (some (.int rr)) hh := by
  refine MM.of (own := RX10) (lv0 := [(0, .ref a0), (1, .int x1)]) (by decide) rfl (Nat.le_of_ble_eq_true rfl) rfl ?_
  intro p e s m args below meth c K hnm
  unfold fX10_is at hf
  refine r_iload_n K 1 dX10_is_0 rfl ?_
  obtain ⟨r1, e2, hf⟩ := ob1_s hf
  refine r_callS (As := [.int x1]) (rest := []) (st1 := [.int r1]) (cells1 := 0) (slots1 := 0) K (mX10_isMode l e2) dX10_is_1 ceX10_isMode q_1158 q_1159 q_85 q_1160 ⟨Nat.le_of_ble_eq_true rfl, Nat.le_of_ble_eq_true rfl⟩ (Nat.le_of_ble_eq_true rfl) ⟨Nat.le_of_ble_eq_true rfl, Nat.le_of_ble_eq_true rfl⟩ ?_ rfl rfl rfl rfl
  refine r_if_ne (tgt := 9) K dX10_is_4 (by decide) (fun c7 => ?_) (fun c7 => ?_)
  · replace hf := ite_f hf c7
    refine r_aload_n K 0 dX10_is_9 rfl ?_
    refine r_iload_n K 1 dX10_is_10 rfl ?_
    obtain ⟨r3, g4, e5, hf⟩ := ob2_s hf
    refine r_callV (As := [.int x1]) (rest := []) (st1 := [.long r3]) (cells1 := 0) (slots1 := 0) (b := a0) (ci := 10) K (fun z => mX10_totalBy l z e5) dX10_is_11 rfl (fun z => z _ _ ht) rfl ceX10_totalBy q_1161 q_1163 q_49 q_85 q_1164 ⟨Nat.le_of_ble_eq_true rfl, Nat.le_of_ble_eq_true rfl⟩ (Nat.le_of_ble_eq_true rfl) ⟨Nat.le_of_ble_eq_true rfl, Nat.le_of_ble_eq_true rfl⟩ ?_ rfl rfl rfl rfl
    refine r_lstore_n (lv1 := [(2, .long r3), (0, .ref a0), (1, .int x1)]) K dX10_is_14 (by decide) rfl ?_
    refine r_lload_n K 0 dX10_is_15 rfl ?_
    refine r_lconst (v := (0 : Int64)) K dX10_is_16 (by decide) ?_
    refine r_lif_ge (tgt := 26) K dX10_is_17 dX10_is_18 (by decide) (fun c6 => ?_) (fun c6 => ?_)
    · replace hf := ite_t hf c6
      refine r_iconst (v := (1 : Int32)) K dX10_is_26 (by decide) ?_
      exact r_iret K dX10_is_27 hf (Nat.le_of_ble_eq_true rfl) (Nat.le_of_ble_eq_true rfl)
    · replace hf := ite_f hf c6
      refine r_lload_n K 0 dX10_is_21 rfl ?_
      refine r_l2i K dX10_is_22 ?_
      refine r_goto (tgt := 27) K dX10_is_23 (by decide) ?_
      exact r_iret K dX10_is_27 hf (Nat.le_of_ble_eq_true rfl) (Nat.le_of_ble_eq_true rfl)
  · replace hf := ite_t hf c7
    refine r_iconst (v := (-1 : Int32)) K dX10_is_7 (by decide) ?_
    exact r_iret K dX10_is_8 hf (Nat.le_of_ble_eq_true rfl) (Nat.le_of_ble_eq_true rfl)
theorem ceX10_load : CE yX10_load 2 := ⟨by decide, by decide, by decide +kernel⟩
abbrev rmX10_load : Room := { frames := 9, cells := 0, slots := 0, locals := 230 }
def fX10_load (a0 : Nat) (x1 : Int32) (x2 : Int32) (h : AH) : Option (Int32 × AH) :=
  ob1 (fX10_isMode x1) fun r1 =>
  if r1 = (0 : Int32) then
    some ((-1 : Int32), h)
  else
    ob1 (fX10_isRoad a0 x2 h) fun r3 =>
    if r3 = (0 : Int32) then
      some ((-1 : Int32), h)
    else
      ob2 (fX10_steady a0 x1 h) fun r5 g6 =>
      if r5 = (0 : Int32) then
        some ((-3 : Int32), g6)
      else
        ob1 (gR g6 a0 10 16) fun b8 =>
        ob1 (aI g6 b8 0 x2) fun v10 =>
        some (v10, g6)
set_option maxHeartbeats 4000000 in
set_option maxRecDepth 100000 in
theorem mX10_load (l : Launch) {G : GG} {b0 : Nat} {h : AH} {a0 : Nat} {x1 : Int32} {x2 : Int32} {rr : Int32} {hh : AH} (ht : isO h a0 10) (hf : fX10_load a0 x1 x2 h = some (rr, hh)) : MM l yX10_load cX10_load 3 (some .int) rmX10_load G b0 h [.ref a0, .int x1, .int x2] (some (.int rr)) hh := by
  refine MM.of (own := RX10) (lv0 := [(0, .ref a0), (1, .int x1), (2, .int x2)]) (by decide) rfl (Nat.le_of_ble_eq_true rfl) rfl ?_
  intro p e s m args below meth c K hnm
  unfold fX10_load at hf
  refine r_iload_n K 1 dX10_load_0 rfl ?_
  obtain ⟨r1, e2, hf⟩ := ob1_s hf
  refine r_callS (As := [.int x1]) (rest := []) (st1 := [.int r1]) (cells1 := 0) (slots1 := 0) K (mX10_isMode l e2) dX10_load_1 ceX10_isMode q_1158 q_1159 q_85 q_1160 ⟨Nat.le_of_ble_eq_true rfl, Nat.le_of_ble_eq_true rfl⟩ (Nat.le_of_ble_eq_true rfl) ⟨Nat.le_of_ble_eq_true rfl, Nat.le_of_ble_eq_true rfl⟩ ?_ rfl rfl rfl rfl
  refine r_if_eq (tgt := 15) K dX10_load_4 (by decide) (fun c14 => ?_) (fun c14 => ?_)
  · replace hf := ite_t hf c14
    refine r_iconst (v := (-1 : Int32)) K dX10_load_15 (by decide) ?_
    exact r_iret K dX10_load_16 hf (Nat.le_of_ble_eq_true rfl) (Nat.le_of_ble_eq_true rfl)
  · replace hf := ite_f hf c14
    refine r_aload_n K 0 dX10_load_7 rfl ?_
    refine r_iload_n K 2 dX10_load_8 rfl ?_
    obtain ⟨r3, e4, hf⟩ := ob1_s hf
    refine r_callV (As := [.int x2]) (rest := []) (st1 := [.int r3]) (cells1 := 0) (slots1 := 0) (b := a0) (ci := 10) K (fun z => mX10_isRoad l z e4) dX10_load_9 rfl (fun z => z _ _ ht) rfl ceX10_isRoad q_1036 q_1038 q_34 q_85 q_1039 ⟨Nat.le_of_ble_eq_true rfl, Nat.le_of_ble_eq_true rfl⟩ (Nat.le_of_ble_eq_true rfl) ⟨Nat.le_of_ble_eq_true rfl, Nat.le_of_ble_eq_true rfl⟩ ?_ rfl rfl rfl rfl
    refine r_if_ne (tgt := 17) K dX10_load_12 (by decide) (fun c13 => ?_) (fun c13 => ?_)
    · replace hf := ite_f hf c13
      refine r_aload_n K 0 dX10_load_17 rfl ?_
      refine r_iload_n K 1 dX10_load_18 rfl ?_
      obtain ⟨r5, g6, e7, hf⟩ := ob2_s hf
      refine r_callV (As := [.int x1]) (rest := []) (st1 := [.int r5]) (cells1 := 0) (slots1 := 0) (b := a0) (ci := 10) K (fun z => mX10_steady l z e7) dX10_load_19 rfl (fun z => z _ _ ht) rfl ceX10_steady q_1165 q_1167 q_50 q_85 q_1168 ⟨Nat.le_of_ble_eq_true rfl, Nat.le_of_ble_eq_true rfl⟩ (Nat.le_of_ble_eq_true rfl) ⟨Nat.le_of_ble_eq_true rfl, Nat.le_of_ble_eq_true rfl⟩ ?_ rfl rfl rfl rfl
      refine r_if_eq (tgt := 34) K dX10_load_22 (by decide) (fun c12 => ?_) (fun c12 => ?_)
      · replace hf := ite_t hf c12
        refine r_bipush (v := (-3 : Int32)) K dX10_load_34 (by decide) ?_
        exact r_iret K dX10_load_36 hf (Nat.le_of_ble_eq_true rfl) (Nat.le_of_ble_eq_true rfl)
      · replace hf := ite_f hf c12
        refine r_aload_n K 0 dX10_load_25 rfl ?_
        obtain ⟨b8, e9, hf⟩ := ob1_s hf
        refine r_getR (ci := 10) (k := 16) K dX10_load_26 inX10 rfl (by decide) rfl q_922 e9 ?_
        refine r_iload_n K 2 dX10_load_29 rfl ?_
        obtain ⟨v10, e11, hf⟩ := ob1_s hf
        refine r_iaload K dX10_load_30 e11 ?_
        refine r_goto (tgt := 36) K dX10_load_31 (by decide) ?_
        exact r_iret K dX10_load_36 hf (Nat.le_of_ble_eq_true rfl) (Nat.le_of_ble_eq_true rfl)
    · replace hf := ite_t hf c13
      refine r_iconst (v := (-1 : Int32)) K dX10_load_15 (by decide) ?_
      exact r_iret K dX10_load_16 hf (Nat.le_of_ble_eq_true rfl) (Nat.le_of_ble_eq_true rfl)
theorem ceX10_on : CE yX10_on 3 := ⟨by decide, by decide, by decide +kernel⟩
abbrev rmX10_on : Room := { frames := 9, cells := 0, slots := 0, locals := 230 }
def fX10_on (a0 : Nat) (x1 : Int32) (x2 : Int32) (x3 : Int32) (h : AH) : Option (Int32 × AH) :=
  ob1 (fX10_isMode x1) fun r1 =>
  if r1 = (0 : Int32) then
    some ((-1 : Int32), h)
  else
    ob2 (fX10_isWay a0 x2 x3 h) fun r3 g4 =>
    if r3 = (0 : Int32) then
      some ((-1 : Int32), g4)
    else
      ob2 (fX10_steady a0 x1 g4) fun r6 g7 =>
      if r6 = (0 : Int32) then
        some ((-3 : Int32), g7)
      else
        ob1 (gR g7 a0 10 17) fun b9 =>
        ob1 (aI g7 b9 0 (((256 : Int32) * x2) + x3)) fun v11 =>
        some (v11, g7)
set_option maxHeartbeats 4000000 in
set_option maxRecDepth 100000 in
theorem mX10_on (l : Launch) {G : GG} {b0 : Nat} {h : AH} {a0 : Nat} {x1 : Int32} {x2 : Int32} {x3 : Int32} {rr : Int32} {hh : AH} (ht : isO h a0 10) (hf : fX10_on a0 x1 x2 x3 h = some (rr, hh)) : MM l yX10_on cX10_on 4 (some .int) rmX10_on G b0 h [.ref a0, .int x1, .int x2, .int x3] (some (.int rr)) hh := by
  refine MM.of (own := RX10) (lv0 := [(0, .ref a0), (1, .int x1), (2, .int x2), (3, .int x3)]) (by decide) rfl (Nat.le_of_ble_eq_true rfl) rfl ?_
  intro p e s m args below meth c K hnm
  unfold fX10_on at hf
  refine r_iload_n K 1 dX10_on_0 rfl ?_
  obtain ⟨r1, e2, hf⟩ := ob1_s hf
  refine r_callS (As := [.int x1]) (rest := []) (st1 := [.int r1]) (cells1 := 0) (slots1 := 0) K (mX10_isMode l e2) dX10_on_1 ceX10_isMode q_1158 q_1159 q_85 q_1160 ⟨Nat.le_of_ble_eq_true rfl, Nat.le_of_ble_eq_true rfl⟩ (Nat.le_of_ble_eq_true rfl) ⟨Nat.le_of_ble_eq_true rfl, Nat.le_of_ble_eq_true rfl⟩ ?_ rfl rfl rfl rfl
  refine r_if_eq (tgt := 16) K dX10_on_4 (by decide) (fun c15 => ?_) (fun c15 => ?_)
  · replace hf := ite_t hf c15
    refine r_iconst (v := (-1 : Int32)) K dX10_on_16 (by decide) ?_
    exact r_iret K dX10_on_17 hf (Nat.le_of_ble_eq_true rfl) (Nat.le_of_ble_eq_true rfl)
  · replace hf := ite_f hf c15
    refine r_aload_n K 0 dX10_on_7 rfl ?_
    refine r_iload_n K 2 dX10_on_8 rfl ?_
    refine r_iload_n K 3 dX10_on_9 rfl ?_
    obtain ⟨r3, g4, e5, hf⟩ := ob2_s hf
    refine r_callV (As := [.int x2, .int x3]) (rest := []) (st1 := [.int r3]) (cells1 := 0) (slots1 := 0) (b := a0) (ci := 10) K (fun z => mX10_isWay l z e5) dX10_on_10 rfl (fun z => z _ _ ht) rfl ceX10_isWay q_1150 q_1152 q_48 q_85 q_1153 ⟨Nat.le_of_ble_eq_true rfl, Nat.le_of_ble_eq_true rfl⟩ (Nat.le_of_ble_eq_true rfl) ⟨Nat.le_of_ble_eq_true rfl, Nat.le_of_ble_eq_true rfl⟩ ?_ rfl rfl rfl rfl
    refine r_if_ne (tgt := 18) K dX10_on_13 (by decide) (fun c14 => ?_) (fun c14 => ?_)
    · replace hf := ite_f hf c14
      refine r_aload_n K 0 dX10_on_18 rfl ?_
      refine r_iload_n K 1 dX10_on_19 rfl ?_
      obtain ⟨r6, g7, e8, hf⟩ := ob2_s hf
      refine r_callV (As := [.int x1]) (rest := []) (st1 := [.int r6]) (cells1 := 0) (slots1 := 0) (b := a0) (ci := 10) K (fun z => mX10_steady l z e8) dX10_on_20 rfl (fun z => z _ _ ht) rfl ceX10_steady q_1165 q_1167 q_50 q_85 q_1168 ⟨Nat.le_of_ble_eq_true rfl, Nat.le_of_ble_eq_true rfl⟩ (Nat.le_of_ble_eq_true rfl) ⟨Nat.le_of_ble_eq_true rfl, Nat.le_of_ble_eq_true rfl⟩ ?_ rfl rfl rfl rfl
      refine r_if_eq (tgt := 41) K dX10_on_23 (by decide) (fun c13 => ?_) (fun c13 => ?_)
      · replace hf := ite_t hf c13
        refine r_bipush (v := (-3 : Int32)) K dX10_on_41 (by decide) ?_
        exact r_iret K dX10_on_43 hf (Nat.le_of_ble_eq_true rfl) (Nat.le_of_ble_eq_true rfl)
      · replace hf := ite_f hf c13
        refine r_aload_n K 0 dX10_on_26 rfl ?_
        obtain ⟨b9, e10, hf⟩ := ob1_s hf
        refine r_getR (ci := 10) (k := 17) K dX10_on_27 inX10 rfl (by decide) rfl q_923 e10 ?_
        refine r_sipush (v := (256 : Int32)) K dX10_on_30 (by decide) ?_
        refine r_iload_n K 2 dX10_on_33 rfl ?_
        refine r_imul K dX10_on_34 ?_
        refine r_iload_n K 3 dX10_on_35 rfl ?_
        refine r_iadd K dX10_on_36 ?_
        obtain ⟨v11, e12, hf⟩ := ob1_s hf
        refine r_iaload K dX10_on_37 e12 ?_
        refine r_goto (tgt := 43) K dX10_on_38 (by decide) ?_
        exact r_iret K dX10_on_43 hf (Nat.le_of_ble_eq_true rfl) (Nat.le_of_ble_eq_true rfl)
    · replace hf := ite_t hf c14
      refine r_iconst (v := (-1 : Int32)) K dX10_on_16 (by decide) ?_
      exact r_iret K dX10_on_17 hf (Nat.le_of_ble_eq_true rfl) (Nat.le_of_ble_eq_true rfl)
theorem ceX10_steps : CE yX10_steps 1 := ⟨by decide, by decide, by decide +kernel⟩
abbrev rmX10_steps : Room := { frames := 9, cells := 0, slots := 0, locals := 230 }
def fX10_steps (a0 : Nat) (x1 : Int32) (h : AH) : Option (Int32 × AH) :=
  ob1 (fX10_isMode x1) fun r1 =>
  if r1 = (0 : Int32) then
    some ((-1 : Int32), h)
  else
    ob2 (fX10_steady a0 x1 h) fun r3 g4 =>
    if r3 = (0 : Int32) then
      some ((-3 : Int32), g4)
    else
      ob1 (gI g4 a0 10 18) fun v6 =>
      some (v6, g4)
set_option maxHeartbeats 4000000 in
set_option maxRecDepth 100000 in
theorem mX10_steps (l : Launch) {G : GG} {b0 : Nat} {h : AH} {a0 : Nat} {x1 : Int32} {rr : Int32} {hh : AH} (ht : isO h a0 10) (hf : fX10_steps a0 x1 h = some (rr, hh)) : MM l yX10_steps cX10_steps 2 (some .int) rmX10_steps G b0 h [.ref a0, .int x1] (some (.int rr)) hh := by
  refine MM.of (own := RX10) (lv0 := [(0, .ref a0), (1, .int x1)]) (by decide) rfl (Nat.le_of_ble_eq_true rfl) rfl ?_
  intro p e s m args below meth c K hnm
  unfold fX10_steps at hf
  refine r_iload_n K 1 dX10_steps_0 rfl ?_
  obtain ⟨r1, e2, hf⟩ := ob1_s hf
  refine r_callS (As := [.int x1]) (rest := []) (st1 := [.int r1]) (cells1 := 0) (slots1 := 0) K (mX10_isMode l e2) dX10_steps_1 ceX10_isMode q_1158 q_1159 q_85 q_1160 ⟨Nat.le_of_ble_eq_true rfl, Nat.le_of_ble_eq_true rfl⟩ (Nat.le_of_ble_eq_true rfl) ⟨Nat.le_of_ble_eq_true rfl, Nat.le_of_ble_eq_true rfl⟩ ?_ rfl rfl rfl rfl
  refine r_if_ne (tgt := 9) K dX10_steps_4 (by decide) (fun c9 => ?_) (fun c9 => ?_)
  · replace hf := ite_f hf c9
    refine r_aload_n K 0 dX10_steps_9 rfl ?_
    refine r_iload_n K 1 dX10_steps_10 rfl ?_
    obtain ⟨r3, g4, e5, hf⟩ := ob2_s hf
    refine r_callV (As := [.int x1]) (rest := []) (st1 := [.int r3]) (cells1 := 0) (slots1 := 0) (b := a0) (ci := 10) K (fun z => mX10_steady l z e5) dX10_steps_11 rfl (fun z => z _ _ ht) rfl ceX10_steady q_1165 q_1167 q_50 q_85 q_1168 ⟨Nat.le_of_ble_eq_true rfl, Nat.le_of_ble_eq_true rfl⟩ (Nat.le_of_ble_eq_true rfl) ⟨Nat.le_of_ble_eq_true rfl, Nat.le_of_ble_eq_true rfl⟩ ?_ rfl rfl rfl rfl
    refine r_if_eq (tgt := 24) K dX10_steps_14 (by decide) (fun c8 => ?_) (fun c8 => ?_)
    · replace hf := ite_t hf c8
      refine r_bipush (v := (-3 : Int32)) K dX10_steps_24 (by decide) ?_
      exact r_iret K dX10_steps_26 hf (Nat.le_of_ble_eq_true rfl) (Nat.le_of_ble_eq_true rfl)
    · replace hf := ite_f hf c8
      refine r_aload_n K 0 dX10_steps_17 rfl ?_
      obtain ⟨v6, e7, hf⟩ := ob1_s hf
      refine r_getI (ci := 10) (k := 18) K dX10_steps_18 inX10 rfl (by decide) rfl q_924 e7 ?_
      refine r_goto (tgt := 26) K dX10_steps_21 (by decide) ?_
      exact r_iret K dX10_steps_26 hf (Nat.le_of_ble_eq_true rfl) (Nat.le_of_ble_eq_true rfl)
  · replace hf := ite_t hf c9
    refine r_iconst (v := (-1 : Int32)) K dX10_steps_7 (by decide) ?_
    exact r_iret K dX10_steps_8 hf (Nat.le_of_ble_eq_true rfl) (Nat.le_of_ble_eq_true rfl)
theorem ceX10_total : CE yX10_total 1 := ⟨by decide, by decide, by decide +kernel⟩
abbrev rmX10_total : Room := { frames := 10, cells := 0, slots := 0, locals := 251 }
def fX10_total (a0 : Nat) (x1 : Int32) (h : AH) : Option (Int64 × AH) :=
  ob1 (fX10_isMode x1) fun r1 =>
  bnd (fun (v4 : Int64) (g5 : AH) =>
    if (0 : Int64) ≤ v4 then
      some (v4, g5)
    else
      some ((-9223372036854775808 : Int64), g5)
  ) fun j3 =>
  if r1 = (0 : Int32) then
    j3 (-1 : Int64) h
  else
    ob2 (fX10_totalBy a0 x1 h) fun r7 g8 =>
    j3 r7 g8
set_option maxHeartbeats 4000000 in
set_option maxRecDepth 100000 in
theorem mX10_total (l : Launch) {G : GG} {b0 : Nat} {h : AH} {a0 : Nat} {x1 : Int32} {rr : Int64} {hh : AH} (ht : isO h a0 10) (hf : fX10_total a0 x1 h = some (rr, hh)) : MM l yX10_total cX10_total 4 (some .long) rmX10_total G b0 h [.ref a0, .int x1] (some (.long rr)) hh := by
  refine MM.of (own := RX10) (lv0 := [(0, .ref a0), (1, .int x1)]) (by decide) rfl (Nat.le_of_ble_eq_true rfl) rfl ?_
  intro p e s m args below meth c K hnm
  unfold fX10_total at hf
  refine r_iload_n K 1 dX10_total_0 rfl ?_
  obtain ⟨r1, e2, hf⟩ := ob1_s hf
  refine r_callS (As := [.int x1]) (rest := []) (st1 := [.int r1]) (cells1 := 0) (slots1 := 0) K (mX10_isMode l e2) dX10_total_1 ceX10_isMode q_1158 q_1159 q_85 q_1160 ⟨Nat.le_of_ble_eq_true rfl, Nat.le_of_ble_eq_true rfl⟩ (Nat.le_of_ble_eq_true rfl) ⟨Nat.le_of_ble_eq_true rfl, Nat.le_of_ble_eq_true rfl⟩ ?_ rfl rfl rfl rfl
  obtain ⟨j3, ej3, hf⟩ := bnd_g hf
  have Jj3 : ∀ (v4 : Int64) (g5 : AH), j3 v4 g5 = some (rr, hh) → WA p l e rmX10_total s m args below meth c (MQ below (QG G b0 h (some (.long rr)) hh) args s (rmX10_total).cells (rmX10_total).slots (AB b0)) G b0 4 h 0 0 g5 18 [] [.long v4] := by
    intro v4 g5 hf
    rw [ej3] at hf
    refine r_lstore_n (lv1 := [(2, .long v4)]) K dX10_total_18 (by decide) rfl ?_
    refine r_lload_n K 0 dX10_total_19 rfl ?_
    refine r_lconst (v := (0 : Int64)) K dX10_total_20 (by decide) ?_
    refine r_lif_ge (tgt := 31) K dX10_total_21 dX10_total_22 (by decide) (fun c6 => ?_) (fun c6 => ?_)
    · replace hf := ite_t hf c6
      refine r_lload_n K 0 dX10_total_31 rfl ?_
      exact r_lret K dX10_total_32 hf (Nat.le_of_ble_eq_true rfl) (Nat.le_of_ble_eq_true rfl)
    · replace hf := ite_f hf c6
      refine r_ldc2 K dX10_total_25 q_1060 ?_
      refine r_goto (tgt := 32) K dX10_total_28 (by decide) ?_
      exact r_lret K dX10_total_32 hf (Nat.le_of_ble_eq_true rfl) (Nat.le_of_ble_eq_true rfl)
  refine r_if_eq (tgt := 15) K dX10_total_4 (by decide) (fun c10 => ?_) (fun c10 => ?_)
  · replace hf := ite_t hf c10
    refine r_ldc2 K dX10_total_15 q_1048 ?_
    refine r_lv [] rfl ?_
    exact Jj3 (-1 : Int64) h hf
  · replace hf := ite_f hf c10
    refine r_aload_n K 0 dX10_total_7 rfl ?_
    refine r_iload_n K 1 dX10_total_8 rfl ?_
    obtain ⟨r7, g8, e9, hf⟩ := ob2_s hf
    refine r_callV (As := [.int x1]) (rest := []) (st1 := [.long r7]) (cells1 := 0) (slots1 := 0) (b := a0) (ci := 10) K (fun z => mX10_totalBy l z e9) dX10_total_9 rfl (fun z => z _ _ ht) rfl ceX10_totalBy q_1161 q_1163 q_49 q_85 q_1164 ⟨Nat.le_of_ble_eq_true rfl, Nat.le_of_ble_eq_true rfl⟩ (Nat.le_of_ble_eq_true rfl) ⟨Nat.le_of_ble_eq_true rfl, Nat.le_of_ble_eq_true rfl⟩ ?_ rfl rfl rfl rfl
    refine r_goto (tgt := 18) K dX10_total_12 (by decide) ?_
    refine r_lv [] rfl ?_
    exact Jj3 r7 g8 hf
theorem ceX10_price : CE yX10_price 4 := ⟨by decide, by decide, by decide +kernel⟩
abbrev rmX10_price : Room := { frames := 9, cells := 0, slots := 0, locals := 230 }
def fX10_price (a0 : Nat) (x1 : Int32) (x2 : Int32) (x3 : Int32) (x4 : Int32) (h : AH) : Option (Int64 × AH) :=
  ob1 (fX10_isMode x1) fun r1 =>
  if r1 = (0 : Int32) then
    some ((-9223372036854775808 : Int64), h)
  else
    ob2 (fX10_isWay a0 x2 x3 h) fun r3 g4 =>
    if r3 = (0 : Int32) then
      some ((-9223372036854775808 : Int64), g4)
    else
      ob1 (fX10_in (Int32.toInt64 x4) (0 : Int64) (1 : Int64)) fun r6 =>
      if r6 = (0 : Int32) then
        some ((-9223372036854775808 : Int64), g4)
      else
        ob2 (fX10_steady a0 x1 g4) fun r8 g9 =>
        if r8 = (0 : Int32) then
          some ((-9223372036854775808 : Int64), g9)
        else
          if x4 = (0 : Int32) then
            ob1 (fX10_priceNow a0 x1 x2 x3 g9) fun r13 =>
            some (r13, g9)
          else
            ob1 (fX10_priceMore a0 x1 x2 x3 g9) fun r11 =>
            some (r11, g9)
set_option maxHeartbeats 4000000 in
set_option maxRecDepth 100000 in
theorem mX10_price (l : Launch) {G : GG} {b0 : Nat} {h : AH} {a0 : Nat} {x1 : Int32} {x2 : Int32} {x3 : Int32} {x4 : Int32} {rr : Int64} {hh : AH} (ht : isO h a0 10) (hf : fX10_price a0 x1 x2 x3 x4 h = some (rr, hh)) : MM l yX10_price cX10_price 5 (some .long) rmX10_price G b0 h [.ref a0, .int x1, .int x2, .int x3, .int x4] (some (.long rr)) hh := by
  refine MM.of (own := RX10) (lv0 := [(0, .ref a0), (1, .int x1), (2, .int x2), (3, .int x3), (4, .int x4)]) (by decide) rfl (Nat.le_of_ble_eq_true rfl) rfl ?_
  intro p e s m args below meth c K hnm
  unfold fX10_price at hf
  refine r_iload_n K 1 dX10_price_0 rfl ?_
  obtain ⟨r1, e2, hf⟩ := ob1_s hf
  refine r_callS (As := [.int x1]) (rest := []) (st1 := [.int r1]) (cells1 := 0) (slots1 := 0) K (mX10_isMode l e2) dX10_price_1 ceX10_isMode q_1158 q_1159 q_85 q_1160 ⟨Nat.le_of_ble_eq_true rfl, Nat.le_of_ble_eq_true rfl⟩ (Nat.le_of_ble_eq_true rfl) ⟨Nat.le_of_ble_eq_true rfl, Nat.le_of_ble_eq_true rfl⟩ ?_ rfl rfl rfl rfl
  refine r_if_eq (tgt := 35) K dX10_price_4 (by decide) (fun c19 => ?_) (fun c19 => ?_)
  · replace hf := ite_t hf c19
    refine r_ldc2 K dX10_price_35 q_1060 ?_
    exact r_lret K dX10_price_38 hf (Nat.le_of_ble_eq_true rfl) (Nat.le_of_ble_eq_true rfl)
  · replace hf := ite_f hf c19
    refine r_aload_n K 0 dX10_price_7 rfl ?_
    refine r_iload_n K 2 dX10_price_8 rfl ?_
    refine r_iload_n K 3 dX10_price_9 rfl ?_
    obtain ⟨r3, g4, e5, hf⟩ := ob2_s hf
    refine r_callV (As := [.int x2, .int x3]) (rest := []) (st1 := [.int r3]) (cells1 := 0) (slots1 := 0) (b := a0) (ci := 10) K (fun z => mX10_isWay l z e5) dX10_price_10 rfl (fun z => z _ _ ht) rfl ceX10_isWay q_1150 q_1152 q_48 q_85 q_1153 ⟨Nat.le_of_ble_eq_true rfl, Nat.le_of_ble_eq_true rfl⟩ (Nat.le_of_ble_eq_true rfl) ⟨Nat.le_of_ble_eq_true rfl, Nat.le_of_ble_eq_true rfl⟩ ?_ rfl rfl rfl rfl
    refine r_if_eq (tgt := 35) K dX10_price_13 (by decide) (fun c18 => ?_) (fun c18 => ?_)
    · replace hf := ite_t hf c18
      refine r_ldc2 K dX10_price_35 q_1060 ?_
      exact r_lret K dX10_price_38 hf (Nat.le_of_ble_eq_true rfl) (Nat.le_of_ble_eq_true rfl)
    · replace hf := ite_f hf c18
      refine r_iload K 4 dX10_price_16 rfl ?_
      refine r_i2l K dX10_price_18 ?_
      refine r_lconst (v := (0 : Int64)) K dX10_price_19 (by decide) ?_
      refine r_lconst (v := (1 : Int64)) K dX10_price_20 (by decide) ?_
      obtain ⟨r6, e7, hf⟩ := ob1_s hf
      refine r_callS (As := [.long (Int32.toInt64 x4), .long (0 : Int64), .long (1 : Int64)]) (rest := []) (st1 := [.int r6]) (cells1 := 0) (slots1 := 0) K (mX10_in l e7) dX10_price_21 ceX10_in q_1005 q_1006 q_85 q_1007 ⟨Nat.le_of_ble_eq_true rfl, Nat.le_of_ble_eq_true rfl⟩ (Nat.le_of_ble_eq_true rfl) ⟨Nat.le_of_ble_eq_true rfl, Nat.le_of_ble_eq_true rfl⟩ ?_ rfl rfl rfl rfl
      refine r_if_eq (tgt := 35) K dX10_price_24 (by decide) (fun c17 => ?_) (fun c17 => ?_)
      · replace hf := ite_t hf c17
        refine r_ldc2 K dX10_price_35 q_1060 ?_
        exact r_lret K dX10_price_38 hf (Nat.le_of_ble_eq_true rfl) (Nat.le_of_ble_eq_true rfl)
      · replace hf := ite_f hf c17
        refine r_aload_n K 0 dX10_price_27 rfl ?_
        refine r_iload_n K 1 dX10_price_28 rfl ?_
        obtain ⟨r8, g9, e10, hf⟩ := ob2_s hf
        refine r_callV (As := [.int x1]) (rest := []) (st1 := [.int r8]) (cells1 := 0) (slots1 := 0) (b := a0) (ci := 10) K (fun z => mX10_steady l z e10) dX10_price_29 rfl (fun z => z _ _ ht) rfl ceX10_steady q_1165 q_1167 q_50 q_85 q_1168 ⟨Nat.le_of_ble_eq_true rfl, Nat.le_of_ble_eq_true rfl⟩ (Nat.le_of_ble_eq_true rfl) ⟨Nat.le_of_ble_eq_true rfl, Nat.le_of_ble_eq_true rfl⟩ ?_ rfl rfl rfl rfl
        refine r_if_ne (tgt := 39) K dX10_price_32 (by decide) (fun c16 => ?_) (fun c16 => ?_)
        · replace hf := ite_f hf c16
          refine r_iload K 4 dX10_price_39 rfl ?_
          refine r_if_ne (tgt := 54) K dX10_price_41 (by decide) (fun c15 => ?_) (fun c15 => ?_)
          · replace hf := ite_f hf c15
            refine r_aload_n K 0 dX10_price_54 rfl ?_
            refine r_iload_n K 1 dX10_price_55 rfl ?_
            refine r_iload_n K 2 dX10_price_56 rfl ?_
            refine r_iload_n K 3 dX10_price_57 rfl ?_
            obtain ⟨r11, e12, hf⟩ := ob1_s hf
            refine r_callV (As := [.int x1, .int x2, .int x3]) (rest := []) (st1 := [.long r11]) (cells1 := 0) (slots1 := 0) (b := a0) (ci := 10) K (fun z => mX10_priceMore l z e12) dX10_price_58 rfl (fun z => z _ _ ht) rfl ceX10_priceMore q_1178 q_1180 q_53 q_85 q_1181 ⟨Nat.le_of_ble_eq_true rfl, Nat.le_of_ble_eq_true rfl⟩ (Nat.le_of_ble_eq_true rfl) ⟨Nat.le_of_ble_eq_true rfl, Nat.le_of_ble_eq_true rfl⟩ ?_ rfl rfl rfl rfl
            exact r_lret K dX10_price_61 hf (Nat.le_of_ble_eq_true rfl) (Nat.le_of_ble_eq_true rfl)
          · replace hf := ite_t hf c15
            refine r_aload_n K 0 dX10_price_44 rfl ?_
            refine r_iload_n K 1 dX10_price_45 rfl ?_
            refine r_iload_n K 2 dX10_price_46 rfl ?_
            refine r_iload_n K 3 dX10_price_47 rfl ?_
            obtain ⟨r13, e14, hf⟩ := ob1_s hf
            refine r_callV (As := [.int x1, .int x2, .int x3]) (rest := []) (st1 := [.long r13]) (cells1 := 0) (slots1 := 0) (b := a0) (ci := 10) K (fun z => mX10_priceNow l z e14) dX10_price_48 rfl (fun z => z _ _ ht) rfl ceX10_priceNow q_1236 q_1238 q_62 q_85 q_1239 ⟨Nat.le_of_ble_eq_true rfl, Nat.le_of_ble_eq_true rfl⟩ (Nat.le_of_ble_eq_true rfl) ⟨Nat.le_of_ble_eq_true rfl, Nat.le_of_ble_eq_true rfl⟩ ?_ rfl rfl rfl rfl
            refine r_goto (tgt := 61) K dX10_price_51 (by decide) ?_
            exact r_lret K dX10_price_61 hf (Nat.le_of_ble_eq_true rfl) (Nat.le_of_ble_eq_true rfl)
        · replace hf := ite_t hf c16
          refine r_ldc2 K dX10_price_35 q_1060 ?_
          exact r_lret K dX10_price_38 hf (Nat.le_of_ble_eq_true rfl) (Nat.le_of_ble_eq_true rfl)
theorem ceX10_divisor : CE yX10_divisor 2 := ⟨by decide, by decide, by decide +kernel⟩
abbrev rmX10_divisor : Room := { frames := 0, cells := 0, slots := 0, locals := 0 }
def fX10_divisor_L6 (k : Int64 → Option Int64) : Nat → Int64 → Int64 → Option Int64
  | 0, _, _ => none
  | n + 1, x4, x6 =>
    if x6 = (0 : Int64) then
      k x4
    else
      gd (decide (¬ x6 = 0)) <|
      bnd (x4 - x4 / x6 * x6) fun y2 =>
      fX10_divisor_L6 k n x6 y2
def fX10_divisor (x0 : Int64) (x2 : Int64) : Option Int64 :=
  fX10_divisor_L6 (fun (y4 : Int64) =>
    some y4
  ) lf x0 x2
set_option maxHeartbeats 4000000 in
set_option maxRecDepth 100000 in
theorem wX10_divisor_L6 {p : Program} {l : Launch} {e : Env} {s : State} {m : MethodId} {args : Array Value} {below : List Frame} {meth : Method} {c : Code} {G : GG} {b0 : Nat} {h0 : AH} {h : AH} {rr : Int64} (K : CX p s m args meth c cX10_divisor 10 RX10 (some .long) G b0) (k : Int64 → Option Int64) (hk : ∀ (x4 : Int64), k x4 = some rr → WA p l e rmX10_divisor s m args below meth c (MQ below (QG G b0 h0 (some (.long rr)) h) args s (rmX10_divisor).cells (rmX10_divisor).slots (AB b0)) G b0 10 h0 0 0 h 31 [(4, .long x4)] []) : ∀ (n : Nat) (x4 : Int64) (x6 : Int64), fX10_divisor_L6 k n x4 x6 = some rr → WA p l e rmX10_divisor s m args below meth c (MQ below (QG G b0 h0 (some (.long rr)) h) args s (rmX10_divisor).cells (rmX10_divisor).slots (AB b0)) G b0 10 h0 0 0 h 6 [(4, .long x4), (6, .long x6)] [] := by
  intro n
  induction n with
  | zero =>
    intro x4 x6 hf
    rw [fX10_divisor_L6] at hf
    cases hf
  | succ n ih =>
    intro x4 x6 hf
    rw [fX10_divisor_L6] at hf
    refine r_lload K 1 dX10_divisor_6 rfl ?_
    refine r_lconst (v := (0 : Int64)) K dX10_divisor_8 (by decide) ?_
    refine r_lif_eq (tgt := 31) K dX10_divisor_9 dX10_divisor_10 (by decide) (fun c3 => ?_) (fun c3 => ?_)
    · replace hf := ite_t hf c3
      refine r_lv [0] rfl ?_
      exact hk x4 hf
    · replace hf := ite_f hf c3
      refine r_lload K 0 dX10_divisor_13 rfl ?_
      refine r_lload K 1 dX10_divisor_15 rfl ?_
      obtain ⟨z1, hf⟩ := gd_s hf
      refine r_lrem K dX10_divisor_17 (of_decide_eq_true z1) ?_
      obtain ⟨y2, ey2, hf⟩ := bnd_g hf
      refine r_nml ey2 ?_
      refine r_lstore (lv1 := [(8, .long y2), (4, .long x4), (6, .long x6)]) K dX10_divisor_18 (by decide) rfl ?_
      refine r_lload K 2 dX10_divisor_20 rfl ?_
      refine r_lstore (lv1 := [(4, .long x6), (8, .long y2), (6, .long x6)]) K dX10_divisor_22 (by decide) rfl ?_
      refine r_lload K 1 dX10_divisor_24 rfl ?_
      refine r_lstore (lv1 := [(6, .long y2), (4, .long x6), (8, .long y2)]) K dX10_divisor_26 (by decide) rfl ?_
      refine r_goto (tgt := 6) K dX10_divisor_28 (by decide) ?_
      refine r_lv [1, 0] rfl ?_
      exact ih x6 y2 hf
set_option maxHeartbeats 4000000 in
set_option maxRecDepth 100000 in
theorem mX10_divisor (l : Launch) {G : GG} {b0 : Nat} {h : AH} {x0 : Int64} {x2 : Int64} {rr : Int64} (hf : fX10_divisor x0 x2 = some rr) : MM l yX10_divisor cX10_divisor 10 (some .long) rmX10_divisor G b0 h [.long x0, .long x2] (some (.long rr)) h := by
  refine MM.of (own := RX10) (lv0 := [(0, .long x0), (2, .long x2)]) (by decide) rfl (Nat.le_of_ble_eq_true rfl) rfl ?_
  intro p e s m args below meth c K hnm
  unfold fX10_divisor at hf
  refine r_lload_n K 0 dX10_divisor_0 rfl ?_
  refine r_lstore (lv1 := [(4, .long x0), (0, .long x0), (2, .long x2)]) K dX10_divisor_1 (by decide) rfl ?_
  refine r_lload_n K 2 dX10_divisor_3 rfl ?_
  refine r_lstore (lv1 := [(6, .long x2), (4, .long x0), (0, .long x0), (2, .long x2)]) K dX10_divisor_4 (by decide) rfl ?_
  refine r_lv [1, 0] rfl ?_
  refine wX10_divisor_L6 K _ (fun y4 hf => ?_) lf x0 x2 hf
  refine r_lload K 0 dX10_divisor_31 rfl ?_
  exact r_lret K dX10_divisor_33 (retp hf) (Nat.le_of_ble_eq_true rfl) (Nat.le_of_ble_eq_true rfl)
theorem ceX10_partOf : CE yX10_partOf 3 := ⟨by decide, by decide, by decide +kernel⟩
abbrev rmX10_partOf : Room := { frames := 1, cells := 0, slots := 0, locals := 29 }
def fX10_partOf (x0 : Int64) (x2 : Int64) (x4 : Int32) : Option Int64 :=
  ob1 (fX10_divisor x0 x2) fun r1 =>
  if x4 = (0 : Int32) then
    gd (decide (¬ r1 = 0)) <|
    some (x0 / r1)
  else
    gd (decide (¬ r1 = 0)) <|
    some (x2 / r1)
set_option maxHeartbeats 4000000 in
set_option maxRecDepth 100000 in
theorem mX10_partOf (l : Launch) {G : GG} {b0 : Nat} {h : AH} {x0 : Int64} {x2 : Int64} {x4 : Int32} {rr : Int64} (hf : fX10_partOf x0 x2 x4 = some rr) : MM l yX10_partOf cX10_partOf 7 (some .long) rmX10_partOf G b0 h [.long x0, .long x2, .int x4] (some (.long rr)) h := by
  refine MM.of (own := RX10) (lv0 := [(0, .long x0), (2, .long x2), (4, .int x4)]) (by decide) rfl (Nat.le_of_ble_eq_true rfl) rfl ?_
  intro p e s m args below meth c K hnm
  unfold fX10_partOf at hf
  refine r_lload_n K 0 dX10_partOf_0 rfl ?_
  refine r_lload_n K 1 dX10_partOf_1 rfl ?_
  obtain ⟨r1, e2, hf⟩ := ob1_s hf
  refine r_callS (As := [.long x0, .long x2]) (rest := []) (st1 := [.long r1]) (cells1 := 0) (slots1 := 0) K (mX10_divisor l e2) dX10_partOf_2 ceX10_divisor q_1247 q_1248 q_85 q_1249 ⟨Nat.le_of_ble_eq_true rfl, Nat.le_of_ble_eq_true rfl⟩ (Nat.le_of_ble_eq_true rfl) ⟨Nat.le_of_ble_eq_true rfl, Nat.le_of_ble_eq_true rfl⟩ ?_ rfl rfl rfl rfl
  refine r_lstore (lv1 := [(5, .long r1), (0, .long x0), (2, .long x2), (4, .int x4)]) K dX10_partOf_5 (by decide) rfl ?_
  refine r_iload K 3 dX10_partOf_7 rfl ?_
  refine r_if_ne (tgt := 19) K dX10_partOf_9 (by decide) (fun c5 => ?_) (fun c5 => ?_)
  · replace hf := ite_f hf c5
    refine r_lload_n K 2 dX10_partOf_19 rfl ?_
    refine r_lload K 0 dX10_partOf_20 rfl ?_
    obtain ⟨z3, hf⟩ := gd_s hf
    refine r_ldiv K dX10_partOf_22 (of_decide_eq_true z3) ?_
    exact r_lret K dX10_partOf_23 (retp hf) (Nat.le_of_ble_eq_true rfl) (Nat.le_of_ble_eq_true rfl)
  · replace hf := ite_t hf c5
    refine r_lload_n K 1 dX10_partOf_12 rfl ?_
    refine r_lload K 0 dX10_partOf_13 rfl ?_
    obtain ⟨z4, hf⟩ := gd_s hf
    refine r_ldiv K dX10_partOf_15 (of_decide_eq_true z4) ?_
    refine r_goto (tgt := 23) K dX10_partOf_16 (by decide) ?_
    exact r_lret K dX10_partOf_23 (retp hf) (Nat.le_of_ble_eq_true rfl) (Nat.le_of_ble_eq_true rfl)
theorem ceX10_mean : CE yX10_mean 3 := ⟨by decide, by decide, by decide +kernel⟩
abbrev rmX10_mean : Room := { frames := 9, cells := 0, slots := 0, locals := 230 }
def fX10_mean_L54 (a0 : Nat) (x1 : Int32) (x2 : Int32) (x3 : Int32) (k : AH → Option (Int64 × AH)) : Nat → Int32 → AH → Option (Int64 × AH)
  | 0, _, _ => none
  | n + 1, x4, h =>
    ob1 (gR h a0 10 10) fun b14 =>
    ob1 (aI h b14 0 x2) fun v16 =>
    if v16 ≤ x4 then
      k h
    else
      ob1 (gR h a0 10 17) fun b18 =>
      ob1 (aI h b18 0 (((256 : Int32) * x2) + x4)) fun v20 =>
      if v20 ≤ (0 : Int32) then
        bnd (x4 + (1 : Int32)) fun y22 =>
        fX10_mean_L54 a0 x1 x2 x3 k n y22 h
      else
        ob1 (gR h a0 10 17) fun b23 =>
        ob1 (aI h b23 0 (((256 : Int32) * x2) + x4)) fun v25 =>
        ob1 (fX10_priceNow a0 x1 x2 x4 h) fun r27 =>
        ob1 (fX10_addsProduct a0 (Int32.toInt64 v25) r27 h) fun g29 =>
        bnd (x4 + (1 : Int32)) fun y31 =>
        fX10_mean_L54 a0 x1 x2 x3 k n y31 g29
def fX10_mean (a0 : Nat) (x1 : Int32) (x2 : Int32) (x3 : Int32) (h : AH) : Option (Int64 × AH) :=
  ob1 (fX10_isMode x1) fun r1 =>
  if r1 = (0 : Int32) then
    some ((-9223372036854775808 : Int64), h)
  else
    ob1 (fX10_isClass x2) fun r3 =>
    if r3 = (0 : Int32) then
      some ((-9223372036854775808 : Int64), h)
    else
      ob1 (fX10_in (Int32.toInt64 x3) (0 : Int64) (1 : Int64)) fun r5 =>
      if r5 = (0 : Int32) then
        some ((-9223372036854775808 : Int64), h)
      else
        ob1 (fX10_ofClass a0 x2 (1 : Int32) h) fun r7 =>
        if r7 = (0 : Int64) then
          some ((-9223372036854775808 : Int64), h)
        else
          ob2 (fX10_steady a0 x1 h) fun r9 g10 =>
          if r9 = (0 : Int32) then
            some ((-9223372036854775808 : Int64), g10)
          else
            ob1 (fX10_begins a0 g10) fun g12 =>
            fX10_mean_L54 a0 x1 x2 x3 (fun (g34 : AH) =>
              ob1 (gI g34 a0 10 19) fun v35 =>
              if v35 = (0 : Int32) then
                ob1 (gL g34 a0 10 20) fun v37 =>
                ob1 (fX10_ofClass a0 x2 (1 : Int32) g34) fun r39 =>
                ob1 (fX10_partOf v37 r39 x3) fun r41 =>
                some (r41, g34)
              else
                some ((-9223372036854775808 : Int64), g34)
            ) lf (0 : Int32) g12
set_option maxHeartbeats 4000000 in
set_option maxRecDepth 100000 in
theorem wX10_mean_L54 {p : Program} {l : Launch} {e : Env} {s : State} {m : MethodId} {args : Array Value} {below : List Frame} {meth : Method} {c : Code} {G : GG} {b0 : Nat} {h0 : AH} {a0 : Nat} {x1 : Int32} {x2 : Int32} {x3 : Int32} {rr : Int64} {hh : AH} (K : CX p s m args meth c cX10_mean 5 RX10 (some .long) G b0) (ht : isO h0 a0 10) (k : AH → Option (Int64 × AH)) (hk : ∀ (h : AH), k h = some (rr, hh) → WA p l e rmX10_mean s m args below meth c (MQ below (QG G b0 h0 (some (.long rr)) hh) args s (rmX10_mean).cells (rmX10_mean).slots (AB b0)) G b0 5 h0 0 0 h 113 [(0, .ref a0), (2, .int x2), (3, .int x3)] []) : ∀ (n : Nat) (x4 : Int32) (h : AH), fX10_mean_L54 a0 x1 x2 x3 k n x4 h = some (rr, hh) → WA p l e rmX10_mean s m args below meth c (MQ below (QG G b0 h0 (some (.long rr)) hh) args s (rmX10_mean).cells (rmX10_mean).slots (AB b0)) G b0 5 h0 0 0 h 54 [(0, .ref a0), (1, .int x1), (2, .int x2), (3, .int x3), (4, .int x4)] [] := by
  intro n
  induction n with
  | zero =>
    intro x4 h hf
    rw [fX10_mean_L54] at hf
    cases hf
  | succ n ih =>
    intro x4 h hf
    rw [fX10_mean_L54] at hf
    refine r_iload K 4 dX10_mean_54 rfl ?_
    refine r_aload_n K 0 dX10_mean_56 rfl ?_
    obtain ⟨b14, e15, hf⟩ := ob1_s hf
    refine r_getR (ci := 10) (k := 10) K dX10_mean_57 inX10 rfl (by decide) rfl q_916 e15 ?_
    refine r_iload_n K 2 dX10_mean_60 rfl ?_
    obtain ⟨v16, e17, hf⟩ := ob1_s hf
    refine r_iaload K dX10_mean_61 e17 ?_
    refine r_icmp_ge (tgt := 113) K dX10_mean_62 (by decide) (fun c33 => ?_) (fun c33 => ?_)
    · replace hf := ite_t hf c33
      refine r_lv [0, 2, 3] rfl ?_
      exact hk h hf
    · replace hf := ite_f hf c33
      refine r_aload_n K 0 dX10_mean_65 rfl ?_
      obtain ⟨b18, e19, hf⟩ := ob1_s hf
      refine r_getR (ci := 10) (k := 17) K dX10_mean_66 inX10 rfl (by decide) rfl q_923 e19 ?_
      refine r_sipush (v := (256 : Int32)) K dX10_mean_69 (by decide) ?_
      refine r_iload_n K 2 dX10_mean_72 rfl ?_
      refine r_imul K dX10_mean_73 ?_
      refine r_iload K 4 dX10_mean_74 rfl ?_
      refine r_iadd K dX10_mean_76 ?_
      obtain ⟨v20, e21, hf⟩ := ob1_s hf
      refine r_iaload K dX10_mean_77 e21 ?_
      refine r_if_le (tgt := 107) K dX10_mean_78 (by decide) (fun c32 => ?_) (fun c32 => ?_)
      · replace hf := ite_t hf c32
        obtain ⟨y22, ey22, hf⟩ := bnd_g hf
        refine r_iinc (lv1 := [(4, .int y22), (0, .ref a0), (1, .int x1), (2, .int x2), (3, .int x3)]) K 4 dX10_mean_107 rfl (by rw [ey22]; rfl) (by decide) rfl ?_
        refine r_goto (tgt := 54) K dX10_mean_110 (by decide) ?_
        refine r_lv [1, 2, 3, 4, 0] rfl ?_
        exact ih y22 h hf
      · replace hf := ite_f hf c32
        refine r_aload_n K 0 dX10_mean_81 rfl ?_
        refine r_aload_n K 0 dX10_mean_82 rfl ?_
        obtain ⟨b23, e24, hf⟩ := ob1_s hf
        refine r_getR (ci := 10) (k := 17) K dX10_mean_83 inX10 rfl (by decide) rfl q_923 e24 ?_
        refine r_sipush (v := (256 : Int32)) K dX10_mean_86 (by decide) ?_
        refine r_iload_n K 2 dX10_mean_89 rfl ?_
        refine r_imul K dX10_mean_90 ?_
        refine r_iload K 4 dX10_mean_91 rfl ?_
        refine r_iadd K dX10_mean_93 ?_
        obtain ⟨v25, e26, hf⟩ := ob1_s hf
        refine r_iaload K dX10_mean_94 e26 ?_
        refine r_i2l K dX10_mean_95 ?_
        refine r_aload_n K 0 dX10_mean_96 rfl ?_
        refine r_iload_n K 1 dX10_mean_97 rfl ?_
        refine r_iload_n K 2 dX10_mean_98 rfl ?_
        refine r_iload K 4 dX10_mean_99 rfl ?_
        obtain ⟨r27, e28, hf⟩ := ob1_s hf
        refine r_callV (As := [.int x1, .int x2, .int x4]) (rest := [.long (Int32.toInt64 v25), .ref a0]) (st1 := [.long r27, .long (Int32.toInt64 v25), .ref a0]) (cells1 := 0) (slots1 := 0) (b := a0) (ci := 10) K (fun z => mX10_priceNow l z e28) dX10_mean_101 rfl (fun z => z _ _ ht) rfl ceX10_priceNow q_1236 q_1238 q_62 q_85 q_1239 ⟨Nat.le_of_ble_eq_true rfl, Nat.le_of_ble_eq_true rfl⟩ (Nat.le_of_ble_eq_true rfl) ⟨Nat.le_of_ble_eq_true rfl, Nat.le_of_ble_eq_true rfl⟩ ?_ rfl rfl rfl rfl
        obtain ⟨g29, e30, hf⟩ := ob1_s hf
        refine r_callV (As := [.long (Int32.toInt64 v25), .long r27]) (rest := []) (st1 := []) (cells1 := 0) (slots1 := 0) (b := a0) (ci := 10) K (fun z => mX10_addsProduct l z e30) dX10_mean_104 rfl (fun z => z _ _ ht) rfl ceX10_addsProduct q_1206 q_1208 q_60 q_85 q_1209 ⟨Nat.le_of_ble_eq_true rfl, Nat.le_of_ble_eq_true rfl⟩ (Nat.le_of_ble_eq_true rfl) ⟨Nat.le_of_ble_eq_true rfl, Nat.le_of_ble_eq_true rfl⟩ ?_ rfl rfl rfl rfl
        obtain ⟨y31, ey31, hf⟩ := bnd_g hf
        refine r_iinc (lv1 := [(4, .int y31), (0, .ref a0), (1, .int x1), (2, .int x2), (3, .int x3)]) K 4 dX10_mean_107 rfl (by rw [ey31]; rfl) (by decide) rfl ?_
        refine r_goto (tgt := 54) K dX10_mean_110 (by decide) ?_
        refine r_lv [1, 2, 3, 4, 0] rfl ?_
        exact ih y31 g29 hf
set_option maxHeartbeats 4000000 in
set_option maxRecDepth 100000 in
theorem mX10_mean (l : Launch) {G : GG} {b0 : Nat} {h : AH} {a0 : Nat} {x1 : Int32} {x2 : Int32} {x3 : Int32} {rr : Int64} {hh : AH} (ht : isO h a0 10) (hf : fX10_mean a0 x1 x2 x3 h = some (rr, hh)) : MM l yX10_mean cX10_mean 5 (some .long) rmX10_mean G b0 h [.ref a0, .int x1, .int x2, .int x3] (some (.long rr)) hh := by
  refine MM.of (own := RX10) (lv0 := [(0, .ref a0), (1, .int x1), (2, .int x2), (3, .int x3)]) (by decide) rfl (Nat.le_of_ble_eq_true rfl) rfl ?_
  intro p e s m args below meth c K hnm
  unfold fX10_mean at hf
  refine r_iload_n K 1 dX10_mean_0 rfl ?_
  obtain ⟨r1, e2, hf⟩ := ob1_s hf
  refine r_callS (As := [.int x1]) (rest := []) (st1 := [.int r1]) (cells1 := 0) (slots1 := 0) K (mX10_isMode l e2) dX10_mean_1 ceX10_isMode q_1158 q_1159 q_85 q_1160 ⟨Nat.le_of_ble_eq_true rfl, Nat.le_of_ble_eq_true rfl⟩ (Nat.le_of_ble_eq_true rfl) ⟨Nat.le_of_ble_eq_true rfl, Nat.le_of_ble_eq_true rfl⟩ ?_ rfl rfl rfl rfl
  refine r_if_eq (tgt := 43) K dX10_mean_4 (by decide) (fun c48 => ?_) (fun c48 => ?_)
  · replace hf := ite_t hf c48
    refine r_ldc2 K dX10_mean_43 q_1060 ?_
    exact r_lret K dX10_mean_46 hf (Nat.le_of_ble_eq_true rfl) (Nat.le_of_ble_eq_true rfl)
  · replace hf := ite_f hf c48
    refine r_iload_n K 2 dX10_mean_7 rfl ?_
    obtain ⟨r3, e4, hf⟩ := ob1_s hf
    refine r_callS (As := [.int x2]) (rest := []) (st1 := [.int r3]) (cells1 := 0) (slots1 := 0) K (mX10_isClass l e4) dX10_mean_8 ceX10_isClass q_1077 q_1078 q_85 q_1079 ⟨Nat.le_of_ble_eq_true rfl, Nat.le_of_ble_eq_true rfl⟩ (Nat.le_of_ble_eq_true rfl) ⟨Nat.le_of_ble_eq_true rfl, Nat.le_of_ble_eq_true rfl⟩ ?_ rfl rfl rfl rfl
    refine r_if_eq (tgt := 43) K dX10_mean_11 (by decide) (fun c47 => ?_) (fun c47 => ?_)
    · replace hf := ite_t hf c47
      refine r_ldc2 K dX10_mean_43 q_1060 ?_
      exact r_lret K dX10_mean_46 hf (Nat.le_of_ble_eq_true rfl) (Nat.le_of_ble_eq_true rfl)
    · replace hf := ite_f hf c47
      refine r_iload_n K 3 dX10_mean_14 rfl ?_
      refine r_i2l K dX10_mean_15 ?_
      refine r_lconst (v := (0 : Int64)) K dX10_mean_16 (by decide) ?_
      refine r_lconst (v := (1 : Int64)) K dX10_mean_17 (by decide) ?_
      obtain ⟨r5, e6, hf⟩ := ob1_s hf
      refine r_callS (As := [.long (Int32.toInt64 x3), .long (0 : Int64), .long (1 : Int64)]) (rest := []) (st1 := [.int r5]) (cells1 := 0) (slots1 := 0) K (mX10_in l e6) dX10_mean_18 ceX10_in q_1005 q_1006 q_85 q_1007 ⟨Nat.le_of_ble_eq_true rfl, Nat.le_of_ble_eq_true rfl⟩ (Nat.le_of_ble_eq_true rfl) ⟨Nat.le_of_ble_eq_true rfl, Nat.le_of_ble_eq_true rfl⟩ ?_ rfl rfl rfl rfl
      refine r_if_eq (tgt := 43) K dX10_mean_21 (by decide) (fun c46 => ?_) (fun c46 => ?_)
      · replace hf := ite_t hf c46
        refine r_ldc2 K dX10_mean_43 q_1060 ?_
        exact r_lret K dX10_mean_46 hf (Nat.le_of_ble_eq_true rfl) (Nat.le_of_ble_eq_true rfl)
      · replace hf := ite_f hf c46
        refine r_aload_n K 0 dX10_mean_24 rfl ?_
        refine r_iload_n K 2 dX10_mean_25 rfl ?_
        refine r_iconst (v := (1 : Int32)) K dX10_mean_26 (by decide) ?_
        obtain ⟨r7, e8, hf⟩ := ob1_s hf
        refine r_callV (As := [.int x2, .int (1 : Int32)]) (rest := []) (st1 := [.long r7]) (cells1 := 0) (slots1 := 0) (b := a0) (ci := 10) K (fun z => mX10_ofClass l z e8) dX10_mean_27 rfl (fun z => z _ _ ht) rfl ceX10_ofClass q_1086 q_1088 q_39 q_85 q_1089 ⟨Nat.le_of_ble_eq_true rfl, Nat.le_of_ble_eq_true rfl⟩ (Nat.le_of_ble_eq_true rfl) ⟨Nat.le_of_ble_eq_true rfl, Nat.le_of_ble_eq_true rfl⟩ ?_ rfl rfl rfl rfl
        refine r_lconst (v := (0 : Int64)) K dX10_mean_30 (by decide) ?_
        refine r_lif_eq (tgt := 43) K dX10_mean_31 dX10_mean_32 (by decide) (fun c45 => ?_) (fun c45 => ?_)
        · replace hf := ite_t hf c45
          refine r_ldc2 K dX10_mean_43 q_1060 ?_
          exact r_lret K dX10_mean_46 hf (Nat.le_of_ble_eq_true rfl) (Nat.le_of_ble_eq_true rfl)
        · replace hf := ite_f hf c45
          refine r_aload_n K 0 dX10_mean_35 rfl ?_
          refine r_iload_n K 1 dX10_mean_36 rfl ?_
          obtain ⟨r9, g10, e11, hf⟩ := ob2_s hf
          refine r_callV (As := [.int x1]) (rest := []) (st1 := [.int r9]) (cells1 := 0) (slots1 := 0) (b := a0) (ci := 10) K (fun z => mX10_steady l z e11) dX10_mean_37 rfl (fun z => z _ _ ht) rfl ceX10_steady q_1165 q_1167 q_50 q_85 q_1168 ⟨Nat.le_of_ble_eq_true rfl, Nat.le_of_ble_eq_true rfl⟩ (Nat.le_of_ble_eq_true rfl) ⟨Nat.le_of_ble_eq_true rfl, Nat.le_of_ble_eq_true rfl⟩ ?_ rfl rfl rfl rfl
          refine r_if_ne (tgt := 47) K dX10_mean_40 (by decide) (fun c44 => ?_) (fun c44 => ?_)
          · replace hf := ite_f hf c44
            refine r_aload_n K 0 dX10_mean_47 rfl ?_
            obtain ⟨g12, e13, hf⟩ := ob1_s hf
            refine r_callV (As := []) (rest := []) (st1 := []) (cells1 := 0) (slots1 := 0) (b := a0) (ci := 10) K (fun z => mX10_begins l z e13) dX10_mean_48 rfl (fun z => z _ _ ht) rfl ceX10_begins q_1202 q_1204 q_59 q_85 q_1205 ⟨Nat.le_of_ble_eq_true rfl, Nat.le_of_ble_eq_true rfl⟩ (Nat.le_of_ble_eq_true rfl) ⟨Nat.le_of_ble_eq_true rfl, Nat.le_of_ble_eq_true rfl⟩ ?_ rfl rfl rfl rfl
            refine r_iconst (v := (0 : Int32)) K dX10_mean_51 (by decide) ?_
            refine r_istore (lv1 := [(4, .int (0 : Int32)), (0, .ref a0), (1, .int x1), (2, .int x2), (3, .int x3)]) K dX10_mean_52 (by decide) rfl ?_
            refine r_lv [1, 2, 3, 4, 0] rfl ?_
            refine wX10_mean_L54 K ht _ (fun g34 hf => ?_) lf (0 : Int32) g12 hf
            refine r_aload_n K 0 dX10_mean_113 rfl ?_
            obtain ⟨v35, e36, hf⟩ := ob1_s hf
            refine r_getI (ci := 10) (k := 19) K dX10_mean_114 inX10 rfl (by decide) rfl q_925 e36 ?_
            refine r_if_eq (tgt := 126) K dX10_mean_117 (by decide) (fun c43 => ?_) (fun c43 => ?_)
            · replace hf := ite_t hf c43
              refine r_aload_n K 0 dX10_mean_126 rfl ?_
              obtain ⟨v37, e38, hf⟩ := ob1_s hf
              refine r_getL (ci := 10) (k := 20) K dX10_mean_127 inX10 rfl (by decide) rfl q_926 e38 ?_
              refine r_aload_n K 0 dX10_mean_130 rfl ?_
              refine r_iload_n K 1 dX10_mean_131 rfl ?_
              refine r_iconst (v := (1 : Int32)) K dX10_mean_132 (by decide) ?_
              obtain ⟨r39, e40, hf⟩ := ob1_s hf
              refine r_callV (As := [.int x2, .int (1 : Int32)]) (rest := [.long v37]) (st1 := [.long r39, .long v37]) (cells1 := 0) (slots1 := 0) (b := a0) (ci := 10) K (fun z => mX10_ofClass l z e40) dX10_mean_133 rfl (fun z => z _ _ ht) rfl ceX10_ofClass q_1086 q_1088 q_39 q_85 q_1089 ⟨Nat.le_of_ble_eq_true rfl, Nat.le_of_ble_eq_true rfl⟩ (Nat.le_of_ble_eq_true rfl) ⟨Nat.le_of_ble_eq_true rfl, Nat.le_of_ble_eq_true rfl⟩ ?_ rfl rfl rfl rfl
              refine r_iload_n K 2 dX10_mean_136 rfl ?_
              obtain ⟨r41, e42, hf⟩ := ob1_s hf
              refine r_callS (As := [.long v37, .long r39, .int x3]) (rest := []) (st1 := [.long r41]) (cells1 := 0) (slots1 := 0) K (mX10_partOf l e42) dX10_mean_137 ceX10_partOf q_1244 q_1245 q_85 q_1246 ⟨Nat.le_of_ble_eq_true rfl, Nat.le_of_ble_eq_true rfl⟩ (Nat.le_of_ble_eq_true rfl) ⟨Nat.le_of_ble_eq_true rfl, Nat.le_of_ble_eq_true rfl⟩ ?_ rfl rfl rfl rfl
              exact r_lret K dX10_mean_140 hf (Nat.le_of_ble_eq_true rfl) (Nat.le_of_ble_eq_true rfl)
            · replace hf := ite_f hf c43
              refine r_ldc2 K dX10_mean_120 q_1060 ?_
              refine r_goto (tgt := 140) K dX10_mean_123 (by decide) ?_
              exact r_lret K dX10_mean_140 hf (Nat.le_of_ble_eq_true rfl) (Nat.le_of_ble_eq_true rfl)
          · replace hf := ite_t hf c44
            refine r_ldc2 K dX10_mean_43 q_1060 ?_
            exact r_lret K dX10_mean_46 hf (Nat.le_of_ble_eq_true rfl) (Nat.le_of_ble_eq_true rfl)
theorem ceX10_shown : CE yX10_shown 2 := ⟨by decide, by decide, by decide +kernel⟩
abbrev rmX10_shown : Room := { frames := 9, cells := 0, slots := 0, locals := 230 }
def fX10_shown_L52 (a0 : Nat) (x1 : Int32) (x2 : Int32) (x4 : UInt32) (h : AH) (k : UInt32 → Option (Int32 × AH)) : Nat → UInt32 → Int32 → Option (Int32 × AH)
  | 0, _, _ => none
  | n + 1, x3, x5 =>
    ob1 (gR h a0 10 10) fun b13 =>
    ob1 (aI h b13 0 x2) fun v15 =>
    if v15 ≤ x5 then
      k x3
    else
      ob1 (gR h a0 10 17) fun b17 =>
      ob1 (aI h b17 0 (((256 : Int32) * x2) + x5)) fun v19 =>
      if v19 ≤ (0 : Int32) then
        bnd (x5 + (1 : Int32)) fun y21 =>
        fX10_shown_L52 a0 x1 x2 x4 h k n x3 y21
      else
        ob1 (fX10_priceNow a0 x1 x2 x5 h) fun r22 =>
        gd (nn (FP.fmul (FP.l2f r22) (FP.i2f v19))) <|
        gd (nn (FP.fdiv (FP.fmul (FP.l2f r22) (FP.i2f v19)) x4)) <|
        gd (nn (FP.fadd x3 (FP.fdiv (FP.fmul (FP.l2f r22) (FP.i2f v19)) x4))) <|
        bnd (FP.fadd x3 (FP.fdiv (FP.fmul (FP.l2f r22) (FP.i2f v19)) x4)) fun y27 =>
        bnd (x5 + (1 : Int32)) fun y28 =>
        fX10_shown_L52 a0 x1 x2 x4 h k n y27 y28
def fX10_shown (a0 : Nat) (x1 : Int32) (x2 : Int32) (h : AH) : Option (Int32 × AH) :=
  ob1 (fX10_isMode x1) fun r1 =>
  if r1 = (0 : Int32) then
    some ((-1 : Int32), h)
  else
    ob1 (fX10_isClass x2) fun r3 =>
    if r3 = (0 : Int32) then
      some ((-1 : Int32), h)
    else
      ob1 (fX10_ofClass a0 x2 (1 : Int32) h) fun r5 =>
      if r5 = (0 : Int64) then
        some ((-3 : Int32), h)
      else
        ob2 (fX10_steady a0 x1 h) fun r7 g8 =>
        if r7 = (0 : Int32) then
          some ((-3 : Int32), g8)
        else
          ob1 (fX10_ofClass a0 x2 (1 : Int32) g8) fun r10 =>
          bnd (FP.l2f r10) fun y12 =>
          fX10_shown_L52 a0 x1 x2 y12 g8 (fun (y31 : UInt32) =>
            ob1 (fJxf58ca_floatToIntBits_5c35a y31) fun r32 =>
            some (r32, g8)
          ) lf FP.fconst0 (0 : Int32)
set_option maxHeartbeats 4000000 in
set_option maxRecDepth 100000 in
theorem wX10_shown_L52 {p : Program} {l : Launch} {e : Env} {s : State} {m : MethodId} {args : Array Value} {below : List Frame} {meth : Method} {c : Code} {G : GG} {b0 : Nat} {h0 : AH} {a0 : Nat} {x1 : Int32} {x2 : Int32} {x4 : UInt32} {h : AH} {rr : Int32} {hh : AH} (K : CX p s m args meth c cX10_shown 7 RX10 (some .int) G b0) (ht : isO h0 a0 10) (k : UInt32 → Option (Int32 × AH)) (hk : ∀ (x3 : UInt32), k x3 = some (rr, hh) → WA p l e rmX10_shown s m args below meth c (MQ below (QG G b0 h0 (some (.int rr)) hh) args s (rmX10_shown).cells (rmX10_shown).slots (AB b0)) G b0 7 h0 0 0 h 108 [(3, .float x3)] []) : ∀ (n : Nat) (x3 : UInt32) (x5 : Int32), fX10_shown_L52 a0 x1 x2 x4 h k n x3 x5 = some (rr, hh) → WA p l e rmX10_shown s m args below meth c (MQ below (QG G b0 h0 (some (.int rr)) hh) args s (rmX10_shown).cells (rmX10_shown).slots (AB b0)) G b0 7 h0 0 0 h 52 [(0, .ref a0), (1, .int x1), (2, .int x2), (3, .float x3), (4, .float x4), (5, .int x5)] [] := by
  intro n
  induction n with
  | zero =>
    intro x3 x5 hf
    rw [fX10_shown_L52] at hf
    cases hf
  | succ n ih =>
    intro x3 x5 hf
    rw [fX10_shown_L52] at hf
    refine r_iload K 5 dX10_shown_52 rfl ?_
    refine r_aload_n K 0 dX10_shown_54 rfl ?_
    obtain ⟨b13, e14, hf⟩ := ob1_s hf
    refine r_getR (ci := 10) (k := 10) K dX10_shown_55 inX10 rfl (by decide) rfl q_916 e14 ?_
    refine r_iload_n K 2 dX10_shown_58 rfl ?_
    obtain ⟨v15, e16, hf⟩ := ob1_s hf
    refine r_iaload K dX10_shown_59 e16 ?_
    refine r_icmp_ge (tgt := 108) K dX10_shown_60 (by decide) (fun c30 => ?_) (fun c30 => ?_)
    · replace hf := ite_t hf c30
      refine r_lv [3] rfl ?_
      exact hk x3 hf
    · replace hf := ite_f hf c30
      refine r_aload_n K 0 dX10_shown_63 rfl ?_
      obtain ⟨b17, e18, hf⟩ := ob1_s hf
      refine r_getR (ci := 10) (k := 17) K dX10_shown_64 inX10 rfl (by decide) rfl q_923 e18 ?_
      refine r_sipush (v := (256 : Int32)) K dX10_shown_67 (by decide) ?_
      refine r_iload_n K 2 dX10_shown_70 rfl ?_
      refine r_imul K dX10_shown_71 ?_
      refine r_iload K 5 dX10_shown_72 rfl ?_
      refine r_iadd K dX10_shown_74 ?_
      obtain ⟨v19, e20, hf⟩ := ob1_s hf
      refine r_iaload K dX10_shown_75 e20 ?_
      refine r_istore (lv1 := [(6, .int v19), (0, .ref a0), (1, .int x1), (2, .int x2), (3, .float x3), (4, .float x4), (5, .int x5)]) K dX10_shown_76 (by decide) rfl ?_
      refine r_iload K 0 dX10_shown_78 rfl ?_
      refine r_if_le (tgt := 102) K dX10_shown_80 (by decide) (fun c29 => ?_) (fun c29 => ?_)
      · replace hf := ite_t hf c29
        obtain ⟨y21, ey21, hf⟩ := bnd_g hf
        refine r_iinc (lv1 := [(5, .int y21), (6, .int v19), (0, .ref a0), (1, .int x1), (2, .int x2), (3, .float x3), (4, .float x4)]) K 6 dX10_shown_102 rfl (by rw [ey21]; rfl) (by decide) rfl ?_
        refine r_goto (tgt := 52) K dX10_shown_105 (by decide) ?_
        refine r_lv [2, 3, 4, 5, 6, 0] rfl ?_
        exact ih x3 y21 hf
      · replace hf := ite_f hf c29
        refine r_fload_n K 4 dX10_shown_83 rfl ?_
        refine r_aload_n K 1 dX10_shown_84 rfl ?_
        refine r_iload_n K 2 dX10_shown_85 rfl ?_
        refine r_iload_n K 3 dX10_shown_86 rfl ?_
        refine r_iload K 6 dX10_shown_87 rfl ?_
        obtain ⟨r22, e23, hf⟩ := ob1_s hf
        refine r_callV (As := [.int x1, .int x2, .int x5]) (rest := [.float x3]) (st1 := [.long r22, .float x3]) (cells1 := 0) (slots1 := 0) (b := a0) (ci := 10) K (fun z => mX10_priceNow l z e23) dX10_shown_89 rfl (fun z => z _ _ ht) rfl ceX10_priceNow q_1236 q_1238 q_62 q_85 q_1239 ⟨Nat.le_of_ble_eq_true rfl, Nat.le_of_ble_eq_true rfl⟩ (Nat.le_of_ble_eq_true rfl) ⟨Nat.le_of_ble_eq_true rfl, Nat.le_of_ble_eq_true rfl⟩ ?_ rfl rfl rfl rfl
        refine r_l2f K dX10_shown_92 ?_
        refine r_iload K 0 dX10_shown_93 rfl ?_
        refine r_i2f K dX10_shown_95 ?_
        obtain ⟨z24, hf⟩ := gd_s hf
        refine r_fmul K dX10_shown_96 (nn_n z24) ?_
        refine r_fload K 5 dX10_shown_97 rfl ?_
        obtain ⟨z25, hf⟩ := gd_s hf
        refine r_fdiv K dX10_shown_99 (nn_n z25) ?_
        obtain ⟨z26, hf⟩ := gd_s hf
        refine r_fadd K dX10_shown_100 (nn_n z26) ?_
        obtain ⟨y27, ey27, hf⟩ := bnd_g hf
        refine r_nmf ey27 ?_
        refine r_fstore_n (lv1 := [(3, .float y27), (6, .int v19), (0, .ref a0), (1, .int x1), (2, .int x2), (4, .float x4), (5, .int x5)]) K dX10_shown_101 (by decide) rfl ?_
        obtain ⟨y28, ey28, hf⟩ := bnd_g hf
        refine r_iinc (lv1 := [(5, .int y28), (3, .float y27), (6, .int v19), (0, .ref a0), (1, .int x1), (2, .int x2), (4, .float x4)]) K 6 dX10_shown_102 rfl (by rw [ey28]; rfl) (by decide) rfl ?_
        refine r_goto (tgt := 52) K dX10_shown_105 (by decide) ?_
        refine r_lv [3, 4, 5, 1, 6, 0] rfl ?_
        exact ih y27 y28 hf
set_option maxHeartbeats 4000000 in
set_option maxRecDepth 100000 in
theorem mX10_shown (l : Launch) {G : GG} {b0 : Nat} {h : AH} {a0 : Nat} {x1 : Int32} {x2 : Int32} {rr : Int32} {hh : AH} (ht : isO h a0 10) (hf : fX10_shown a0 x1 x2 h = some (rr, hh)) : MM l yX10_shown cX10_shown 7 (some .int) rmX10_shown G b0 h [.ref a0, .int x1, .int x2] (some (.int rr)) hh := by
  refine MM.of (own := RX10) (lv0 := [(0, .ref a0), (1, .int x1), (2, .int x2)]) (by decide) rfl (Nat.le_of_ble_eq_true rfl) rfl ?_
  intro p e s m args below meth c K hnm
  unfold fX10_shown at hf
  refine r_iload_n K 1 dX10_shown_0 rfl ?_
  obtain ⟨r1, e2, hf⟩ := ob1_s hf
  refine r_callS (As := [.int x1]) (rest := []) (st1 := [.int r1]) (cells1 := 0) (slots1 := 0) K (mX10_isMode l e2) dX10_shown_1 ceX10_isMode q_1158 q_1159 q_85 q_1160 ⟨Nat.le_of_ble_eq_true rfl, Nat.le_of_ble_eq_true rfl⟩ (Nat.le_of_ble_eq_true rfl) ⟨Nat.le_of_ble_eq_true rfl, Nat.le_of_ble_eq_true rfl⟩ ?_ rfl rfl rfl rfl
  refine r_if_eq (tgt := 14) K dX10_shown_4 (by decide) (fun c37 => ?_) (fun c37 => ?_)
  · replace hf := ite_t hf c37
    refine r_iconst (v := (-1 : Int32)) K dX10_shown_14 (by decide) ?_
    exact r_iret K dX10_shown_15 hf (Nat.le_of_ble_eq_true rfl) (Nat.le_of_ble_eq_true rfl)
  · replace hf := ite_f hf c37
    refine r_iload_n K 2 dX10_shown_7 rfl ?_
    obtain ⟨r3, e4, hf⟩ := ob1_s hf
    refine r_callS (As := [.int x2]) (rest := []) (st1 := [.int r3]) (cells1 := 0) (slots1 := 0) K (mX10_isClass l e4) dX10_shown_8 ceX10_isClass q_1077 q_1078 q_85 q_1079 ⟨Nat.le_of_ble_eq_true rfl, Nat.le_of_ble_eq_true rfl⟩ (Nat.le_of_ble_eq_true rfl) ⟨Nat.le_of_ble_eq_true rfl, Nat.le_of_ble_eq_true rfl⟩ ?_ rfl rfl rfl rfl
    refine r_if_ne (tgt := 16) K dX10_shown_11 (by decide) (fun c36 => ?_) (fun c36 => ?_)
    · replace hf := ite_f hf c36
      refine r_aload_n K 0 dX10_shown_16 rfl ?_
      refine r_iload_n K 2 dX10_shown_17 rfl ?_
      refine r_iconst (v := (1 : Int32)) K dX10_shown_18 (by decide) ?_
      obtain ⟨r5, e6, hf⟩ := ob1_s hf
      refine r_callV (As := [.int x2, .int (1 : Int32)]) (rest := []) (st1 := [.long r5]) (cells1 := 0) (slots1 := 0) (b := a0) (ci := 10) K (fun z => mX10_ofClass l z e6) dX10_shown_19 rfl (fun z => z _ _ ht) rfl ceX10_ofClass q_1086 q_1088 q_39 q_85 q_1089 ⟨Nat.le_of_ble_eq_true rfl, Nat.le_of_ble_eq_true rfl⟩ (Nat.le_of_ble_eq_true rfl) ⟨Nat.le_of_ble_eq_true rfl, Nat.le_of_ble_eq_true rfl⟩ ?_ rfl rfl rfl rfl
      refine r_lconst (v := (0 : Int64)) K dX10_shown_22 (by decide) ?_
      refine r_lif_eq (tgt := 35) K dX10_shown_23 dX10_shown_24 (by decide) (fun c35 => ?_) (fun c35 => ?_)
      · replace hf := ite_t hf c35
        refine r_bipush (v := (-3 : Int32)) K dX10_shown_35 (by decide) ?_
        exact r_iret K dX10_shown_37 hf (Nat.le_of_ble_eq_true rfl) (Nat.le_of_ble_eq_true rfl)
      · replace hf := ite_f hf c35
        refine r_aload_n K 0 dX10_shown_27 rfl ?_
        refine r_iload_n K 1 dX10_shown_28 rfl ?_
        obtain ⟨r7, g8, e9, hf⟩ := ob2_s hf
        refine r_callV (As := [.int x1]) (rest := []) (st1 := [.int r7]) (cells1 := 0) (slots1 := 0) (b := a0) (ci := 10) K (fun z => mX10_steady l z e9) dX10_shown_29 rfl (fun z => z _ _ ht) rfl ceX10_steady q_1165 q_1167 q_50 q_85 q_1168 ⟨Nat.le_of_ble_eq_true rfl, Nat.le_of_ble_eq_true rfl⟩ (Nat.le_of_ble_eq_true rfl) ⟨Nat.le_of_ble_eq_true rfl, Nat.le_of_ble_eq_true rfl⟩ ?_ rfl rfl rfl rfl
        refine r_if_ne (tgt := 38) K dX10_shown_32 (by decide) (fun c34 => ?_) (fun c34 => ?_)
        · replace hf := ite_f hf c34
          refine r_fconst0 K dX10_shown_38 ?_
          refine r_fstore_n (lv1 := [(3, .float FP.fconst0), (0, .ref a0), (1, .int x1), (2, .int x2)]) K dX10_shown_39 (by decide) rfl ?_
          refine r_aload_n K 1 dX10_shown_40 rfl ?_
          refine r_iload_n K 3 dX10_shown_41 rfl ?_
          refine r_iconst (v := (1 : Int32)) K dX10_shown_42 (by decide) ?_
          obtain ⟨r10, e11, hf⟩ := ob1_s hf
          refine r_callV (As := [.int x2, .int (1 : Int32)]) (rest := []) (st1 := [.long r10]) (cells1 := 0) (slots1 := 0) (b := a0) (ci := 10) K (fun z => mX10_ofClass l z e11) dX10_shown_43 rfl (fun z => z _ _ ht) rfl ceX10_ofClass q_1086 q_1088 q_39 q_85 q_1089 ⟨Nat.le_of_ble_eq_true rfl, Nat.le_of_ble_eq_true rfl⟩ (Nat.le_of_ble_eq_true rfl) ⟨Nat.le_of_ble_eq_true rfl, Nat.le_of_ble_eq_true rfl⟩ ?_ rfl rfl rfl rfl
          refine r_l2f K dX10_shown_46 ?_
          obtain ⟨y12, ey12, hf⟩ := bnd_g hf
          refine r_nmf ey12 ?_
          refine r_fstore (lv1 := [(4, .float y12), (3, .float FP.fconst0), (0, .ref a0), (1, .int x1), (2, .int x2)]) K dX10_shown_47 (by decide) rfl ?_
          refine r_iconst (v := (0 : Int32)) K dX10_shown_49 (by decide) ?_
          refine r_istore (lv1 := [(5, .int (0 : Int32)), (4, .float y12), (3, .float FP.fconst0), (0, .ref a0), (1, .int x1), (2, .int x2)]) K dX10_shown_50 (by decide) rfl ?_
          refine r_lv [3, 4, 5, 2, 1, 0] rfl ?_
          refine wX10_shown_L52 K ht _ (fun y31 hf => ?_) lf FP.fconst0 (0 : Int32) hf
          refine r_fload_n K 0 dX10_shown_108 rfl ?_
          obtain ⟨r32, e33, hf⟩ := ob1_s hf
          refine r_callS (As := [.float y31]) (rest := []) (st1 := [.int r32]) (cells1 := 0) (slots1 := 0) K (mJxf58ca_floatToIntBits_5c35a l e33) dX10_shown_109 ceJxf58ca_floatToIntBits_5c35a q_1254 q_1255 q_90 q_1256 ⟨Nat.le_of_ble_eq_true rfl, Nat.le_of_ble_eq_true rfl⟩ (Nat.le_of_ble_eq_true rfl) ⟨Nat.le_of_ble_eq_true rfl, Nat.le_of_ble_eq_true rfl⟩ ?_ rfl rfl rfl rfl
          exact r_iret K dX10_shown_112 hf (Nat.le_of_ble_eq_true rfl) (Nat.le_of_ble_eq_true rfl)
        · replace hf := ite_t hf c34
          refine r_bipush (v := (-3 : Int32)) K dX10_shown_35 (by decide) ?_
          exact r_iret K dX10_shown_37 hf (Nat.le_of_ble_eq_true rfl) (Nat.le_of_ble_eq_true rfl)
    · replace hf := ite_t hf c36
      refine r_iconst (v := (-1 : Int32)) K dX10_shown_14 (by decide) ?_
      exact r_iret K dX10_shown_15 hf (Nat.le_of_ble_eq_true rfl) (Nat.le_of_ble_eq_true rfl)
theorem ceX10_taken : CE yX10_taken 1 := ⟨by decide, by decide, by decide +kernel⟩
abbrev rmX10_taken : Room := { frames := 9, cells := 0, slots := 0, locals := 230 }
def fX10_taken_L25 (a0 : Nat) (x1 : Int32) (k : AH → Option (Int64 × AH)) : Nat → Int32 → AH → Option (Int64 × AH)
  | 0, _, _ => none
  | n + 1, x2, h =>
    ob1 (fX10_roadMany a0 h) fun r8 =>
    if r8 ≤ x2 then
      k h
    else
      if x1 ≤ (0 : Int32) then
        k h
      else
        ob1 (gR h a0 10 16) fun b10 =>
        ob1 (aI h b10 0 x2) fun v12 =>
        if x1 = (1 : Int32) then
          ob1 (fX10_ofRoad a0 x2 (7 : Int32) h) fun r23 =>
          ob1 (fX10_addsProduct a0 (Int32.toInt64 v12) r23 h) fun g25 =>
          bnd (x2 + (1 : Int32)) fun y27 =>
          fX10_taken_L25 a0 x1 k n y27 g25
        else
          ob1 (gR h a0 10 16) fun b14 =>
          ob1 (aI h b14 0 x2) fun v16 =>
          ob1 (fX10_lossBy a0 x2 v16 h) fun r18 =>
          ob1 (fX10_addsProduct a0 (Int32.toInt64 v12) r18 h) fun g20 =>
          bnd (x2 + (1 : Int32)) fun y22 =>
          fX10_taken_L25 a0 x1 k n y22 g20
def fX10_taken (a0 : Nat) (x1 : Int32) (h : AH) : Option (Int64 × AH) :=
  ob1 (fX10_isMode x1) fun r1 =>
  if r1 = (0 : Int32) then
    some ((-9223372036854775808 : Int64), h)
  else
    ob2 (fX10_steady a0 x1 h) fun r3 g4 =>
    if r3 = (0 : Int32) then
      some ((-9223372036854775808 : Int64), g4)
    else
      ob1 (fX10_begins a0 g4) fun g6 =>
      fX10_taken_L25 a0 x1 (fun (g31 : AH) =>
        ob1 (gI g31 a0 10 19) fun v32 =>
        if v32 = (0 : Int32) then
          ob1 (gL g31 a0 10 20) fun v34 =>
          some (v34, g31)
        else
          some ((-9223372036854775808 : Int64), g31)
      ) lf (0 : Int32) g6
set_option maxHeartbeats 4000000 in
set_option maxRecDepth 100000 in
theorem wX10_taken_L25 {p : Program} {l : Launch} {e : Env} {s : State} {m : MethodId} {args : Array Value} {below : List Frame} {meth : Method} {c : Code} {G : GG} {b0 : Nat} {h0 : AH} {a0 : Nat} {x1 : Int32} {rr : Int64} {hh : AH} (K : CX p s m args meth c cX10_taken 3 RX10 (some .long) G b0) (ht : isO h0 a0 10) (k : AH → Option (Int64 × AH)) (hk : ∀ (h : AH), k h = some (rr, hh) → WA p l e rmX10_taken s m args below meth c (MQ below (QG G b0 h0 (some (.long rr)) hh) args s (rmX10_taken).cells (rmX10_taken).slots (AB b0)) G b0 3 h0 0 0 h 80 [(0, .ref a0)] []) : ∀ (n : Nat) (x2 : Int32) (h : AH), fX10_taken_L25 a0 x1 k n x2 h = some (rr, hh) → WA p l e rmX10_taken s m args below meth c (MQ below (QG G b0 h0 (some (.long rr)) hh) args s (rmX10_taken).cells (rmX10_taken).slots (AB b0)) G b0 3 h0 0 0 h 25 [(0, .ref a0), (1, .int x1), (2, .int x2)] [] := by
  intro n
  induction n with
  | zero =>
    intro x2 h hf
    rw [fX10_taken_L25] at hf
    cases hf
  | succ n ih =>
    intro x2 h hf
    rw [fX10_taken_L25] at hf
    refine r_iload_n K 2 dX10_taken_25 rfl ?_
    refine r_aload_n K 0 dX10_taken_26 rfl ?_
    obtain ⟨r8, e9, hf⟩ := ob1_s hf
    refine r_callV (As := []) (rest := [.int x2]) (st1 := [.int r8, .int x2]) (cells1 := 0) (slots1 := 0) (b := a0) (ci := 10) K (fun z => mX10_roadMany l z e9) dX10_taken_27 rfl (fun z => z _ _ ht) rfl ceX10_roadMany q_1028 q_1030 q_33 q_85 q_1031 ⟨Nat.le_of_ble_eq_true rfl, Nat.le_of_ble_eq_true rfl⟩ (Nat.le_of_ble_eq_true rfl) ⟨Nat.le_of_ble_eq_true rfl, Nat.le_of_ble_eq_true rfl⟩ ?_ rfl rfl rfl rfl
    refine r_icmp_ge (tgt := 80) K dX10_taken_30 (by decide) (fun c30 => ?_) (fun c30 => ?_)
    · replace hf := ite_t hf c30
      refine r_lv [0] rfl ?_
      exact hk h hf
    · replace hf := ite_f hf c30
      refine r_iload_n K 1 dX10_taken_33 rfl ?_
      refine r_if_le (tgt := 80) K dX10_taken_34 (by decide) (fun c29 => ?_) (fun c29 => ?_)
      · replace hf := ite_t hf c29
        refine r_lv [0] rfl ?_
        exact hk h hf
      · replace hf := ite_f hf c29
        refine r_aload_n K 0 dX10_taken_37 rfl ?_
        refine r_aload_n K 0 dX10_taken_38 rfl ?_
        obtain ⟨b10, e11, hf⟩ := ob1_s hf
        refine r_getR (ci := 10) (k := 16) K dX10_taken_39 inX10 rfl (by decide) rfl q_922 e11 ?_
        refine r_iload_n K 2 dX10_taken_42 rfl ?_
        obtain ⟨v12, e13, hf⟩ := ob1_s hf
        refine r_iaload K dX10_taken_43 e13 ?_
        refine r_i2l K dX10_taken_44 ?_
        refine r_iload_n K 1 dX10_taken_45 rfl ?_
        refine r_iconst (v := (1 : Int32)) K dX10_taken_46 (by decide) ?_
        refine r_icmp_ne (tgt := 60) K dX10_taken_47 (by decide) (fun c28 => ?_) (fun c28 => ?_)
        · replace hf := ite_f hf c28
          refine r_aload_n K 0 dX10_taken_60 rfl ?_
          refine r_iload_n K 2 dX10_taken_61 rfl ?_
          refine r_aload_n K 0 dX10_taken_62 rfl ?_
          obtain ⟨b14, e15, hf⟩ := ob1_s hf
          refine r_getR (ci := 10) (k := 16) K dX10_taken_63 inX10 rfl (by decide) rfl q_922 e15 ?_
          refine r_iload_n K 2 dX10_taken_66 rfl ?_
          obtain ⟨v16, e17, hf⟩ := ob1_s hf
          refine r_iaload K dX10_taken_67 e17 ?_
          obtain ⟨r18, e19, hf⟩ := ob1_s hf
          refine r_callV (As := [.int x2, .int v16]) (rest := [.long (Int32.toInt64 v12), .ref a0]) (st1 := [.long r18, .long (Int32.toInt64 v12), .ref a0]) (cells1 := 0) (slots1 := 0) (b := a0) (ci := 10) K (fun z => mX10_lossBy l z e19) dX10_taken_68 rfl (fun z => z _ _ ht) rfl ceX10_lossBy q_1069 q_1071 q_38 q_85 q_1072 ⟨Nat.le_of_ble_eq_true rfl, Nat.le_of_ble_eq_true rfl⟩ (Nat.le_of_ble_eq_true rfl) ⟨Nat.le_of_ble_eq_true rfl, Nat.le_of_ble_eq_true rfl⟩ ?_ rfl rfl rfl rfl
          obtain ⟨g20, e21, hf⟩ := ob1_s hf
          refine r_callV (As := [.long (Int32.toInt64 v12), .long r18]) (rest := []) (st1 := []) (cells1 := 0) (slots1 := 0) (b := a0) (ci := 10) K (fun z => mX10_addsProduct l z e21) dX10_taken_71 rfl (fun z => z _ _ ht) rfl ceX10_addsProduct q_1206 q_1208 q_60 q_85 q_1209 ⟨Nat.le_of_ble_eq_true rfl, Nat.le_of_ble_eq_true rfl⟩ (Nat.le_of_ble_eq_true rfl) ⟨Nat.le_of_ble_eq_true rfl, Nat.le_of_ble_eq_true rfl⟩ ?_ rfl rfl rfl rfl
          obtain ⟨y22, ey22, hf⟩ := bnd_g hf
          refine r_iinc (lv1 := [(2, .int y22), (0, .ref a0), (1, .int x1)]) K 2 dX10_taken_74 rfl (by rw [ey22]; rfl) (by decide) rfl ?_
          refine r_goto (tgt := 25) K dX10_taken_77 (by decide) ?_
          refine r_lv [1, 2, 0] rfl ?_
          exact ih y22 g20 hf
        · replace hf := ite_t hf c28
          refine r_aload_n K 0 dX10_taken_50 rfl ?_
          refine r_iload_n K 2 dX10_taken_51 rfl ?_
          refine r_bipush (v := (7 : Int32)) K dX10_taken_52 (by decide) ?_
          obtain ⟨r23, e24, hf⟩ := ob1_s hf
          refine r_callV (As := [.int x2, .int (7 : Int32)]) (rest := [.long (Int32.toInt64 v12), .ref a0]) (st1 := [.long r23, .long (Int32.toInt64 v12), .ref a0]) (cells1 := 0) (slots1 := 0) (b := a0) (ci := 10) K (fun z => mX10_ofRoad l z e24) dX10_taken_54 rfl (fun z => z _ _ ht) rfl ceX10_ofRoad q_1051 q_1053 q_36 q_85 q_1054 ⟨Nat.le_of_ble_eq_true rfl, Nat.le_of_ble_eq_true rfl⟩ (Nat.le_of_ble_eq_true rfl) ⟨Nat.le_of_ble_eq_true rfl, Nat.le_of_ble_eq_true rfl⟩ ?_ rfl rfl rfl rfl
          refine r_goto (tgt := 71) K dX10_taken_57 (by decide) ?_
          obtain ⟨g25, e26, hf⟩ := ob1_s hf
          refine r_callV (As := [.long (Int32.toInt64 v12), .long r23]) (rest := []) (st1 := []) (cells1 := 0) (slots1 := 0) (b := a0) (ci := 10) K (fun z => mX10_addsProduct l z e26) dX10_taken_71 rfl (fun z => z _ _ ht) rfl ceX10_addsProduct q_1206 q_1208 q_60 q_85 q_1209 ⟨Nat.le_of_ble_eq_true rfl, Nat.le_of_ble_eq_true rfl⟩ (Nat.le_of_ble_eq_true rfl) ⟨Nat.le_of_ble_eq_true rfl, Nat.le_of_ble_eq_true rfl⟩ ?_ rfl rfl rfl rfl
          obtain ⟨y27, ey27, hf⟩ := bnd_g hf
          refine r_iinc (lv1 := [(2, .int y27), (0, .ref a0), (1, .int x1)]) K 2 dX10_taken_74 rfl (by rw [ey27]; rfl) (by decide) rfl ?_
          refine r_goto (tgt := 25) K dX10_taken_77 (by decide) ?_
          refine r_lv [1, 2, 0] rfl ?_
          exact ih y27 g25 hf
set_option maxHeartbeats 4000000 in
set_option maxRecDepth 100000 in
theorem mX10_taken (l : Launch) {G : GG} {b0 : Nat} {h : AH} {a0 : Nat} {x1 : Int32} {rr : Int64} {hh : AH} (ht : isO h a0 10) (hf : fX10_taken a0 x1 h = some (rr, hh)) : MM l yX10_taken cX10_taken 3 (some .long) rmX10_taken G b0 h [.ref a0, .int x1] (some (.long rr)) hh := by
  refine MM.of (own := RX10) (lv0 := [(0, .ref a0), (1, .int x1)]) (by decide) rfl (Nat.le_of_ble_eq_true rfl) rfl ?_
  intro p e s m args below meth c K hnm
  unfold fX10_taken at hf
  refine r_iload_n K 1 dX10_taken_0 rfl ?_
  obtain ⟨r1, e2, hf⟩ := ob1_s hf
  refine r_callS (As := [.int x1]) (rest := []) (st1 := [.int r1]) (cells1 := 0) (slots1 := 0) K (mX10_isMode l e2) dX10_taken_1 ceX10_isMode q_1158 q_1159 q_85 q_1160 ⟨Nat.le_of_ble_eq_true rfl, Nat.le_of_ble_eq_true rfl⟩ (Nat.le_of_ble_eq_true rfl) ⟨Nat.le_of_ble_eq_true rfl, Nat.le_of_ble_eq_true rfl⟩ ?_ rfl rfl rfl rfl
  refine r_if_eq (tgt := 15) K dX10_taken_4 (by decide) (fun c38 => ?_) (fun c38 => ?_)
  · replace hf := ite_t hf c38
    refine r_ldc2 K dX10_taken_15 q_1060 ?_
    exact r_lret K dX10_taken_18 hf (Nat.le_of_ble_eq_true rfl) (Nat.le_of_ble_eq_true rfl)
  · replace hf := ite_f hf c38
    refine r_aload_n K 0 dX10_taken_7 rfl ?_
    refine r_iload_n K 1 dX10_taken_8 rfl ?_
    obtain ⟨r3, g4, e5, hf⟩ := ob2_s hf
    refine r_callV (As := [.int x1]) (rest := []) (st1 := [.int r3]) (cells1 := 0) (slots1 := 0) (b := a0) (ci := 10) K (fun z => mX10_steady l z e5) dX10_taken_9 rfl (fun z => z _ _ ht) rfl ceX10_steady q_1165 q_1167 q_50 q_85 q_1168 ⟨Nat.le_of_ble_eq_true rfl, Nat.le_of_ble_eq_true rfl⟩ (Nat.le_of_ble_eq_true rfl) ⟨Nat.le_of_ble_eq_true rfl, Nat.le_of_ble_eq_true rfl⟩ ?_ rfl rfl rfl rfl
    refine r_if_ne (tgt := 19) K dX10_taken_12 (by decide) (fun c37 => ?_) (fun c37 => ?_)
    · replace hf := ite_f hf c37
      refine r_aload_n K 0 dX10_taken_19 rfl ?_
      obtain ⟨g6, e7, hf⟩ := ob1_s hf
      refine r_callV (As := []) (rest := []) (st1 := []) (cells1 := 0) (slots1 := 0) (b := a0) (ci := 10) K (fun z => mX10_begins l z e7) dX10_taken_20 rfl (fun z => z _ _ ht) rfl ceX10_begins q_1202 q_1204 q_59 q_85 q_1205 ⟨Nat.le_of_ble_eq_true rfl, Nat.le_of_ble_eq_true rfl⟩ (Nat.le_of_ble_eq_true rfl) ⟨Nat.le_of_ble_eq_true rfl, Nat.le_of_ble_eq_true rfl⟩ ?_ rfl rfl rfl rfl
      refine r_iconst (v := (0 : Int32)) K dX10_taken_23 (by decide) ?_
      refine r_istore_n (lv1 := [(2, .int (0 : Int32)), (0, .ref a0), (1, .int x1)]) K dX10_taken_24 (by decide) rfl ?_
      refine r_lv [1, 2, 0] rfl ?_
      refine wX10_taken_L25 K ht _ (fun g31 hf => ?_) lf (0 : Int32) g6 hf
      refine r_aload_n K 0 dX10_taken_80 rfl ?_
      obtain ⟨v32, e33, hf⟩ := ob1_s hf
      refine r_getI (ci := 10) (k := 19) K dX10_taken_81 inX10 rfl (by decide) rfl q_925 e33 ?_
      refine r_if_eq (tgt := 93) K dX10_taken_84 (by decide) (fun c36 => ?_) (fun c36 => ?_)
      · replace hf := ite_t hf c36
        refine r_aload_n K 0 dX10_taken_93 rfl ?_
        obtain ⟨v34, e35, hf⟩ := ob1_s hf
        refine r_getL (ci := 10) (k := 20) K dX10_taken_94 inX10 rfl (by decide) rfl q_926 e35 ?_
        exact r_lret K dX10_taken_97 hf (Nat.le_of_ble_eq_true rfl) (Nat.le_of_ble_eq_true rfl)
      · replace hf := ite_f hf c36
        refine r_ldc2 K dX10_taken_87 q_1060 ?_
        refine r_goto (tgt := 97) K dX10_taken_90 (by decide) ?_
        exact r_lret K dX10_taken_97 hf (Nat.le_of_ble_eq_true rfl) (Nat.le_of_ble_eq_true rfl)
    · replace hf := ite_t hf c37
      refine r_ldc2 K dX10_taken_15 q_1060 ?_
      exact r_lret K dX10_taken_18 hf (Nat.le_of_ble_eq_true rfl) (Nat.le_of_ble_eq_true rfl)
theorem ceX10_busy : CE yX10_busy 2 := ⟨by decide, by decide, by decide +kernel⟩
abbrev rmX10_busy : Room := { frames := 9, cells := 0, slots := 0, locals := 230 }
def fX10_busy_L48 (a0 : Nat) (x2 : Int32) (x3 : Int32) (x4 : Int32) (h : AH) (k : Int32 → Option (Int32 × AH)) : Nat → Int32 → Int32 → Option (Int32 × AH)
  | 0, _, _ => none
  | n + 1, x5, x6 =>
    ob1 (fX10_roadMany a0 h) fun r10 =>
    if r10 ≤ x6 then
      k x5
    else
      ob1 (gR h a0 10 16) fun b12 =>
      ob1 (aI h b12 0 x6) fun v14 =>
      ob1 (gR h a0 10 16) fun b16 =>
      ob1 (aI h b16 0 x4) fun v18 =>
      if v18 < v14 then
        bnd (x5 + (1 : Int32)) fun y20 =>
        bnd (x6 + (1 : Int32)) fun y21 =>
        fX10_busy_L48 a0 x2 x3 x4 h k n y20 y21
      else
        ob1 (gR h a0 10 16) fun b22 =>
        ob1 (aI h b22 0 x6) fun v24 =>
        ob1 (gR h a0 10 16) fun b26 =>
        ob1 (aI h b26 0 x4) fun v28 =>
        if v24 = v28 then
          if x4 ≤ x6 then
            bnd (x5 + (0 : Int32)) fun y32 =>
            bnd (x6 + (1 : Int32)) fun y33 =>
            fX10_busy_L48 a0 x2 x3 x4 h k n y32 y33
          else
            bnd (x5 + (1 : Int32)) fun y34 =>
            bnd (x6 + (1 : Int32)) fun y35 =>
            fX10_busy_L48 a0 x2 x3 x4 h k n y34 y35
        else
          bnd (x5 + (0 : Int32)) fun y30 =>
          bnd (x6 + (1 : Int32)) fun y31 =>
          fX10_busy_L48 a0 x2 x3 x4 h k n y30 y31
def fX10_busy_L33 (a0 : Nat) (x2 : Int32) (h : AH) (k : Int32 → Option (Int32 × AH)) : Nat → Int32 → Int32 → Option (Int32 × AH)
  | 0, _, _ => none
  | n + 1, x3, x4 =>
    ob1 (fX10_roadMany a0 h) fun r8 =>
    if r8 ≤ x4 then
      k x3
    else
      fX10_busy_L48 a0 x2 x3 x4 h (fun (y40 : Int32) =>
        if y40 = x2 then
          bnd (x4 + (1 : Int32)) fun y42 =>
          fX10_busy_L33 a0 x2 h k n x4 y42
        else
          bnd (x4 + (1 : Int32)) fun y41 =>
          fX10_busy_L33 a0 x2 h k n x3 y41
      ) lf (0 : Int32) (0 : Int32)
def fX10_busy (a0 : Nat) (x1 : Int32) (x2 : Int32) (h : AH) : Option (Int32 × AH) :=
  ob1 (fX10_isMode x1) fun r1 =>
  if r1 = (0 : Int32) then
    some ((-1 : Int32), h)
  else
    ob1 (fX10_isRoad a0 x2 h) fun r3 =>
    if r3 = (0 : Int32) then
      some ((-1 : Int32), h)
    else
      ob2 (fX10_steady a0 x1 h) fun r5 g6 =>
      if r5 = (0 : Int32) then
        some ((-3 : Int32), g6)
      else
        fX10_busy_L33 a0 x2 g6 (fun (y45 : Int32) =>
          some (y45, g6)
        ) lf (-1 : Int32) (0 : Int32)
set_option maxHeartbeats 4000000 in
set_option maxRecDepth 100000 in
theorem wX10_busy_L48 {p : Program} {l : Launch} {e : Env} {s : State} {m : MethodId} {args : Array Value} {below : List Frame} {meth : Method} {c : Code} {G : GG} {b0 : Nat} {h0 : AH} {a0 : Nat} {x2 : Int32} {x3 : Int32} {x4 : Int32} {h : AH} {rr : Int32} {hh : AH} (K : CX p s m args meth c cX10_busy 7 RX10 (some .int) G b0) (ht : isO h0 a0 10) (k : Int32 → Option (Int32 × AH)) (hk : ∀ (x5 : Int32), k x5 = some (rr, hh) → WA p l e rmX10_busy s m args below meth c (MQ below (QG G b0 h0 (some (.int rr)) hh) args s (rmX10_busy).cells (rmX10_busy).slots (AB b0)) G b0 7 h0 0 0 h 114 [(0, .ref a0), (2, .int x2), (3, .int x3), (4, .int x4), (5, .int x5)] []) : ∀ (n : Nat) (x5 : Int32) (x6 : Int32), fX10_busy_L48 a0 x2 x3 x4 h k n x5 x6 = some (rr, hh) → WA p l e rmX10_busy s m args below meth c (MQ below (QG G b0 h0 (some (.int rr)) hh) args s (rmX10_busy).cells (rmX10_busy).slots (AB b0)) G b0 7 h0 0 0 h 48 [(0, .ref a0), (2, .int x2), (3, .int x3), (4, .int x4), (5, .int x5), (6, .int x6)] [] := by
  intro n
  induction n with
  | zero =>
    intro x5 x6 hf
    rw [fX10_busy_L48] at hf
    cases hf
  | succ n ih =>
    intro x5 x6 hf
    rw [fX10_busy_L48] at hf
    refine r_iload K 5 dX10_busy_48 rfl ?_
    refine r_aload_n K 0 dX10_busy_50 rfl ?_
    obtain ⟨r10, e11, hf⟩ := ob1_s hf
    refine r_callV (As := []) (rest := [.int x6]) (st1 := [.int r10, .int x6]) (cells1 := 0) (slots1 := 0) (b := a0) (ci := 10) K (fun z => mX10_roadMany l z e11) dX10_busy_51 rfl (fun z => z _ _ ht) rfl ceX10_roadMany q_1028 q_1030 q_33 q_85 q_1031 ⟨Nat.le_of_ble_eq_true rfl, Nat.le_of_ble_eq_true rfl⟩ (Nat.le_of_ble_eq_true rfl) ⟨Nat.le_of_ble_eq_true rfl, Nat.le_of_ble_eq_true rfl⟩ ?_ rfl rfl rfl rfl
    refine r_icmp_ge (tgt := 114) K dX10_busy_54 (by decide) (fun c39 => ?_) (fun c39 => ?_)
    · replace hf := ite_t hf c39
      refine r_lv [0, 1, 2, 3, 4] rfl ?_
      exact hk x5 hf
    · replace hf := ite_f hf c39
      refine r_iload K 4 dX10_busy_57 rfl ?_
      refine r_aload_n K 0 dX10_busy_59 rfl ?_
      obtain ⟨b12, e13, hf⟩ := ob1_s hf
      refine r_getR (ci := 10) (k := 16) K dX10_busy_60 inX10 rfl (by decide) rfl q_922 e13 ?_
      refine r_iload K 5 dX10_busy_63 rfl ?_
      obtain ⟨v14, e15, hf⟩ := ob1_s hf
      refine r_iaload K dX10_busy_65 e15 ?_
      refine r_aload_n K 0 dX10_busy_66 rfl ?_
      obtain ⟨b16, e17, hf⟩ := ob1_s hf
      refine r_getR (ci := 10) (k := 16) K dX10_busy_67 inX10 rfl (by decide) rfl q_922 e17 ?_
      refine r_iload K 3 dX10_busy_70 rfl ?_
      obtain ⟨v18, e19, hf⟩ := ob1_s hf
      refine r_iaload K dX10_busy_72 e19 ?_
      refine r_icmp_gt (tgt := 100) K dX10_busy_73 (by decide) (fun c38 => ?_) (fun c38 => ?_)
      · replace hf := ite_t hf c38
        refine r_iconst (v := (1 : Int32)) K dX10_busy_100 (by decide) ?_
        refine r_goto (tgt := 105) K dX10_busy_101 (by decide) ?_
        refine r_iadd K dX10_busy_105 ?_
        obtain ⟨y20, ey20, hf⟩ := bnd_g hf
        refine r_nmi ey20 ?_
        refine r_istore (lv1 := [(5, .int y20), (0, .ref a0), (2, .int x2), (3, .int x3), (4, .int x4), (6, .int x6)]) K dX10_busy_106 (by decide) rfl ?_
        obtain ⟨y21, ey21, hf⟩ := bnd_g hf
        refine r_iinc (lv1 := [(6, .int y21), (5, .int y20), (0, .ref a0), (2, .int x2), (3, .int x3), (4, .int x4)]) K 5 dX10_busy_108 rfl (by rw [ey21]; rfl) (by decide) rfl ?_
        refine r_goto (tgt := 48) K dX10_busy_111 (by decide) ?_
        refine r_lv [2, 3, 4, 5, 1, 0] rfl ?_
        exact ih y20 y21 hf
      · replace hf := ite_f hf c38
        refine r_aload_n K 0 dX10_busy_76 rfl ?_
        obtain ⟨b22, e23, hf⟩ := ob1_s hf
        refine r_getR (ci := 10) (k := 16) K dX10_busy_77 inX10 rfl (by decide) rfl q_922 e23 ?_
        refine r_iload K 5 dX10_busy_80 rfl ?_
        obtain ⟨v24, e25, hf⟩ := ob1_s hf
        refine r_iaload K dX10_busy_82 e25 ?_
        refine r_aload_n K 0 dX10_busy_83 rfl ?_
        obtain ⟨b26, e27, hf⟩ := ob1_s hf
        refine r_getR (ci := 10) (k := 16) K dX10_busy_84 inX10 rfl (by decide) rfl q_922 e27 ?_
        refine r_iload K 3 dX10_busy_87 rfl ?_
        obtain ⟨v28, e29, hf⟩ := ob1_s hf
        refine r_iaload K dX10_busy_89 e29 ?_
        refine r_icmp_ne (tgt := 104) K dX10_busy_90 (by decide) (fun c37 => ?_) (fun c37 => ?_)
        · replace hf := ite_f hf c37
          refine r_iconst (v := (0 : Int32)) K dX10_busy_104 (by decide) ?_
          refine r_iadd K dX10_busy_105 ?_
          obtain ⟨y30, ey30, hf⟩ := bnd_g hf
          refine r_nmi ey30 ?_
          refine r_istore (lv1 := [(5, .int y30), (0, .ref a0), (2, .int x2), (3, .int x3), (4, .int x4), (6, .int x6)]) K dX10_busy_106 (by decide) rfl ?_
          obtain ⟨y31, ey31, hf⟩ := bnd_g hf
          refine r_iinc (lv1 := [(6, .int y31), (5, .int y30), (0, .ref a0), (2, .int x2), (3, .int x3), (4, .int x4)]) K 5 dX10_busy_108 rfl (by rw [ey31]; rfl) (by decide) rfl ?_
          refine r_goto (tgt := 48) K dX10_busy_111 (by decide) ?_
          refine r_lv [2, 3, 4, 5, 1, 0] rfl ?_
          exact ih y30 y31 hf
        · replace hf := ite_t hf c37
          refine r_iload K 5 dX10_busy_93 rfl ?_
          refine r_iload K 3 dX10_busy_95 rfl ?_
          refine r_icmp_ge (tgt := 104) K dX10_busy_97 (by decide) (fun c36 => ?_) (fun c36 => ?_)
          · replace hf := ite_t hf c36
            refine r_iconst (v := (0 : Int32)) K dX10_busy_104 (by decide) ?_
            refine r_iadd K dX10_busy_105 ?_
            obtain ⟨y32, ey32, hf⟩ := bnd_g hf
            refine r_nmi ey32 ?_
            refine r_istore (lv1 := [(5, .int y32), (0, .ref a0), (2, .int x2), (3, .int x3), (4, .int x4), (6, .int x6)]) K dX10_busy_106 (by decide) rfl ?_
            obtain ⟨y33, ey33, hf⟩ := bnd_g hf
            refine r_iinc (lv1 := [(6, .int y33), (5, .int y32), (0, .ref a0), (2, .int x2), (3, .int x3), (4, .int x4)]) K 5 dX10_busy_108 rfl (by rw [ey33]; rfl) (by decide) rfl ?_
            refine r_goto (tgt := 48) K dX10_busy_111 (by decide) ?_
            refine r_lv [2, 3, 4, 5, 1, 0] rfl ?_
            exact ih y32 y33 hf
          · replace hf := ite_f hf c36
            refine r_iconst (v := (1 : Int32)) K dX10_busy_100 (by decide) ?_
            refine r_goto (tgt := 105) K dX10_busy_101 (by decide) ?_
            refine r_iadd K dX10_busy_105 ?_
            obtain ⟨y34, ey34, hf⟩ := bnd_g hf
            refine r_nmi ey34 ?_
            refine r_istore (lv1 := [(5, .int y34), (0, .ref a0), (2, .int x2), (3, .int x3), (4, .int x4), (6, .int x6)]) K dX10_busy_106 (by decide) rfl ?_
            obtain ⟨y35, ey35, hf⟩ := bnd_g hf
            refine r_iinc (lv1 := [(6, .int y35), (5, .int y34), (0, .ref a0), (2, .int x2), (3, .int x3), (4, .int x4)]) K 5 dX10_busy_108 rfl (by rw [ey35]; rfl) (by decide) rfl ?_
            refine r_goto (tgt := 48) K dX10_busy_111 (by decide) ?_
            refine r_lv [2, 3, 4, 5, 1, 0] rfl ?_
            exact ih y34 y35 hf
set_option maxHeartbeats 4000000 in
set_option maxRecDepth 100000 in
theorem wX10_busy_L33 {p : Program} {l : Launch} {e : Env} {s : State} {m : MethodId} {args : Array Value} {below : List Frame} {meth : Method} {c : Code} {G : GG} {b0 : Nat} {h0 : AH} {a0 : Nat} {x2 : Int32} {h : AH} {rr : Int32} {hh : AH} (K : CX p s m args meth c cX10_busy 7 RX10 (some .int) G b0) (ht : isO h0 a0 10) (k : Int32 → Option (Int32 × AH)) (hk : ∀ (x3 : Int32), k x3 = some (rr, hh) → WA p l e rmX10_busy s m args below meth c (MQ below (QG G b0 h0 (some (.int rr)) hh) args s (rmX10_busy).cells (rmX10_busy).slots (AB b0)) G b0 7 h0 0 0 h 133 [(3, .int x3)] []) : ∀ (n : Nat) (x3 : Int32) (x4 : Int32), fX10_busy_L33 a0 x2 h k n x3 x4 = some (rr, hh) → WA p l e rmX10_busy s m args below meth c (MQ below (QG G b0 h0 (some (.int rr)) hh) args s (rmX10_busy).cells (rmX10_busy).slots (AB b0)) G b0 7 h0 0 0 h 33 [(0, .ref a0), (2, .int x2), (3, .int x3), (4, .int x4)] [] := by
  intro n
  induction n with
  | zero =>
    intro x3 x4 hf
    rw [fX10_busy_L33] at hf
    cases hf
  | succ n ih =>
    intro x3 x4 hf
    rw [fX10_busy_L33] at hf
    refine r_iload K 3 dX10_busy_33 rfl ?_
    refine r_aload_n K 0 dX10_busy_35 rfl ?_
    obtain ⟨r8, e9, hf⟩ := ob1_s hf
    refine r_callV (As := []) (rest := [.int x4]) (st1 := [.int r8, .int x4]) (cells1 := 0) (slots1 := 0) (b := a0) (ci := 10) K (fun z => mX10_roadMany l z e9) dX10_busy_36 rfl (fun z => z _ _ ht) rfl ceX10_roadMany q_1028 q_1030 q_33 q_85 q_1031 ⟨Nat.le_of_ble_eq_true rfl, Nat.le_of_ble_eq_true rfl⟩ (Nat.le_of_ble_eq_true rfl) ⟨Nat.le_of_ble_eq_true rfl, Nat.le_of_ble_eq_true rfl⟩ ?_ rfl rfl rfl rfl
    refine r_icmp_ge (tgt := 133) K dX10_busy_39 (by decide) (fun c44 => ?_) (fun c44 => ?_)
    · replace hf := ite_t hf c44
      refine r_lv [2] rfl ?_
      exact hk x3 hf
    · replace hf := ite_f hf c44
      refine r_iconst (v := (0 : Int32)) K dX10_busy_42 (by decide) ?_
      refine r_istore (lv1 := [(5, .int (0 : Int32)), (0, .ref a0), (2, .int x2), (3, .int x3), (4, .int x4)]) K dX10_busy_43 (by decide) rfl ?_
      refine r_iconst (v := (0 : Int32)) K dX10_busy_45 (by decide) ?_
      refine r_istore (lv1 := [(6, .int (0 : Int32)), (5, .int (0 : Int32)), (0, .ref a0), (2, .int x2), (3, .int x3), (4, .int x4)]) K dX10_busy_46 (by decide) rfl ?_
      refine r_lv [2, 3, 4, 5, 1, 0] rfl ?_
      refine wX10_busy_L48 K ht _ (fun y40 hf => ?_) lf (0 : Int32) (0 : Int32) hf
      refine r_iload K 4 dX10_busy_114 rfl ?_
      refine r_iload_n K 1 dX10_busy_116 rfl ?_
      refine r_icmp_ne (tgt := 125) K dX10_busy_117 (by decide) (fun c43 => ?_) (fun c43 => ?_)
      · replace hf := ite_f hf c43
        refine r_iload_n K 2 dX10_busy_125 rfl ?_
        refine r_istore_n (lv1 := [(3, .int x3), (0, .ref a0), (2, .int x2), (4, .int x4), (5, .int y40)]) K dX10_busy_126 (by decide) rfl ?_
        obtain ⟨y41, ey41, hf⟩ := bnd_g hf
        refine r_iinc (lv1 := [(4, .int y41), (3, .int x3), (0, .ref a0), (2, .int x2), (5, .int y40)]) K 3 dX10_busy_127 rfl (by rw [ey41]; rfl) (by decide) rfl ?_
        refine r_goto (tgt := 33) K dX10_busy_130 (by decide) ?_
        refine r_lv [2, 3, 1, 0] rfl ?_
        exact ih x3 y41 hf
      · replace hf := ite_t hf c43
        refine r_iload K 3 dX10_busy_120 rfl ?_
        refine r_goto (tgt := 126) K dX10_busy_122 (by decide) ?_
        refine r_istore_n (lv1 := [(3, .int x4), (0, .ref a0), (2, .int x2), (4, .int x4), (5, .int y40)]) K dX10_busy_126 (by decide) rfl ?_
        obtain ⟨y42, ey42, hf⟩ := bnd_g hf
        refine r_iinc (lv1 := [(4, .int y42), (3, .int x4), (0, .ref a0), (2, .int x2), (5, .int y40)]) K 3 dX10_busy_127 rfl (by rw [ey42]; rfl) (by decide) rfl ?_
        refine r_goto (tgt := 33) K dX10_busy_130 (by decide) ?_
        refine r_lv [2, 3, 1, 0] rfl ?_
        exact ih x4 y42 hf
set_option maxHeartbeats 4000000 in
set_option maxRecDepth 100000 in
theorem mX10_busy (l : Launch) {G : GG} {b0 : Nat} {h : AH} {a0 : Nat} {x1 : Int32} {x2 : Int32} {rr : Int32} {hh : AH} (ht : isO h a0 10) (hf : fX10_busy a0 x1 x2 h = some (rr, hh)) : MM l yX10_busy cX10_busy 7 (some .int) rmX10_busy G b0 h [.ref a0, .int x1, .int x2] (some (.int rr)) hh := by
  refine MM.of (own := RX10) (lv0 := [(0, .ref a0), (1, .int x1), (2, .int x2)]) (by decide) rfl (Nat.le_of_ble_eq_true rfl) rfl ?_
  intro p e s m args below meth c K hnm
  unfold fX10_busy at hf
  refine r_iload_n K 1 dX10_busy_0 rfl ?_
  obtain ⟨r1, e2, hf⟩ := ob1_s hf
  refine r_callS (As := [.int x1]) (rest := []) (st1 := [.int r1]) (cells1 := 0) (slots1 := 0) K (mX10_isMode l e2) dX10_busy_1 ceX10_isMode q_1158 q_1159 q_85 q_1160 ⟨Nat.le_of_ble_eq_true rfl, Nat.le_of_ble_eq_true rfl⟩ (Nat.le_of_ble_eq_true rfl) ⟨Nat.le_of_ble_eq_true rfl, Nat.le_of_ble_eq_true rfl⟩ ?_ rfl rfl rfl rfl
  refine r_if_eq (tgt := 15) K dX10_busy_4 (by decide) (fun c48 => ?_) (fun c48 => ?_)
  · replace hf := ite_t hf c48
    refine r_iconst (v := (-1 : Int32)) K dX10_busy_15 (by decide) ?_
    exact r_iret K dX10_busy_16 hf (Nat.le_of_ble_eq_true rfl) (Nat.le_of_ble_eq_true rfl)
  · replace hf := ite_f hf c48
    refine r_aload_n K 0 dX10_busy_7 rfl ?_
    refine r_iload_n K 2 dX10_busy_8 rfl ?_
    obtain ⟨r3, e4, hf⟩ := ob1_s hf
    refine r_callV (As := [.int x2]) (rest := []) (st1 := [.int r3]) (cells1 := 0) (slots1 := 0) (b := a0) (ci := 10) K (fun z => mX10_isRoad l z e4) dX10_busy_9 rfl (fun z => z _ _ ht) rfl ceX10_isRoad q_1036 q_1038 q_34 q_85 q_1039 ⟨Nat.le_of_ble_eq_true rfl, Nat.le_of_ble_eq_true rfl⟩ (Nat.le_of_ble_eq_true rfl) ⟨Nat.le_of_ble_eq_true rfl, Nat.le_of_ble_eq_true rfl⟩ ?_ rfl rfl rfl rfl
    refine r_if_ne (tgt := 17) K dX10_busy_12 (by decide) (fun c47 => ?_) (fun c47 => ?_)
    · replace hf := ite_f hf c47
      refine r_aload_n K 0 dX10_busy_17 rfl ?_
      refine r_iload_n K 1 dX10_busy_18 rfl ?_
      obtain ⟨r5, g6, e7, hf⟩ := ob2_s hf
      refine r_callV (As := [.int x1]) (rest := []) (st1 := [.int r5]) (cells1 := 0) (slots1 := 0) (b := a0) (ci := 10) K (fun z => mX10_steady l z e7) dX10_busy_19 rfl (fun z => z _ _ ht) rfl ceX10_steady q_1165 q_1167 q_50 q_85 q_1168 ⟨Nat.le_of_ble_eq_true rfl, Nat.le_of_ble_eq_true rfl⟩ (Nat.le_of_ble_eq_true rfl) ⟨Nat.le_of_ble_eq_true rfl, Nat.le_of_ble_eq_true rfl⟩ ?_ rfl rfl rfl rfl
      refine r_if_ne (tgt := 28) K dX10_busy_22 (by decide) (fun c46 => ?_) (fun c46 => ?_)
      · replace hf := ite_f hf c46
        refine r_iconst (v := (-1 : Int32)) K dX10_busy_28 (by decide) ?_
        refine r_istore_n (lv1 := [(3, .int (-1 : Int32)), (0, .ref a0), (1, .int x1), (2, .int x2)]) K dX10_busy_29 (by decide) rfl ?_
        refine r_iconst (v := (0 : Int32)) K dX10_busy_30 (by decide) ?_
        refine r_istore (lv1 := [(4, .int (0 : Int32)), (3, .int (-1 : Int32)), (0, .ref a0), (1, .int x1), (2, .int x2)]) K dX10_busy_31 (by decide) rfl ?_
        refine r_lv [2, 4, 1, 0] rfl ?_
        refine wX10_busy_L33 K ht _ (fun y45 hf => ?_) lf (-1 : Int32) (0 : Int32) hf
        refine r_iload_n K 0 dX10_busy_133 rfl ?_
        exact r_iret K dX10_busy_134 hf (Nat.le_of_ble_eq_true rfl) (Nat.le_of_ble_eq_true rfl)
      · replace hf := ite_t hf c46
        refine r_bipush (v := (-3 : Int32)) K dX10_busy_25 (by decide) ?_
        exact r_iret K dX10_busy_27 hf (Nat.le_of_ble_eq_true rfl) (Nat.le_of_ble_eq_true rfl)
    · replace hf := ite_t hf c47
      refine r_iconst (v := (-1 : Int32)) K dX10_busy_15 (by decide) ?_
      exact r_iret K dX10_busy_16 hf (Nat.le_of_ble_eq_true rfl) (Nat.le_of_ble_eq_true rfl)
theorem ceX10_allBy : CE yX10_allBy 2 := ⟨by decide, by decide, by decide +kernel⟩
abbrev rmX10_allBy : Room := { frames := 2, cells := 0, slots := 0, locals := 50 }
def fX10_allBy (a0 : Nat) (x1 : Int32) (x2 : Int32) (h : AH) : Option Int64 :=
  if x2 = (0 : Int32) then
    some (0 : Int64)
  else
    ob1 (fX10_costBy a0 x1 x2 h) fun r1 =>
    some ((Int32.toInt64 x2) * r1)
set_option maxHeartbeats 4000000 in
set_option maxRecDepth 100000 in
theorem mX10_allBy (l : Launch) {G : GG} {b0 : Nat} {h : AH} {a0 : Nat} {x1 : Int32} {x2 : Int32} {rr : Int64} (ht : isO h a0 10) (hf : fX10_allBy a0 x1 x2 h = some rr) : MM l yX10_allBy cX10_allBy 3 (some .long) rmX10_allBy G b0 h [.ref a0, .int x1, .int x2] (some (.long rr)) h := by
  refine MM.of (own := RX10) (lv0 := [(0, .ref a0), (1, .int x1), (2, .int x2)]) (by decide) rfl (Nat.le_of_ble_eq_true rfl) rfl ?_
  intro p e s m args below meth c K hnm
  unfold fX10_allBy at hf
  refine r_iload_n K 2 dX10_allBy_0 rfl ?_
  refine r_if_ne (tgt := 8) K dX10_allBy_1 (by decide) (fun c3 => ?_) (fun c3 => ?_)
  · replace hf := ite_f hf c3
    refine r_iload_n K 2 dX10_allBy_8 rfl ?_
    refine r_i2l K dX10_allBy_9 ?_
    refine r_aload_n K 0 dX10_allBy_10 rfl ?_
    refine r_iload_n K 1 dX10_allBy_11 rfl ?_
    refine r_iload_n K 2 dX10_allBy_12 rfl ?_
    obtain ⟨r1, e2, hf⟩ := ob1_s hf
    refine r_callV (As := [.int x1, .int x2]) (rest := [.long (Int32.toInt64 x2)]) (st1 := [.long r1, .long (Int32.toInt64 x2)]) (cells1 := 0) (slots1 := 0) (b := a0) (ci := 10) K (fun z => mX10_costBy l z e2) dX10_allBy_13 rfl (fun z => z _ _ ht) rfl ceX10_costBy q_1065 q_1067 q_37 q_85 q_1068 ⟨Nat.le_of_ble_eq_true rfl, Nat.le_of_ble_eq_true rfl⟩ (Nat.le_of_ble_eq_true rfl) ⟨Nat.le_of_ble_eq_true rfl, Nat.le_of_ble_eq_true rfl⟩ ?_ rfl rfl rfl rfl
    refine r_lmul K dX10_allBy_16 ?_
    exact r_lret K dX10_allBy_17 (retp hf) (Nat.le_of_ble_eq_true rfl) (Nat.le_of_ble_eq_true rfl)
  · replace hf := ite_t hf c3
    refine r_lconst (v := (0 : Int64)) K dX10_allBy_4 (by decide) ?_
    refine r_goto (tgt := 17) K dX10_allBy_5 (by decide) ?_
    exact r_lret K dX10_allBy_17 (retp hf) (Nat.le_of_ble_eq_true rfl) (Nat.le_of_ble_eq_true rfl)
theorem ceX10_tries : CE yX10_tries 4 := ⟨by decide, by decide, by decide +kernel⟩
abbrev rmX10_tries : Room := { frames := 0, cells := 0, slots := 0, locals := 0 }
def fX10_tries (a0 : Nat) (x1 : Int32) (x2 : Int32) (x3 : Int64) (x5 : Int32) (h : AH) : Option AH :=
  ob1 (gR h a0 10 23) fun b1 =>
  ob1 (aL h b1 x1) fun v3 =>
  if (9223372036854775807 : Int64) ≤ v3 then
    some h
  else
    ob1 (gR h a0 10 23) fun b5 =>
    ob1 (aL h b5 x1) fun v7 =>
    ob1 (gR h a0 10 23) fun b9 =>
    ob1 (aL h b9 x2) fun v11 =>
    if v11 ≤ (v7 + x3) then
      some h
    else
      ob1 (gR h a0 10 23) fun b13 =>
      ob1 (gR h a0 10 23) fun b15 =>
      ob1 (aL h b15 x1) fun v17 =>
      ob1 (sL h b13 x2 (v17 + x3)) fun g19 =>
      ob1 (gR g19 a0 10 24) fun b21 =>
      ob1 (sI g19 b21 x2 x5) fun g23 =>
      some g23
set_option maxHeartbeats 4000000 in
set_option maxRecDepth 100000 in
theorem mX10_tries (l : Launch) {G : GG} {b0 : Nat} {h : AH} {a0 : Nat} {x1 : Int32} {x2 : Int32} {x3 : Int64} {x5 : Int32} {hh : AH} (ht : isO h a0 10) (hf : fX10_tries a0 x1 x2 x3 x5 h = some hh) : MM l yX10_tries cX10_tries 6 (none) rmX10_tries G b0 h [.ref a0, .int x1, .int x2, .long x3, .int x5] none hh := by
  refine MM.of (own := RX10) (lv0 := [(0, .ref a0), (1, .int x1), (2, .int x2), (3, .long x3), (5, .int x5)]) (by decide) rfl (Nat.le_of_ble_eq_true rfl) rfl ?_
  intro p e s m args below meth c K hnm
  unfold fX10_tries at hf
  refine r_aload_n K 0 dX10_tries_0 rfl ?_
  obtain ⟨b1, e2, hf⟩ := ob1_s hf
  refine r_getR (ci := 10) (k := 23) K dX10_tries_1 inX10 rfl (by decide) rfl q_929 e2 ?_
  refine r_iload_n K 1 dX10_tries_4 rfl ?_
  obtain ⟨v3, e4, hf⟩ := ob1_s hf
  refine r_laload K dX10_tries_5 e4 ?_
  refine r_ldc2 K dX10_tries_6 q_1177 ?_
  refine r_lif_ge (tgt := 53) K dX10_tries_9 dX10_tries_10 (by decide) (fun c26 => ?_) (fun c26 => ?_)
  · replace hf := ite_t hf c26
    exact r_vret K dX10_tries_53 hf (Nat.le_of_ble_eq_true rfl) (Nat.le_of_ble_eq_true rfl)
  · replace hf := ite_f hf c26
    refine r_aload_n K 0 dX10_tries_13 rfl ?_
    obtain ⟨b5, e6, hf⟩ := ob1_s hf
    refine r_getR (ci := 10) (k := 23) K dX10_tries_14 inX10 rfl (by decide) rfl q_929 e6 ?_
    refine r_iload_n K 1 dX10_tries_17 rfl ?_
    obtain ⟨v7, e8, hf⟩ := ob1_s hf
    refine r_laload K dX10_tries_18 e8 ?_
    refine r_lload_n K 3 dX10_tries_19 rfl ?_
    refine r_ladd K dX10_tries_20 ?_
    refine r_aload_n K 0 dX10_tries_21 rfl ?_
    obtain ⟨b9, e10, hf⟩ := ob1_s hf
    refine r_getR (ci := 10) (k := 23) K dX10_tries_22 inX10 rfl (by decide) rfl q_929 e10 ?_
    refine r_iload_n K 2 dX10_tries_25 rfl ?_
    obtain ⟨v11, e12, hf⟩ := ob1_s hf
    refine r_laload K dX10_tries_26 e12 ?_
    refine r_lif_ge (tgt := 53) K dX10_tries_27 dX10_tries_28 (by decide) (fun c25 => ?_) (fun c25 => ?_)
    · replace hf := ite_t hf c25
      exact r_vret K dX10_tries_53 hf (Nat.le_of_ble_eq_true rfl) (Nat.le_of_ble_eq_true rfl)
    · replace hf := ite_f hf c25
      refine r_aload_n K 0 dX10_tries_31 rfl ?_
      obtain ⟨b13, e14, hf⟩ := ob1_s hf
      refine r_getR (ci := 10) (k := 23) K dX10_tries_32 inX10 rfl (by decide) rfl q_929 e14 ?_
      refine r_iload_n K 2 dX10_tries_35 rfl ?_
      refine r_aload_n K 0 dX10_tries_36 rfl ?_
      obtain ⟨b15, e16, hf⟩ := ob1_s hf
      refine r_getR (ci := 10) (k := 23) K dX10_tries_37 inX10 rfl (by decide) rfl q_929 e16 ?_
      refine r_iload_n K 1 dX10_tries_40 rfl ?_
      obtain ⟨v17, e18, hf⟩ := ob1_s hf
      refine r_laload K dX10_tries_41 e18 ?_
      refine r_lload_n K 3 dX10_tries_42 rfl ?_
      refine r_ladd K dX10_tries_43 ?_
      obtain ⟨g19, e20, hf⟩ := ob1_s hf
      refine r_lastore K dX10_tries_44 e20 ?_
      refine r_aload_n K 0 dX10_tries_45 rfl ?_
      obtain ⟨b21, e22, hf⟩ := ob1_s hf
      refine r_getR (ci := 10) (k := 24) K dX10_tries_46 inX10 rfl (by decide) rfl q_930 e22 ?_
      refine r_iload_n K 2 dX10_tries_49 rfl ?_
      refine r_iload K 4 dX10_tries_50 rfl ?_
      obtain ⟨g23, e24, hf⟩ := ob1_s hf
      refine r_iastore K dX10_tries_52 e24 ?_
      exact r_vret K dX10_tries_53 hf (Nat.le_of_ble_eq_true rfl) (Nat.le_of_ble_eq_true rfl)
theorem ceX10_layFar : CE yX10_layFar 0 := ⟨by decide, by decide, by decide +kernel⟩
abbrev rmX10_layFar : Room := { frames := 3, cells := 0, slots := 0, locals := 72 }
def fX10_layFar_L2 (a0 : Nat) (k : AH → Option AH) : Nat → Int32 → AH → Option AH
  | 0, _, _ => none
  | n + 1, x1, h =>
    if (6 : Int32) ≤ x1 then
      k h
    else
      ob1 (gR h a0 10 23) fun b1 =>
      if x1 = (0 : Int32) then
        ob1 (sL h b1 x1 (0 : Int64)) fun g6 =>
        bnd (x1 + (1 : Int32)) fun y8 =>
        fX10_layFar_L2 a0 k n y8 g6
      else
        ob1 (sL h b1 x1 (9223372036854775807 : Int64)) fun g3 =>
        bnd (x1 + (1 : Int32)) fun y5 =>
        fX10_layFar_L2 a0 k n y5 g3
def fX10_layFar_L41 (a0 : Nat) (x1 : Int32) (k : AH → Option AH) : Nat → Int32 → AH → Option AH
  | 0, _, _ => none
  | n + 1, x2, h =>
    ob1 (fX10_roadMany a0 h) fun r12 =>
    if r12 ≤ x2 then
      k h
    else
      ob1 (fX10_ofRoad a0 x2 (0 : Int32) h) fun r14 =>
      bnd (Int64.toInt32 r14) fun y16 =>
      ob1 (fX10_ofRoad a0 x2 (1 : Int32) h) fun r17 =>
      bnd (Int64.toInt32 r17) fun y19 =>
      ob1 (gR h a0 10 21) fun b20 =>
      ob1 (aI h b20 0 x2) fun v22 =>
      ob1 (fX10_allBy a0 x2 (v22 + (1 : Int32)) h) fun r24 =>
      ob1 (gR h a0 10 21) fun b26 =>
      ob1 (aI h b26 0 x2) fun v28 =>
      ob1 (fX10_allBy a0 x2 v28 h) fun r30 =>
      ob1 (fX10_tries a0 y16 y19 (r24 - r30) x2 h) fun g32 =>
      ob1 (gR g32 a0 10 21) fun b34 =>
      ob1 (aI g32 b34 0 x2) fun v36 =>
      if v36 ≤ (0 : Int32) then
        bnd (x2 + (1 : Int32)) fun y38 =>
        fX10_layFar_L41 a0 x1 k n y38 g32
      else
        ob1 (gR g32 a0 10 21) fun b39 =>
        ob1 (aI g32 b39 0 x2) fun v41 =>
        ob1 (fX10_allBy a0 x2 (v41 - (1 : Int32)) g32) fun r43 =>
        ob1 (gR g32 a0 10 21) fun b45 =>
        ob1 (aI g32 b45 0 x2) fun v47 =>
        ob1 (fX10_allBy a0 x2 v47 g32) fun r49 =>
        ob1 (fX10_tries a0 y19 y16 (r43 - r49) ((-1 : Int32) - x2) g32) fun g51 =>
        bnd (x2 + (1 : Int32)) fun y53 =>
        fX10_layFar_L41 a0 x1 k n y53 g51
def fX10_layFar_L33 (a0 : Nat) (k : AH → Option AH) : Nat → Int32 → AH → Option AH
  | 0, _, _ => none
  | n + 1, x1, h =>
    if (6 : Int32) ≤ x1 then
      k h
    else
      fX10_layFar_L41 a0 x1 (fun (g56 : AH) =>
        bnd (x1 + (1 : Int32)) fun y57 =>
        fX10_layFar_L33 a0 k n y57 g56
      ) lf (0 : Int32) h
def fX10_layFar (a0 : Nat) (h : AH) : Option AH :=
  fX10_layFar_L2 a0 (fun (g11 : AH) =>
    fX10_layFar_L33 a0 (fun (g59 : AH) =>
      some g59
    ) lf (0 : Int32) g11
  ) lf (0 : Int32) h
set_option maxHeartbeats 4000000 in
set_option maxRecDepth 100000 in
theorem wX10_layFar_L2 {p : Program} {l : Launch} {e : Env} {s : State} {m : MethodId} {args : Array Value} {below : List Frame} {meth : Method} {c : Code} {G : GG} {b0 : Nat} {h0 : AH} {a0 : Nat} {hh : AH} (K : CX p s m args meth c cX10_layFar 5 RX10 (none) G b0) (ht : isO h0 a0 10) (k : AH → Option AH) (hk : ∀ (h : AH), k h = some hh → WA p l e rmX10_layFar s m args below meth c (MQ below (QG G b0 h0 none hh) args s (rmX10_layFar).cells (rmX10_layFar).slots (AB b0)) G b0 5 h0 0 0 h 31 [(0, .ref a0)] []) : ∀ (n : Nat) (x1 : Int32) (h : AH), fX10_layFar_L2 a0 k n x1 h = some hh → WA p l e rmX10_layFar s m args below meth c (MQ below (QG G b0 h0 none hh) args s (rmX10_layFar).cells (rmX10_layFar).slots (AB b0)) G b0 5 h0 0 0 h 2 [(0, .ref a0), (1, .int x1)] [] := by
  intro n
  induction n with
  | zero =>
    intro x1 h hf
    rw [fX10_layFar_L2] at hf
    cases hf
  | succ n ih =>
    intro x1 h hf
    rw [fX10_layFar_L2] at hf
    refine r_iload_n K 1 dX10_layFar_2 rfl ?_
    refine r_bipush (v := (6 : Int32)) K dX10_layFar_3 (by decide) ?_
    refine r_icmp_ge (tgt := 31) K dX10_layFar_5 (by decide) (fun c10 => ?_) (fun c10 => ?_)
    · replace hf := ite_t hf c10
      refine r_lv [0] rfl ?_
      exact hk h hf
    · replace hf := ite_f hf c10
      refine r_aload_n K 0 dX10_layFar_8 rfl ?_
      obtain ⟨b1, e2, hf⟩ := ob1_s hf
      refine r_getR (ci := 10) (k := 23) K dX10_layFar_9 inX10 rfl (by decide) rfl q_929 e2 ?_
      refine r_iload_n K 1 dX10_layFar_12 rfl ?_
      refine r_iload_n K 1 dX10_layFar_13 rfl ?_
      refine r_if_ne (tgt := 21) K dX10_layFar_14 (by decide) (fun c9 => ?_) (fun c9 => ?_)
      · replace hf := ite_f hf c9
        refine r_ldc2 K dX10_layFar_21 q_1177 ?_
        obtain ⟨g3, e4, hf⟩ := ob1_s hf
        refine r_lastore K dX10_layFar_24 e4 ?_
        obtain ⟨y5, ey5, hf⟩ := bnd_g hf
        refine r_iinc (lv1 := [(1, .int y5), (0, .ref a0)]) K 1 dX10_layFar_25 rfl (by rw [ey5]; rfl) (by decide) rfl ?_
        refine r_goto (tgt := 2) K dX10_layFar_28 (by decide) ?_
        refine r_lv [1, 0] rfl ?_
        exact ih y5 g3 hf
      · replace hf := ite_t hf c9
        refine r_lconst (v := (0 : Int64)) K dX10_layFar_17 (by decide) ?_
        refine r_goto (tgt := 24) K dX10_layFar_18 (by decide) ?_
        obtain ⟨g6, e7, hf⟩ := ob1_s hf
        refine r_lastore K dX10_layFar_24 e7 ?_
        obtain ⟨y8, ey8, hf⟩ := bnd_g hf
        refine r_iinc (lv1 := [(1, .int y8), (0, .ref a0)]) K 1 dX10_layFar_25 rfl (by rw [ey8]; rfl) (by decide) rfl ?_
        refine r_goto (tgt := 2) K dX10_layFar_28 (by decide) ?_
        refine r_lv [1, 0] rfl ?_
        exact ih y8 g6 hf
set_option maxHeartbeats 4000000 in
set_option maxRecDepth 100000 in
theorem wX10_layFar_L41 {p : Program} {l : Launch} {e : Env} {s : State} {m : MethodId} {args : Array Value} {below : List Frame} {meth : Method} {c : Code} {G : GG} {b0 : Nat} {h0 : AH} {a0 : Nat} {x1 : Int32} {hh : AH} (K : CX p s m args meth c cX10_layFar 5 RX10 (none) G b0) (ht : isO h0 a0 10) (k : AH → Option AH) (hk : ∀ (h : AH), k h = some hh → WA p l e rmX10_layFar s m args below meth c (MQ below (QG G b0 h0 none hh) args s (rmX10_layFar).cells (rmX10_layFar).slots (AB b0)) G b0 5 h0 0 0 h 149 [(0, .ref a0), (1, .int x1)] []) : ∀ (n : Nat) (x2 : Int32) (h : AH), fX10_layFar_L41 a0 x1 k n x2 h = some hh → WA p l e rmX10_layFar s m args below meth c (MQ below (QG G b0 h0 none hh) args s (rmX10_layFar).cells (rmX10_layFar).slots (AB b0)) G b0 5 h0 0 0 h 41 [(0, .ref a0), (1, .int x1), (2, .int x2)] [] := by
  intro n
  induction n with
  | zero =>
    intro x2 h hf
    rw [fX10_layFar_L41] at hf
    cases hf
  | succ n ih =>
    intro x2 h hf
    rw [fX10_layFar_L41] at hf
    refine r_iload_n K 2 dX10_layFar_41 rfl ?_
    refine r_aload_n K 0 dX10_layFar_42 rfl ?_
    obtain ⟨r12, e13, hf⟩ := ob1_s hf
    refine r_callV (As := []) (rest := [.int x2]) (st1 := [.int r12, .int x2]) (cells1 := 0) (slots1 := 0) (b := a0) (ci := 10) K (fun z => mX10_roadMany l z e13) dX10_layFar_43 rfl (fun z => z _ _ ht) rfl ceX10_roadMany q_1028 q_1030 q_33 q_85 q_1031 ⟨Nat.le_of_ble_eq_true rfl, Nat.le_of_ble_eq_true rfl⟩ (Nat.le_of_ble_eq_true rfl) ⟨Nat.le_of_ble_eq_true rfl, Nat.le_of_ble_eq_true rfl⟩ ?_ rfl rfl rfl rfl
    refine r_icmp_ge (tgt := 149) K dX10_layFar_46 (by decide) (fun c55 => ?_) (fun c55 => ?_)
    · replace hf := ite_t hf c55
      refine r_lv [0, 1] rfl ?_
      exact hk h hf
    · replace hf := ite_f hf c55
      refine r_aload_n K 0 dX10_layFar_49 rfl ?_
      refine r_iload_n K 2 dX10_layFar_50 rfl ?_
      refine r_iconst (v := (0 : Int32)) K dX10_layFar_51 (by decide) ?_
      obtain ⟨r14, e15, hf⟩ := ob1_s hf
      refine r_callV (As := [.int x2, .int (0 : Int32)]) (rest := []) (st1 := [.long r14]) (cells1 := 0) (slots1 := 0) (b := a0) (ci := 10) K (fun z => mX10_ofRoad l z e15) dX10_layFar_52 rfl (fun z => z _ _ ht) rfl ceX10_ofRoad q_1051 q_1053 q_36 q_85 q_1054 ⟨Nat.le_of_ble_eq_true rfl, Nat.le_of_ble_eq_true rfl⟩ (Nat.le_of_ble_eq_true rfl) ⟨Nat.le_of_ble_eq_true rfl, Nat.le_of_ble_eq_true rfl⟩ ?_ rfl rfl rfl rfl
      refine r_l2i K dX10_layFar_55 ?_
      obtain ⟨y16, ey16, hf⟩ := bnd_g hf
      refine r_nmi ey16 ?_
      refine r_istore_n (lv1 := [(3, .int y16), (0, .ref a0), (1, .int x1), (2, .int x2)]) K dX10_layFar_56 (by decide) rfl ?_
      refine r_aload_n K 1 dX10_layFar_57 rfl ?_
      refine r_iload_n K 3 dX10_layFar_58 rfl ?_
      refine r_iconst (v := (1 : Int32)) K dX10_layFar_59 (by decide) ?_
      obtain ⟨r17, e18, hf⟩ := ob1_s hf
      refine r_callV (As := [.int x2, .int (1 : Int32)]) (rest := []) (st1 := [.long r17]) (cells1 := 0) (slots1 := 0) (b := a0) (ci := 10) K (fun z => mX10_ofRoad l z e18) dX10_layFar_60 rfl (fun z => z _ _ ht) rfl ceX10_ofRoad q_1051 q_1053 q_36 q_85 q_1054 ⟨Nat.le_of_ble_eq_true rfl, Nat.le_of_ble_eq_true rfl⟩ (Nat.le_of_ble_eq_true rfl) ⟨Nat.le_of_ble_eq_true rfl, Nat.le_of_ble_eq_true rfl⟩ ?_ rfl rfl rfl rfl
      refine r_l2i K dX10_layFar_63 ?_
      obtain ⟨y19, ey19, hf⟩ := bnd_g hf
      refine r_nmi ey19 ?_
      refine r_istore (lv1 := [(4, .int y19), (3, .int y16), (0, .ref a0), (1, .int x1), (2, .int x2)]) K dX10_layFar_64 (by decide) rfl ?_
      refine r_aload_n K 2 dX10_layFar_66 rfl ?_
      refine r_iload_n K 1 dX10_layFar_67 rfl ?_
      refine r_iload K 0 dX10_layFar_68 rfl ?_
      refine r_aload_n K 2 dX10_layFar_70 rfl ?_
      refine r_iload_n K 4 dX10_layFar_71 rfl ?_
      refine r_aload_n K 2 dX10_layFar_72 rfl ?_
      obtain ⟨b20, e21, hf⟩ := ob1_s hf
      refine r_getR (ci := 10) (k := 21) K dX10_layFar_73 inX10 rfl (by decide) rfl q_927 e21 ?_
      refine r_iload_n K 4 dX10_layFar_76 rfl ?_
      obtain ⟨v22, e23, hf⟩ := ob1_s hf
      refine r_iaload K dX10_layFar_77 e23 ?_
      refine r_iconst (v := (1 : Int32)) K dX10_layFar_78 (by decide) ?_
      refine r_iadd K dX10_layFar_79 ?_
      obtain ⟨r24, e25, hf⟩ := ob1_s hf
      refine r_callV (As := [.int x2, .int (v22 + (1 : Int32))]) (rest := [.int y19, .int y16, .ref a0]) (st1 := [.long r24, .int y19, .int y16, .ref a0]) (cells1 := 0) (slots1 := 0) (b := a0) (ci := 10) K (fun z => mX10_allBy l z e25) dX10_layFar_80 rfl (fun z => z _ _ ht) rfl ceX10_allBy q_1284 q_1286 q_65 q_85 q_1287 ⟨Nat.le_of_ble_eq_true rfl, Nat.le_of_ble_eq_true rfl⟩ (Nat.le_of_ble_eq_true rfl) ⟨Nat.le_of_ble_eq_true rfl, Nat.le_of_ble_eq_true rfl⟩ ?_ rfl rfl rfl rfl
      refine r_aload_n K 2 dX10_layFar_83 rfl ?_
      refine r_iload_n K 4 dX10_layFar_84 rfl ?_
      refine r_aload_n K 2 dX10_layFar_85 rfl ?_
      obtain ⟨b26, e27, hf⟩ := ob1_s hf
      refine r_getR (ci := 10) (k := 21) K dX10_layFar_86 inX10 rfl (by decide) rfl q_927 e27 ?_
      refine r_iload_n K 4 dX10_layFar_89 rfl ?_
      obtain ⟨v28, e29, hf⟩ := ob1_s hf
      refine r_iaload K dX10_layFar_90 e29 ?_
      obtain ⟨r30, e31, hf⟩ := ob1_s hf
      refine r_callV (As := [.int x2, .int v28]) (rest := [.long r24, .int y19, .int y16, .ref a0]) (st1 := [.long r30, .long r24, .int y19, .int y16, .ref a0]) (cells1 := 0) (slots1 := 0) (b := a0) (ci := 10) K (fun z => mX10_allBy l z e31) dX10_layFar_91 rfl (fun z => z _ _ ht) rfl ceX10_allBy q_1284 q_1286 q_65 q_85 q_1287 ⟨Nat.le_of_ble_eq_true rfl, Nat.le_of_ble_eq_true rfl⟩ (Nat.le_of_ble_eq_true rfl) ⟨Nat.le_of_ble_eq_true rfl, Nat.le_of_ble_eq_true rfl⟩ ?_ rfl rfl rfl rfl
      refine r_lsub K dX10_layFar_94 ?_
      refine r_iload_n K 4 dX10_layFar_95 rfl ?_
      obtain ⟨g32, e33, hf⟩ := ob1_s hf
      refine r_callV (As := [.int y16, .int y19, .long (r24 - r30), .int x2]) (rest := []) (st1 := []) (cells1 := 0) (slots1 := 0) (b := a0) (ci := 10) K (fun z => mX10_tries l z e33) dX10_layFar_96 rfl (fun z => z _ _ ht) rfl ceX10_tries q_1288 q_1290 q_66 q_85 q_1291 ⟨Nat.le_of_ble_eq_true rfl, Nat.le_of_ble_eq_true rfl⟩ (Nat.le_of_ble_eq_true rfl) ⟨Nat.le_of_ble_eq_true rfl, Nat.le_of_ble_eq_true rfl⟩ ?_ rfl rfl rfl rfl
      refine r_aload_n K 2 dX10_layFar_99 rfl ?_
      obtain ⟨b34, e35, hf⟩ := ob1_s hf
      refine r_getR (ci := 10) (k := 21) K dX10_layFar_100 inX10 rfl (by decide) rfl q_927 e35 ?_
      refine r_iload_n K 4 dX10_layFar_103 rfl ?_
      obtain ⟨v36, e37, hf⟩ := ob1_s hf
      refine r_iaload K dX10_layFar_104 e37 ?_
      refine r_if_le (tgt := 143) K dX10_layFar_105 (by decide) (fun c54 => ?_) (fun c54 => ?_)
      · replace hf := ite_t hf c54
        obtain ⟨y38, ey38, hf⟩ := bnd_g hf
        refine r_iinc (lv1 := [(2, .int y38), (4, .int y19), (3, .int y16), (0, .ref a0), (1, .int x1)]) K 4 dX10_layFar_143 rfl (by rw [ey38]; rfl) (by decide) rfl ?_
        refine r_goto (tgt := 41) K dX10_layFar_146 (by decide) ?_
        refine r_lv [3, 4, 0] rfl ?_
        exact ih y38 g32 hf
      · replace hf := ite_f hf c54
        refine r_aload_n K 2 dX10_layFar_108 rfl ?_
        refine r_iload K 0 dX10_layFar_109 rfl ?_
        refine r_iload_n K 1 dX10_layFar_111 rfl ?_
        refine r_aload_n K 2 dX10_layFar_112 rfl ?_
        refine r_iload_n K 4 dX10_layFar_113 rfl ?_
        refine r_aload_n K 2 dX10_layFar_114 rfl ?_
        obtain ⟨b39, e40, hf⟩ := ob1_s hf
        refine r_getR (ci := 10) (k := 21) K dX10_layFar_115 inX10 rfl (by decide) rfl q_927 e40 ?_
        refine r_iload_n K 4 dX10_layFar_118 rfl ?_
        obtain ⟨v41, e42, hf⟩ := ob1_s hf
        refine r_iaload K dX10_layFar_119 e42 ?_
        refine r_iconst (v := (1 : Int32)) K dX10_layFar_120 (by decide) ?_
        refine r_isub K dX10_layFar_121 ?_
        obtain ⟨r43, e44, hf⟩ := ob1_s hf
        refine r_callV (As := [.int x2, .int (v41 - (1 : Int32))]) (rest := [.int y16, .int y19, .ref a0]) (st1 := [.long r43, .int y16, .int y19, .ref a0]) (cells1 := 0) (slots1 := 0) (b := a0) (ci := 10) K (fun z => mX10_allBy l z e44) dX10_layFar_122 rfl (fun z => z _ _ ht) rfl ceX10_allBy q_1284 q_1286 q_65 q_85 q_1287 ⟨Nat.le_of_ble_eq_true rfl, Nat.le_of_ble_eq_true rfl⟩ (Nat.le_of_ble_eq_true rfl) ⟨Nat.le_of_ble_eq_true rfl, Nat.le_of_ble_eq_true rfl⟩ ?_ rfl rfl rfl rfl
        refine r_aload_n K 2 dX10_layFar_125 rfl ?_
        refine r_iload_n K 4 dX10_layFar_126 rfl ?_
        refine r_aload_n K 2 dX10_layFar_127 rfl ?_
        obtain ⟨b45, e46, hf⟩ := ob1_s hf
        refine r_getR (ci := 10) (k := 21) K dX10_layFar_128 inX10 rfl (by decide) rfl q_927 e46 ?_
        refine r_iload_n K 4 dX10_layFar_131 rfl ?_
        obtain ⟨v47, e48, hf⟩ := ob1_s hf
        refine r_iaload K dX10_layFar_132 e48 ?_
        obtain ⟨r49, e50, hf⟩ := ob1_s hf
        refine r_callV (As := [.int x2, .int v47]) (rest := [.long r43, .int y16, .int y19, .ref a0]) (st1 := [.long r49, .long r43, .int y16, .int y19, .ref a0]) (cells1 := 0) (slots1 := 0) (b := a0) (ci := 10) K (fun z => mX10_allBy l z e50) dX10_layFar_133 rfl (fun z => z _ _ ht) rfl ceX10_allBy q_1284 q_1286 q_65 q_85 q_1287 ⟨Nat.le_of_ble_eq_true rfl, Nat.le_of_ble_eq_true rfl⟩ (Nat.le_of_ble_eq_true rfl) ⟨Nat.le_of_ble_eq_true rfl, Nat.le_of_ble_eq_true rfl⟩ ?_ rfl rfl rfl rfl
        refine r_lsub K dX10_layFar_136 ?_
        refine r_iconst (v := (-1 : Int32)) K dX10_layFar_137 (by decide) ?_
        refine r_iload_n K 4 dX10_layFar_138 rfl ?_
        refine r_isub K dX10_layFar_139 ?_
        obtain ⟨g51, e52, hf⟩ := ob1_s hf
        refine r_callV (As := [.int y19, .int y16, .long (r43 - r49), .int ((-1 : Int32) - x2)]) (rest := []) (st1 := []) (cells1 := 0) (slots1 := 0) (b := a0) (ci := 10) K (fun z => mX10_tries l z e52) dX10_layFar_140 rfl (fun z => z _ _ ht) rfl ceX10_tries q_1288 q_1290 q_66 q_85 q_1291 ⟨Nat.le_of_ble_eq_true rfl, Nat.le_of_ble_eq_true rfl⟩ (Nat.le_of_ble_eq_true rfl) ⟨Nat.le_of_ble_eq_true rfl, Nat.le_of_ble_eq_true rfl⟩ ?_ rfl rfl rfl rfl
        obtain ⟨y53, ey53, hf⟩ := bnd_g hf
        refine r_iinc (lv1 := [(2, .int y53), (4, .int y19), (3, .int y16), (0, .ref a0), (1, .int x1)]) K 4 dX10_layFar_143 rfl (by rw [ey53]; rfl) (by decide) rfl ?_
        refine r_goto (tgt := 41) K dX10_layFar_146 (by decide) ?_
        refine r_lv [3, 4, 0] rfl ?_
        exact ih y53 g51 hf
set_option maxHeartbeats 4000000 in
set_option maxRecDepth 100000 in
theorem wX10_layFar_L33 {p : Program} {l : Launch} {e : Env} {s : State} {m : MethodId} {args : Array Value} {below : List Frame} {meth : Method} {c : Code} {G : GG} {b0 : Nat} {h0 : AH} {a0 : Nat} {hh : AH} (K : CX p s m args meth c cX10_layFar 5 RX10 (none) G b0) (ht : isO h0 a0 10) (k : AH → Option AH) (hk : ∀ (h : AH), k h = some hh → WA p l e rmX10_layFar s m args below meth c (MQ below (QG G b0 h0 none hh) args s (rmX10_layFar).cells (rmX10_layFar).slots (AB b0)) G b0 5 h0 0 0 h 155 [] []) : ∀ (n : Nat) (x1 : Int32) (h : AH), fX10_layFar_L33 a0 k n x1 h = some hh → WA p l e rmX10_layFar s m args below meth c (MQ below (QG G b0 h0 none hh) args s (rmX10_layFar).cells (rmX10_layFar).slots (AB b0)) G b0 5 h0 0 0 h 33 [(0, .ref a0), (1, .int x1)] [] := by
  intro n
  induction n with
  | zero =>
    intro x1 h hf
    rw [fX10_layFar_L33] at hf
    cases hf
  | succ n ih =>
    intro x1 h hf
    rw [fX10_layFar_L33] at hf
    refine r_iload_n K 1 dX10_layFar_33 rfl ?_
    refine r_bipush (v := (6 : Int32)) K dX10_layFar_34 (by decide) ?_
    refine r_icmp_ge (tgt := 155) K dX10_layFar_36 (by decide) (fun c58 => ?_) (fun c58 => ?_)
    · replace hf := ite_t hf c58
      refine r_lv [] rfl ?_
      exact hk h hf
    · replace hf := ite_f hf c58
      refine r_iconst (v := (0 : Int32)) K dX10_layFar_39 (by decide) ?_
      refine r_istore_n (lv1 := [(2, .int (0 : Int32)), (0, .ref a0), (1, .int x1)]) K dX10_layFar_40 (by decide) rfl ?_
      refine r_lv [1, 2, 0] rfl ?_
      refine wX10_layFar_L41 K ht _ (fun g56 hf => ?_) lf (0 : Int32) h hf
      obtain ⟨y57, ey57, hf⟩ := bnd_g hf
      refine r_iinc (lv1 := [(1, .int y57), (0, .ref a0)]) K 1 dX10_layFar_149 rfl (by rw [ey57]; rfl) (by decide) rfl ?_
      refine r_goto (tgt := 33) K dX10_layFar_152 (by decide) ?_
      refine r_lv [1, 0] rfl ?_
      exact ih y57 g56 hf
set_option maxHeartbeats 4000000 in
set_option maxRecDepth 100000 in
theorem mX10_layFar (l : Launch) {G : GG} {b0 : Nat} {h : AH} {a0 : Nat} {hh : AH} (ht : isO h a0 10) (hf : fX10_layFar a0 h = some hh) : MM l yX10_layFar cX10_layFar 5 (none) rmX10_layFar G b0 h [.ref a0] none hh := by
  refine MM.of (own := RX10) (lv0 := [(0, .ref a0)]) (by decide) rfl (Nat.le_of_ble_eq_true rfl) rfl ?_
  intro p e s m args below meth c K hnm
  unfold fX10_layFar at hf
  refine r_iconst (v := (0 : Int32)) K dX10_layFar_0 (by decide) ?_
  refine r_istore_n (lv1 := [(1, .int (0 : Int32)), (0, .ref a0)]) K dX10_layFar_1 (by decide) rfl ?_
  refine r_lv [1, 0] rfl ?_
  refine wX10_layFar_L2 K ht _ (fun g11 hf => ?_) lf (0 : Int32) h hf
  refine r_iconst (v := (0 : Int32)) K dX10_layFar_31 (by decide) ?_
  refine r_istore_n (lv1 := [(1, .int (0 : Int32)), (0, .ref a0)]) K dX10_layFar_32 (by decide) rfl ?_
  refine r_lv [1, 0] rfl ?_
  refine wX10_layFar_L33 K ht _ (fun g59 hf => ?_) lf (0 : Int32) g11 hf
  exact r_vret K dX10_layFar_155 hf (Nat.le_of_ble_eq_true rfl) (Nat.le_of_ble_eq_true rfl)
theorem ceX10_sends : CE yX10_sends 1 := ⟨by decide, by decide, by decide +kernel⟩
abbrev rmX10_sends : Room := { frames := 1, cells := 0, slots := 0, locals := 22 }
def fX10_sends_L2 (a0 : Nat) (k : AH → Option AH) : Nat → Int32 → AH → Option AH
  | 0, _, _ => none
  | n + 1, x2, h =>
    if x2 = (0 : Int32) then
      k h
    else
      ob1 (gR h a0 10 24) fun b1 =>
      ob1 (aI h b1 0 x2) fun v3 =>
      if v3 < (0 : Int32) then
        ob1 (gR h a0 10 21) fun b5 =>
        bnd ((-1 : Int32) - v3) fun y7 =>
        ob1 (aI h b5 0 y7) fun v8 =>
        ob1 (sI h b5 y7 (v8 - (1 : Int32))) fun g10 =>
        ob1 (fX10_ofRoad a0 ((-1 : Int32) - v3) (1 : Int32) g10) fun r12 =>
        bnd (Int64.toInt32 r12) fun y14 =>
        fX10_sends_L2 a0 k n y14 g10
      else
        ob1 (gR h a0 10 21) fun b15 =>
        ob1 (aI h b15 0 v3) fun v17 =>
        ob1 (sI h b15 v3 (v17 + (1 : Int32))) fun g19 =>
        ob1 (fX10_ofRoad a0 v3 (0 : Int32) g19) fun r21 =>
        bnd (Int64.toInt32 r21) fun y23 =>
        fX10_sends_L2 a0 k n y23 g19
def fX10_sends (a0 : Nat) (x1 : Int32) (h : AH) : Option AH :=
  fX10_sends_L2 a0 (fun (g26 : AH) =>
    some g26
  ) lf x1 h
set_option maxHeartbeats 4000000 in
set_option maxRecDepth 100000 in
theorem wX10_sends_L2 {p : Program} {l : Launch} {e : Env} {s : State} {m : MethodId} {args : Array Value} {below : List Frame} {meth : Method} {c : Code} {G : GG} {b0 : Nat} {h0 : AH} {a0 : Nat} {hh : AH} (K : CX p s m args meth c cX10_sends 4 RX10 (none) G b0) (ht : isO h0 a0 10) (k : AH → Option AH) (hk : ∀ (h : AH), k h = some hh → WA p l e rmX10_sends s m args below meth c (MQ below (QG G b0 h0 none hh) args s (rmX10_sends).cells (rmX10_sends).slots (AB b0)) G b0 4 h0 0 0 h 63 [] []) : ∀ (n : Nat) (x2 : Int32) (h : AH), fX10_sends_L2 a0 k n x2 h = some hh → WA p l e rmX10_sends s m args below meth c (MQ below (QG G b0 h0 none hh) args s (rmX10_sends).cells (rmX10_sends).slots (AB b0)) G b0 4 h0 0 0 h 2 [(0, .ref a0), (2, .int x2)] [] := by
  intro n
  induction n with
  | zero =>
    intro x2 h hf
    rw [fX10_sends_L2] at hf
    cases hf
  | succ n ih =>
    intro x2 h hf
    rw [fX10_sends_L2] at hf
    refine r_iload_n K 1 dX10_sends_2 rfl ?_
    refine r_if_eq (tgt := 63) K dX10_sends_3 (by decide) (fun c25 => ?_) (fun c25 => ?_)
    · replace hf := ite_t hf c25
      refine r_lv [] rfl ?_
      exact hk h hf
    · replace hf := ite_f hf c25
      refine r_aload_n K 0 dX10_sends_6 rfl ?_
      obtain ⟨b1, e2, hf⟩ := ob1_s hf
      refine r_getR (ci := 10) (k := 24) K dX10_sends_7 inX10 rfl (by decide) rfl q_930 e2 ?_
      refine r_iload_n K 1 dX10_sends_10 rfl ?_
      obtain ⟨v3, e4, hf⟩ := ob1_s hf
      refine r_iaload K dX10_sends_11 e4 ?_
      refine r_istore_n (lv1 := [(3, .int v3), (0, .ref a0), (2, .int x2)]) K dX10_sends_12 (by decide) rfl ?_
      refine r_iload_n K 0 dX10_sends_13 rfl ?_
      refine r_if_lt (tgt := 38) K dX10_sends_14 (by decide) (fun c24 => ?_) (fun c24 => ?_)
      · replace hf := ite_t hf c24
        refine r_aload_n K 1 dX10_sends_38 rfl ?_
        obtain ⟨b5, e6, hf⟩ := ob1_s hf
        refine r_getR (ci := 10) (k := 21) K dX10_sends_39 inX10 rfl (by decide) rfl q_927 e6 ?_
        refine r_iconst (v := (-1 : Int32)) K dX10_sends_42 (by decide) ?_
        refine r_iload_n K 0 dX10_sends_43 rfl ?_
        refine r_isub K dX10_sends_44 ?_
        obtain ⟨y7, ey7, hf⟩ := bnd_g hf
        refine r_nmi ey7 ?_
        refine r_dup2_11 K dX10_sends_45 rfl rfl ?_
        obtain ⟨v8, e9, hf⟩ := ob1_s hf
        refine r_iaload K dX10_sends_46 e9 ?_
        refine r_iconst (v := (1 : Int32)) K dX10_sends_47 (by decide) ?_
        refine r_isub K dX10_sends_48 ?_
        obtain ⟨g10, e11, hf⟩ := ob1_s hf
        refine r_iastore K dX10_sends_49 e11 ?_
        refine r_aload_n K 1 dX10_sends_50 rfl ?_
        refine r_iconst (v := (-1 : Int32)) K dX10_sends_51 (by decide) ?_
        refine r_iload_n K 0 dX10_sends_52 rfl ?_
        refine r_isub K dX10_sends_53 ?_
        refine r_iconst (v := (1 : Int32)) K dX10_sends_54 (by decide) ?_
        obtain ⟨r12, e13, hf⟩ := ob1_s hf
        refine r_callV (As := [.int ((-1 : Int32) - v3), .int (1 : Int32)]) (rest := []) (st1 := [.long r12]) (cells1 := 0) (slots1 := 0) (b := a0) (ci := 10) K (fun z => mX10_ofRoad l z e13) dX10_sends_55 rfl (fun z => z _ _ ht) rfl ceX10_ofRoad q_1051 q_1053 q_36 q_85 q_1054 ⟨Nat.le_of_ble_eq_true rfl, Nat.le_of_ble_eq_true rfl⟩ (Nat.le_of_ble_eq_true rfl) ⟨Nat.le_of_ble_eq_true rfl, Nat.le_of_ble_eq_true rfl⟩ ?_ rfl rfl rfl rfl
        refine r_l2i K dX10_sends_58 ?_
        obtain ⟨y14, ey14, hf⟩ := bnd_g hf
        refine r_nmi ey14 ?_
        refine r_istore_n (lv1 := [(2, .int y14), (3, .int v3), (0, .ref a0)]) K dX10_sends_59 (by decide) rfl ?_
        refine r_goto (tgt := 2) K dX10_sends_60 (by decide) ?_
        refine r_lv [2, 0] rfl ?_
        exact ih y14 g10 hf
      · replace hf := ite_f hf c24
        refine r_aload_n K 1 dX10_sends_17 rfl ?_
        obtain ⟨b15, e16, hf⟩ := ob1_s hf
        refine r_getR (ci := 10) (k := 21) K dX10_sends_18 inX10 rfl (by decide) rfl q_927 e16 ?_
        refine r_iload_n K 0 dX10_sends_21 rfl ?_
        refine r_dup2_11 K dX10_sends_22 rfl rfl ?_
        obtain ⟨v17, e18, hf⟩ := ob1_s hf
        refine r_iaload K dX10_sends_23 e18 ?_
        refine r_iconst (v := (1 : Int32)) K dX10_sends_24 (by decide) ?_
        refine r_iadd K dX10_sends_25 ?_
        obtain ⟨g19, e20, hf⟩ := ob1_s hf
        refine r_iastore K dX10_sends_26 e20 ?_
        refine r_aload_n K 1 dX10_sends_27 rfl ?_
        refine r_iload_n K 0 dX10_sends_28 rfl ?_
        refine r_iconst (v := (0 : Int32)) K dX10_sends_29 (by decide) ?_
        obtain ⟨r21, e22, hf⟩ := ob1_s hf
        refine r_callV (As := [.int v3, .int (0 : Int32)]) (rest := []) (st1 := [.long r21]) (cells1 := 0) (slots1 := 0) (b := a0) (ci := 10) K (fun z => mX10_ofRoad l z e22) dX10_sends_30 rfl (fun z => z _ _ ht) rfl ceX10_ofRoad q_1051 q_1053 q_36 q_85 q_1054 ⟨Nat.le_of_ble_eq_true rfl, Nat.le_of_ble_eq_true rfl⟩ (Nat.le_of_ble_eq_true rfl) ⟨Nat.le_of_ble_eq_true rfl, Nat.le_of_ble_eq_true rfl⟩ ?_ rfl rfl rfl rfl
        refine r_l2i K dX10_sends_33 ?_
        obtain ⟨y23, ey23, hf⟩ := bnd_g hf
        refine r_nmi ey23 ?_
        refine r_istore_n (lv1 := [(2, .int y23), (3, .int v3), (0, .ref a0)]) K dX10_sends_34 (by decide) rfl ?_
        refine r_goto (tgt := 60) K dX10_sends_35 (by decide) ?_
        refine r_goto (tgt := 2) K dX10_sends_60 (by decide) ?_
        refine r_lv [2, 0] rfl ?_
        exact ih y23 g19 hf
set_option maxHeartbeats 4000000 in
set_option maxRecDepth 100000 in
theorem mX10_sends (l : Launch) {G : GG} {b0 : Nat} {h : AH} {a0 : Nat} {x1 : Int32} {hh : AH} (ht : isO h a0 10) (hf : fX10_sends a0 x1 h = some hh) : MM l yX10_sends cX10_sends 4 (none) rmX10_sends G b0 h [.ref a0, .int x1] none hh := by
  refine MM.of (own := RX10) (lv0 := [(0, .ref a0), (1, .int x1)]) (by decide) rfl (Nat.le_of_ble_eq_true rfl) rfl ?_
  intro p e s m args below meth c K hnm
  unfold fX10_sends at hf
  refine r_iload_n K 1 dX10_sends_0 rfl ?_
  refine r_istore_n (lv1 := [(2, .int x1), (0, .ref a0), (1, .int x1)]) K dX10_sends_1 (by decide) rfl ?_
  refine r_lv [1, 0] rfl ?_
  refine wX10_sends_L2 K ht _ (fun g26 hf => ?_) lf x1 h hf
  exact r_vret K dX10_sends_63 hf (Nat.le_of_ble_eq_true rfl) (Nat.le_of_ble_eq_true rfl)
