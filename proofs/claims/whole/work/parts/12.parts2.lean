theorem ceX7_readNumber : CE yX7_readNumber 1 := ⟨by decide, by decide, by decide +kernel⟩
abbrev rmX7_readNumber : Room := { frames := 1, cells := 0, slots := 0, locals := 21 }
def fX7_readNumber_L4 (a0 : Nat) (x1 : Int32) (k : Int32 → Int32 → AH → Option (Int32 × AH)) : Nat → Int32 → Int32 → AH → Option (Int32 × AH)
  | 0, _, _, _ => none
  | n + 1, x2, x3, h =>
    if x1 ≤ x3 then
      k x2 x3 h
    else
      ob1 (gI h a0 7 2) fun v1 =>
      ob1 (gI h a0 7 0) fun v3 =>
      if v3 ≤ v1 then
        k x2 x3 h
      else
        ob1 (gR h a0 7 1) fun b5 =>
        ob1 (gI h a0 7 2) fun v7 =>
        ob1 (aI h b5 0 v7) fun v9 =>
        if v9 < (48 : Int32) then
          k x2 x3 h
        else
          ob1 (gR h a0 7 1) fun b11 =>
          ob1 (gI h a0 7 2) fun v13 =>
          ob1 (aI h b11 0 v13) fun v15 =>
          if (57 : Int32) < v15 then
            k x2 x3 h
          else
            ob1 (gR h a0 7 1) fun b17 =>
            ob1 (gI h a0 7 2) fun v19 =>
            ob1 (aI h b17 0 v19) fun v21 =>
            bnd (((x2 * (10 : Int32)) + v21) - (48 : Int32)) fun y23 =>
            bnd (x3 + (1 : Int32)) fun y24 =>
            ob1 (gI h a0 7 2) fun v25 =>
            ob1 (pV h a0 7 2 (.int (v25 + (1 : Int32)))) fun g27 =>
            fX7_readNumber_L4 a0 x1 k n y23 y24 g27
def fX7_readNumber (a0 : Nat) (x1 : Int32) (h : AH) : Option (Int32 × AH) :=
  fX7_readNumber_L4 a0 x1 (fun (y33 : Int32) (y34 : Int32) (g35 : AH) =>
    if y34 = (0 : Int32) then
      ob1 (gI g35 a0 7 2) fun v36 =>
      ob2 (fX7_failsAt a0 v36 g35) fun r38 g39 =>
      some ((-1 : Int32), g39)
    else
      some (y33, g35)
  ) lf (0 : Int32) (0 : Int32) h
set_option maxHeartbeats 4000000 in
set_option maxRecDepth 100000 in
theorem wX7_readNumber_L4 {p : Program} {l : Launch} {e : Env} {s : State} {m : MethodId} {args : Array Value} {below : List Frame} {meth : Method} {c : Code} {G : GG} {b0 : Nat} {h0 : AH} {a0 : Nat} {x1 : Int32} {rr : Int32} {hh : AH} (K : CX p s m args meth c cX7_readNumber 4 RX7 (some .int) G b0) (ht : isO h0 a0 7) (k : Int32 → Int32 → AH → Option (Int32 × AH)) (hk : ∀ (x2 : Int32) (x3 : Int32) (h : AH), k x2 x3 h = some (rr, hh) → WA p l e rmX7_readNumber s m args below meth c (MQ below (QG G b0 h0 (some (.int rr)) hh) args s (rmX7_readNumber).cells (rmX7_readNumber).slots (AB b0)) G b0 4 h0 0 0 h 82 [(0, .ref a0), (2, .int x2), (3, .int x3)] []) : ∀ (n : Nat) (x2 : Int32) (x3 : Int32) (h : AH), fX7_readNumber_L4 a0 x1 k n x2 x3 h = some (rr, hh) → WA p l e rmX7_readNumber s m args below meth c (MQ below (QG G b0 h0 (some (.int rr)) hh) args s (rmX7_readNumber).cells (rmX7_readNumber).slots (AB b0)) G b0 4 h0 0 0 h 4 [(0, .ref a0), (1, .int x1), (2, .int x2), (3, .int x3)] [] := by
  intro n
  induction n with
  | zero =>
    intro x2 x3 h hf
    rw [fX7_readNumber_L4] at hf
    cases hf
  | succ n ih =>
    intro x2 x3 h hf
    rw [fX7_readNumber_L4] at hf
    refine r_iload_n K 3 dX7_readNumber_4 rfl ?_
    refine r_iload_n K 1 dX7_readNumber_5 rfl ?_
    refine r_icmp_ge (tgt := 82) K dX7_readNumber_6 (by decide) (fun c32 => ?_) (fun c32 => ?_)
    · replace hf := ite_t hf c32
      refine r_lv [0, 2, 3] rfl ?_
      exact hk x2 x3 h hf
    · replace hf := ite_f hf c32
      refine r_aload_n K 0 dX7_readNumber_9 rfl ?_
      obtain ⟨v1, e2, hf⟩ := ob1_s hf
      refine r_getI (ci := 7) (k := 2) K dX7_readNumber_10 inX7 rfl (by decide) rfl q_307 e2 ?_
      refine r_aload_n K 0 dX7_readNumber_13 rfl ?_
      obtain ⟨v3, e4, hf⟩ := ob1_s hf
      refine r_getI (ci := 7) (k := 0) K dX7_readNumber_14 inX7 rfl (by decide) rfl q_304 e4 ?_
      refine r_icmp_ge (tgt := 82) K dX7_readNumber_17 (by decide) (fun c31 => ?_) (fun c31 => ?_)
      · replace hf := ite_t hf c31
        refine r_lv [0, 2, 3] rfl ?_
        exact hk x2 x3 h hf
      · replace hf := ite_f hf c31
        refine r_aload_n K 0 dX7_readNumber_20 rfl ?_
        obtain ⟨b5, e6, hf⟩ := ob1_s hf
        refine r_getR (ci := 7) (k := 1) K dX7_readNumber_21 inX7 rfl (by decide) rfl q_306 e6 ?_
        refine r_aload_n K 0 dX7_readNumber_24 rfl ?_
        obtain ⟨v7, e8, hf⟩ := ob1_s hf
        refine r_getI (ci := 7) (k := 2) K dX7_readNumber_25 inX7 rfl (by decide) rfl q_307 e8 ?_
        obtain ⟨v9, e10, hf⟩ := ob1_s hf
        refine r_iaload K dX7_readNumber_28 e10 ?_
        refine r_bipush (v := (48 : Int32)) K dX7_readNumber_29 (by decide) ?_
        refine r_icmp_lt (tgt := 82) K dX7_readNumber_31 (by decide) (fun c30 => ?_) (fun c30 => ?_)
        · replace hf := ite_t hf c30
          refine r_lv [0, 2, 3] rfl ?_
          exact hk x2 x3 h hf
        · replace hf := ite_f hf c30
          refine r_aload_n K 0 dX7_readNumber_34 rfl ?_
          obtain ⟨b11, e12, hf⟩ := ob1_s hf
          refine r_getR (ci := 7) (k := 1) K dX7_readNumber_35 inX7 rfl (by decide) rfl q_306 e12 ?_
          refine r_aload_n K 0 dX7_readNumber_38 rfl ?_
          obtain ⟨v13, e14, hf⟩ := ob1_s hf
          refine r_getI (ci := 7) (k := 2) K dX7_readNumber_39 inX7 rfl (by decide) rfl q_307 e14 ?_
          obtain ⟨v15, e16, hf⟩ := ob1_s hf
          refine r_iaload K dX7_readNumber_42 e16 ?_
          refine r_bipush (v := (57 : Int32)) K dX7_readNumber_43 (by decide) ?_
          refine r_icmp_gt (tgt := 82) K dX7_readNumber_45 (by decide) (fun c29 => ?_) (fun c29 => ?_)
          · replace hf := ite_t hf c29
            refine r_lv [0, 2, 3] rfl ?_
            exact hk x2 x3 h hf
          · replace hf := ite_f hf c29
            refine r_iload_n K 2 dX7_readNumber_48 rfl ?_
            refine r_bipush (v := (10 : Int32)) K dX7_readNumber_49 (by decide) ?_
            refine r_imul K dX7_readNumber_51 ?_
            refine r_aload_n K 0 dX7_readNumber_52 rfl ?_
            obtain ⟨b17, e18, hf⟩ := ob1_s hf
            refine r_getR (ci := 7) (k := 1) K dX7_readNumber_53 inX7 rfl (by decide) rfl q_306 e18 ?_
            refine r_aload_n K 0 dX7_readNumber_56 rfl ?_
            obtain ⟨v19, e20, hf⟩ := ob1_s hf
            refine r_getI (ci := 7) (k := 2) K dX7_readNumber_57 inX7 rfl (by decide) rfl q_307 e20 ?_
            obtain ⟨v21, e22, hf⟩ := ob1_s hf
            refine r_iaload K dX7_readNumber_60 e22 ?_
            refine r_iadd K dX7_readNumber_61 ?_
            refine r_bipush (v := (48 : Int32)) K dX7_readNumber_62 (by decide) ?_
            refine r_isub K dX7_readNumber_64 ?_
            obtain ⟨y23, ey23, hf⟩ := bnd_g hf
            refine r_nmi ey23 ?_
            refine r_istore_n (lv1 := [(2, .int y23), (0, .ref a0), (1, .int x1), (3, .int x3)]) K dX7_readNumber_65 (by decide) rfl ?_
            obtain ⟨y24, ey24, hf⟩ := bnd_g hf
            refine r_iinc (lv1 := [(3, .int y24), (2, .int y23), (0, .ref a0), (1, .int x1)]) K 3 dX7_readNumber_66 rfl (by rw [ey24]; rfl) (by decide) rfl ?_
            refine r_aload_n K 2 dX7_readNumber_69 rfl ?_
            refine r_dup K dX7_readNumber_70 rfl ?_
            obtain ⟨v25, e26, hf⟩ := ob1_s hf
            refine r_getI (ci := 7) (k := 2) K dX7_readNumber_71 inX7 rfl (by decide) rfl q_307 e26 ?_
            refine r_iconst (v := (1 : Int32)) K dX7_readNumber_74 (by decide) ?_
            refine r_iadd K dX7_readNumber_75 ?_
            obtain ⟨g27, e28, hf⟩ := ob1_s hf
            refine r_putV (ci := 7) (k := 2) (ty0 := tyX7) (ty := tyX7 2) K dX7_readNumber_76 inX7 rfl (by decide) rfl q_307 tyX7_ok nmX7 rfl rfl rfl rfl e28 ?_
            refine r_goto (tgt := 4) K dX7_readNumber_79 (by decide) ?_
            refine r_lv [2, 3, 1, 0] rfl ?_
            exact ih y23 y24 g27 hf
set_option maxHeartbeats 4000000 in
set_option maxRecDepth 100000 in
theorem mX7_readNumber (l : Launch) {G : GG} {b0 : Nat} {h : AH} {a0 : Nat} {x1 : Int32} {rr : Int32} {hh : AH} (ht : isO h a0 7) (hf : fX7_readNumber a0 x1 h = some (rr, hh)) : MM l yX7_readNumber cX7_readNumber 4 (some .int) rmX7_readNumber G b0 h [.ref a0, .int x1] (some (.int rr)) hh := by
  refine MM.of (own := RX7) (lv0 := [(0, .ref a0), (1, .int x1)]) (by decide) rfl (Nat.le_of_ble_eq_true rfl) rfl ?_
  intro p e s m args below meth c K hnm
  unfold fX7_readNumber at hf
  refine r_iconst (v := (0 : Int32)) K dX7_readNumber_0 (by decide) ?_
  refine r_istore_n (lv1 := [(2, .int (0 : Int32)), (0, .ref a0), (1, .int x1)]) K dX7_readNumber_1 (by decide) rfl ?_
  refine r_iconst (v := (0 : Int32)) K dX7_readNumber_2 (by decide) ?_
  refine r_istore_n (lv1 := [(3, .int (0 : Int32)), (2, .int (0 : Int32)), (0, .ref a0), (1, .int x1)]) K dX7_readNumber_3 (by decide) rfl ?_
  refine r_lv [2, 3, 1, 0] rfl ?_
  refine wX7_readNumber_L4 K ht _ (fun y33 y34 g35 hf => ?_) lf (0 : Int32) (0 : Int32) h hf
  refine r_iload_n K 2 dX7_readNumber_82 rfl ?_
  refine r_if_ne (tgt := 97) K dX7_readNumber_83 (by decide) (fun c41 => ?_) (fun c41 => ?_)
  · replace hf := ite_f hf c41
    refine r_iload_n K 1 dX7_readNumber_97 rfl ?_
    exact r_iret K dX7_readNumber_98 hf (Nat.le_of_ble_eq_true rfl) (Nat.le_of_ble_eq_true rfl)
  · replace hf := ite_t hf c41
    refine r_aload_n K 0 dX7_readNumber_86 rfl ?_
    refine r_aload_n K 0 dX7_readNumber_87 rfl ?_
    obtain ⟨v36, e37, hf⟩ := ob1_s hf
    refine r_getI (ci := 7) (k := 2) K dX7_readNumber_88 inX7 rfl (by decide) rfl q_307 e37 ?_
    obtain ⟨r38, g39, e40, hf⟩ := ob2_s hf
    refine r_callV (As := [.int v36]) (rest := []) (st1 := [.int r38]) (cells1 := 0) (slots1 := 0) (b := a0) (ci := 7) K (fun z => mX7_failsAt l z e40) dX7_readNumber_91 rfl (fun z => z _ _ ht) rfl ceX7_failsAt q_526 q_528 q_2 q_82 q_529 ⟨Nat.le_of_ble_eq_true rfl, Nat.le_of_ble_eq_true rfl⟩ (Nat.le_of_ble_eq_true rfl) ⟨Nat.le_of_ble_eq_true rfl, Nat.le_of_ble_eq_true rfl⟩ ?_ rfl rfl rfl rfl
    refine r_pop K dX7_readNumber_94 rfl ?_
    refine r_iconst (v := (-1 : Int32)) K dX7_readNumber_95 (by decide) ?_
    exact r_iret K dX7_readNumber_96 hf (Nat.le_of_ble_eq_true rfl) (Nat.le_of_ble_eq_true rfl)
theorem ceX7_readKnee : CE yX7_readKnee 0 := ⟨by decide, by decide, by decide +kernel⟩
abbrev rmX7_readKnee : Room := { frames := 2, cells := 0, slots := 0, locals := 44 }
def fX7_readKnee (a0 : Nat) (h : AH) : Option (Int32 × AH) :=
  ob1 (gI h a0 7 2) fun v1 =>
  ob2 (fX7_readNumber a0 (2 : Int32) h) fun r3 g4 =>
  if r3 ≤ (36 : Int32) then
    some (r3, g4)
  else
    ob2 (fX7_failsAt a0 v1 g4) fun r6 g7 =>
    some ((-1 : Int32), g7)
set_option maxHeartbeats 4000000 in
set_option maxRecDepth 100000 in
theorem mX7_readKnee (l : Launch) {G : GG} {b0 : Nat} {h : AH} {a0 : Nat} {rr : Int32} {hh : AH} (ht : isO h a0 7) (hf : fX7_readKnee a0 h = some (rr, hh)) : MM l yX7_readKnee cX7_readKnee 3 (some .int) rmX7_readKnee G b0 h [.ref a0] (some (.int rr)) hh := by
  refine MM.of (own := RX7) (lv0 := [(0, .ref a0)]) (by decide) rfl (Nat.le_of_ble_eq_true rfl) rfl ?_
  intro p e s m args below meth c K hnm
  unfold fX7_readKnee at hf
  refine r_aload_n K 0 dX7_readKnee_0 rfl ?_
  obtain ⟨v1, e2, hf⟩ := ob1_s hf
  refine r_getI (ci := 7) (k := 2) K dX7_readKnee_1 inX7 rfl (by decide) rfl q_307 e2 ?_
  refine r_istore_n (lv1 := [(1, .int v1), (0, .ref a0)]) K dX7_readKnee_4 (by decide) rfl ?_
  refine r_aload_n K 1 dX7_readKnee_5 rfl ?_
  refine r_iconst (v := (2 : Int32)) K dX7_readKnee_6 (by decide) ?_
  obtain ⟨r3, g4, e5, hf⟩ := ob2_s hf
  refine r_callV (As := [.int (2 : Int32)]) (rest := []) (st1 := [.int r3]) (cells1 := 0) (slots1 := 0) (b := a0) (ci := 7) K (fun z => mX7_readNumber l z e5) dX7_readKnee_7 rfl (fun z => z _ _ ht) rfl ceX7_readNumber q_534 q_536 q_4 q_82 q_537 ⟨Nat.le_of_ble_eq_true rfl, Nat.le_of_ble_eq_true rfl⟩ (Nat.le_of_ble_eq_true rfl) ⟨Nat.le_of_ble_eq_true rfl, Nat.le_of_ble_eq_true rfl⟩ ?_ rfl rfl rfl rfl
  refine r_istore_n (lv1 := [(2, .int r3), (1, .int v1), (0, .ref a0)]) K dX7_readKnee_10 (by decide) rfl ?_
  refine r_iload_n K 0 dX7_readKnee_11 rfl ?_
  refine r_bipush (v := (36 : Int32)) K dX7_readKnee_12 (by decide) ?_
  refine r_icmp_le (tgt := 25) K dX7_readKnee_14 (by decide) (fun c9 => ?_) (fun c9 => ?_)
  · replace hf := ite_t hf c9
    refine r_iload_n K 0 dX7_readKnee_25 rfl ?_
    exact r_iret K dX7_readKnee_26 hf (Nat.le_of_ble_eq_true rfl) (Nat.le_of_ble_eq_true rfl)
  · replace hf := ite_f hf c9
    refine r_aload_n K 2 dX7_readKnee_17 rfl ?_
    refine r_iload_n K 1 dX7_readKnee_18 rfl ?_
    obtain ⟨r6, g7, e8, hf⟩ := ob2_s hf
    refine r_callV (As := [.int v1]) (rest := []) (st1 := [.int r6]) (cells1 := 0) (slots1 := 0) (b := a0) (ci := 7) K (fun z => mX7_failsAt l z e8) dX7_readKnee_19 rfl (fun z => z _ _ ht) rfl ceX7_failsAt q_526 q_528 q_2 q_82 q_529 ⟨Nat.le_of_ble_eq_true rfl, Nat.le_of_ble_eq_true rfl⟩ (Nat.le_of_ble_eq_true rfl) ⟨Nat.le_of_ble_eq_true rfl, Nat.le_of_ble_eq_true rfl⟩ ?_ rfl rfl rfl rfl
    refine r_pop K dX7_readKnee_22 rfl ?_
    refine r_iconst (v := (-1 : Int32)) K dX7_readKnee_23 (by decide) ?_
    exact r_iret K dX7_readKnee_24 hf (Nat.le_of_ble_eq_true rfl) (Nat.le_of_ble_eq_true rfl)
theorem ceX7_readRest : CE yX7_readRest 4 := ⟨by decide, by decide, by decide +kernel⟩
abbrev rmX7_readRest : Room := { frames := 3, cells := 1, slots := 7, locals := 66 }
def fX7_readRest (a0 : Nat) (a1 : Nat) (x2 : Int32) (x3 : Int32) (x4 : Int32) (h : AH) : Option (Int32 × AH) :=
  ob2 (fX7_eats a0 (43 : Int32) h) fun r1 g2 =>
  bnd (fun (y5 : Int32) (y6 : Int32) (y7 : Int32) (y8 : Int32) (g9 : AH) =>
    if y6 < (0 : Int32) then
      some ((0 : Int32), g9)
    else
      if (0 : Int32) ≤ y8 then
        bnd g9.1 fun b10 =>
        bnd (hnew g9 (.inr (3, [.int 0, .int 0, .int 0, .long 0, .long 0, .long 0, .int 0]))) fun g11 =>
        ob1 (fX3_init b10 x2 x3 y5 (Int32.toInt64 x4) (Int32.toInt64 y6) (Int32.toInt64 y8) y7 g11) fun g12 =>
        gd (ckO g12 a1 1) <|
        ob1 (fX1_append a1 b10 g12) fun g15 =>
        some ((1 : Int32), g15)
      else
        some ((0 : Int32), g9)
  ) fun j4 =>
  if r1 = (0 : Int32) then
    j4 (0 : Int32) (0 : Int32) (0 : Int32) (0 : Int32) g2
  else
    ob2 (fX7_readNumber a0 (6 : Int32) g2) fun r19 g20 =>
    if r19 < (0 : Int32) then
      j4 (1 : Int32) r19 (0 : Int32) (0 : Int32) g20
    else
      ob2 (fX7_eats a0 (94 : Int32) g20) fun r22 g23 =>
      if r22 = (0 : Int32) then
        j4 (1 : Int32) r19 (0 : Int32) (0 : Int32) g23
      else
        ob2 (fX7_readKnee a0 g23) fun r25 g26 =>
        if r25 < (0 : Int32) then
          j4 (2 : Int32) r19 r25 (-1 : Int32) g26
        else
          ob2 (fX7_expects a0 (58 : Int32) g26) fun r28 g29 =>
          if r28 = (0 : Int32) then
            j4 (2 : Int32) r19 r25 (-1 : Int32) g29
          else
            ob2 (fX7_readNumber a0 (6 : Int32) g29) fun r31 g32 =>
            j4 (2 : Int32) r19 r25 r31 g32
set_option maxHeartbeats 4000000 in
set_option maxRecDepth 100000 in
theorem mX7_readRest (l : Launch) {G : GG} {b0 : Nat} {h : AH} {a0 : Nat} {a1 : Nat} {x2 : Int32} {x3 : Int32} {x4 : Int32} {rr : Int32} {hh : AH} (ht : isO h a0 7) (hf : fX7_readRest a0 a1 x2 x3 x4 h = some (rr, hh)) : MM l yX7_readRest cX7_readRest 9 (some .boolean) rmX7_readRest G b0 h [.ref a0, .ref a1, .int x2, .int x3, .int x4] (some (.int rr)) hh := by
  refine MM.of (own := RX7) (lv0 := [(0, .ref a0), (1, .ref a1), (2, .int x2), (3, .int x3), (4, .int x4)]) (by decide) rfl (Nat.le_of_ble_eq_true rfl) rfl ?_
  intro p e s m args below meth c K hnm
  unfold fX7_readRest at hf
  refine r_iconst (v := (0 : Int32)) K dX7_readRest_0 (by decide) ?_
  refine r_istore (lv1 := [(5, .int (0 : Int32)), (0, .ref a0), (1, .ref a1), (2, .int x2), (3, .int x3), (4, .int x4)]) K dX7_readRest_1 (by decide) rfl ?_
  refine r_iconst (v := (0 : Int32)) K dX7_readRest_3 (by decide) ?_
  refine r_istore (lv1 := [(6, .int (0 : Int32)), (5, .int (0 : Int32)), (0, .ref a0), (1, .ref a1), (2, .int x2), (3, .int x3), (4, .int x4)]) K dX7_readRest_4 (by decide) rfl ?_
  refine r_iconst (v := (0 : Int32)) K dX7_readRest_6 (by decide) ?_
  refine r_istore (lv1 := [(7, .int (0 : Int32)), (6, .int (0 : Int32)), (5, .int (0 : Int32)), (0, .ref a0), (1, .ref a1), (2, .int x2), (3, .int x3), (4, .int x4)]) K dX7_readRest_7 (by decide) rfl ?_
  refine r_iconst (v := (0 : Int32)) K dX7_readRest_9 (by decide) ?_
  refine r_istore (lv1 := [(8, .int (0 : Int32)), (7, .int (0 : Int32)), (6, .int (0 : Int32)), (5, .int (0 : Int32)), (0, .ref a0), (1, .ref a1), (2, .int x2), (3, .int x3), (4, .int x4)]) K dX7_readRest_10 (by decide) rfl ?_
  refine r_aload_n K 4 dX7_readRest_12 rfl ?_
  refine r_bipush (v := (43 : Int32)) K dX7_readRest_13 (by decide) ?_
  obtain ⟨r1, g2, e3, hf⟩ := ob2_s hf
  refine r_callV (As := [.int (43 : Int32)]) (rest := []) (st1 := [.int r1]) (cells1 := 0) (slots1 := 0) (b := a0) (ci := 7) K (fun z => mX7_eats l z e3) dX7_readRest_15 rfl (fun z => z _ _ ht) rfl ceX7_eats q_542 q_544 q_6 q_82 q_545 ⟨Nat.le_of_ble_eq_true rfl, Nat.le_of_ble_eq_true rfl⟩ (Nat.le_of_ble_eq_true rfl) ⟨Nat.le_of_ble_eq_true rfl, Nat.le_of_ble_eq_true rfl⟩ ?_ rfl rfl rfl rfl
  obtain ⟨j4, ej4, hf⟩ := bnd_g hf
  have Jj4 : ∀ (y5 : Int32) (y6 : Int32) (y7 : Int32) (y8 : Int32) (g9 : AH), j4 y5 y6 y7 y8 g9 = some (rr, hh) → WA p l e rmX7_readRest s m args below meth c (MQ below (QG G b0 h (some (.int rr)) hh) args s (rmX7_readRest).cells (rmX7_readRest).slots (AB b0)) G b0 9 h 0 0 g9 81 [(1, .ref a1), (2, .int x2), (3, .int x3), (4, .int x4), (5, .int y5), (6, .int y6), (7, .int y7), (8, .int y8)] [] := by
    intro y5 y6 y7 y8 g9 hf
    rw [ej4] at hf
    refine r_iload K 5 dX7_readRest_81 rfl ?_
    refine r_if_lt (tgt := 91) K dX7_readRest_83 (by decide) (fun c18 => ?_) (fun c18 => ?_)
    · replace hf := ite_t hf c18
      refine r_iconst (v := (0 : Int32)) K dX7_readRest_91 (by decide) ?_
      exact r_zret K dX7_readRest_92 rfl hf (Nat.le_of_ble_eq_true rfl) (Nat.le_of_ble_eq_true rfl)
    · replace hf := ite_f hf c18
      refine r_iload K 7 dX7_readRest_86 rfl ?_
      refine r_if_ge (tgt := 93) K dX7_readRest_88 (by decide) (fun c17 => ?_) (fun c17 => ?_)
      · replace hf := ite_t hf c17
        refine r_aload_n K 0 dX7_readRest_93 rfl ?_
        obtain ⟨b10, eb10, hf⟩ := bnd_g hf
        obtain ⟨g11, eg11, hf⟩ := bnd_g hf
        have ob10 : isO g11 b10 3 := isO_new eb10 eg11
        refine r_new (ci := 3) (N := 7) (ty0 := tyX3) (cells1 := 1) (slots1 := 7) K dX7_readRest_94 inX3 rfl tyX3_ok q_554 q_109 q_77 (fun j hj => by match j, hj with | 0, _ => rfl | 1, _ => rfl | 2, _ => rfl | 3, _ => rfl | 4, _ => rfl | 5, _ => rfl | 6, _ => rfl) eb10 eg11 rfl rfl (Nat.le_of_ble_eq_true rfl) (Nat.le_of_ble_eq_true rfl) ?_
        refine r_dup K dX7_readRest_97 rfl ?_
        refine r_iload_n K 1 dX7_readRest_98 rfl ?_
        refine r_iload_n K 2 dX7_readRest_99 rfl ?_
        refine r_iload K 4 dX7_readRest_100 rfl ?_
        refine r_iload K 3 dX7_readRest_102 rfl ?_
        refine r_i2l K dX7_readRest_104 ?_
        refine r_iload K 5 dX7_readRest_105 rfl ?_
        refine r_i2l K dX7_readRest_107 ?_
        refine r_iload K 7 dX7_readRest_108 rfl ?_
        refine r_i2l K dX7_readRest_110 ?_
        refine r_iload K 6 dX7_readRest_111 rfl ?_
        obtain ⟨g12, e13, hf⟩ := ob1_s hf
        refine r_callI (As := [.int x2, .int x3, .int y5, .long (Int32.toInt64 x4), .long (Int32.toInt64 y6), .long (Int32.toInt64 y8), .int y7]) (rest := [.ref b10, .ref a1]) (st1 := [.ref b10, .ref a1]) (cells1 := 1) (slots1 := 7) (rt := none) (b := b10) K (mX3_init l ob10 e13) dX7_readRest_113 rfl ceX3_init q_555 q_111 q_77 q_112 ⟨Nat.le_of_ble_eq_true rfl, Nat.le_of_ble_eq_true rfl⟩ (Nat.le_of_ble_eq_true rfl) ⟨Nat.le_of_ble_eq_true rfl, Nat.le_of_ble_eq_true rfl⟩ ?_ rfl rfl rfl rfl
        obtain ⟨z14, hf⟩ := gd_s hf
        obtain ⟨g15, e16, hf⟩ := ob1_s hf
        refine r_callV (As := [.ref b10]) (rest := []) (st1 := []) (cells1 := 1) (slots1 := 7) (b := a1) (ci := 1) K (fun z => mX1_append l z e16) dX7_readRest_116 rfl (fun _ => isO_of z14) rfl ceX1_append q_556 q_441 q_442 q_76 q_443 ⟨Nat.le_of_ble_eq_true rfl, Nat.le_of_ble_eq_true rfl⟩ (Nat.le_of_ble_eq_true rfl) ⟨Nat.le_of_ble_eq_true rfl, Nat.le_of_ble_eq_true rfl⟩ ?_ rfl rfl rfl rfl
        refine r_iconst (v := (1 : Int32)) K dX7_readRest_119 (by decide) ?_
        exact r_zret K dX7_readRest_120 rfl hf (Nat.le_of_ble_eq_true rfl) (Nat.le_of_ble_eq_true rfl)
      · replace hf := ite_f hf c17
        refine r_iconst (v := (0 : Int32)) K dX7_readRest_91 (by decide) ?_
        exact r_zret K dX7_readRest_92 rfl hf (Nat.le_of_ble_eq_true rfl) (Nat.le_of_ble_eq_true rfl)
  refine r_if_eq (tgt := 81) K dX7_readRest_18 (by decide) (fun c38 => ?_) (fun c38 => ?_)
  · replace hf := ite_t hf c38
    refine r_lv [5, 6, 7, 8, 3, 2, 1, 0] rfl ?_
    exact Jj4 (0 : Int32) (0 : Int32) (0 : Int32) (0 : Int32) g2 hf
  · replace hf := ite_f hf c38
    refine r_iconst (v := (1 : Int32)) K dX7_readRest_21 (by decide) ?_
    refine r_istore (lv1 := [(5, .int (1 : Int32)), (8, .int (0 : Int32)), (7, .int (0 : Int32)), (6, .int (0 : Int32)), (0, .ref a0), (1, .ref a1), (2, .int x2), (3, .int x3), (4, .int x4)]) K dX7_readRest_22 (by decide) rfl ?_
    refine r_aload_n K 4 dX7_readRest_24 rfl ?_
    refine r_bipush (v := (6 : Int32)) K dX7_readRest_25 (by decide) ?_
    obtain ⟨r19, g20, e21, hf⟩ := ob2_s hf
    refine r_callV (As := [.int (6 : Int32)]) (rest := []) (st1 := [.int r19]) (cells1 := 0) (slots1 := 0) (b := a0) (ci := 7) K (fun z => mX7_readNumber l z e21) dX7_readRest_27 rfl (fun z => z _ _ ht) rfl ceX7_readNumber q_534 q_536 q_4 q_82 q_537 ⟨Nat.le_of_ble_eq_true rfl, Nat.le_of_ble_eq_true rfl⟩ (Nat.le_of_ble_eq_true rfl) ⟨Nat.le_of_ble_eq_true rfl, Nat.le_of_ble_eq_true rfl⟩ ?_ rfl rfl rfl rfl
    refine r_istore (lv1 := [(6, .int r19), (5, .int (1 : Int32)), (8, .int (0 : Int32)), (7, .int (0 : Int32)), (0, .ref a0), (1, .ref a1), (2, .int x2), (3, .int x3), (4, .int x4)]) K dX7_readRest_30 (by decide) rfl ?_
    refine r_iload K 0 dX7_readRest_32 rfl ?_
    refine r_if_lt (tgt := 81) K dX7_readRest_34 (by decide) (fun c37 => ?_) (fun c37 => ?_)
    · replace hf := ite_t hf c37
      refine r_lv [5, 6, 7, 8, 1, 0, 3, 2] rfl ?_
      exact Jj4 (1 : Int32) r19 (0 : Int32) (0 : Int32) g20 hf
    · replace hf := ite_f hf c37
      refine r_aload_n K 4 dX7_readRest_37 rfl ?_
      refine r_bipush (v := (94 : Int32)) K dX7_readRest_38 (by decide) ?_
      obtain ⟨r22, g23, e24, hf⟩ := ob2_s hf
      refine r_callV (As := [.int (94 : Int32)]) (rest := []) (st1 := [.int r22]) (cells1 := 0) (slots1 := 0) (b := a0) (ci := 7) K (fun z => mX7_eats l z e24) dX7_readRest_40 rfl (fun z => z _ _ ht) rfl ceX7_eats q_542 q_544 q_6 q_82 q_545 ⟨Nat.le_of_ble_eq_true rfl, Nat.le_of_ble_eq_true rfl⟩ (Nat.le_of_ble_eq_true rfl) ⟨Nat.le_of_ble_eq_true rfl, Nat.le_of_ble_eq_true rfl⟩ ?_ rfl rfl rfl rfl
      refine r_if_eq (tgt := 81) K dX7_readRest_43 (by decide) (fun c36 => ?_) (fun c36 => ?_)
      · replace hf := ite_t hf c36
        refine r_lv [5, 6, 7, 8, 1, 0, 3, 2] rfl ?_
        exact Jj4 (1 : Int32) r19 (0 : Int32) (0 : Int32) g23 hf
      · replace hf := ite_f hf c36
        refine r_iconst (v := (2 : Int32)) K dX7_readRest_46 (by decide) ?_
        refine r_istore (lv1 := [(5, .int (2 : Int32)), (6, .int r19), (8, .int (0 : Int32)), (7, .int (0 : Int32)), (0, .ref a0), (1, .ref a1), (2, .int x2), (3, .int x3), (4, .int x4)]) K dX7_readRest_47 (by decide) rfl ?_
        refine r_aload_n K 4 dX7_readRest_49 rfl ?_
        obtain ⟨r25, g26, e27, hf⟩ := ob2_s hf
        refine r_callV (As := []) (rest := []) (st1 := [.int r25]) (cells1 := 0) (slots1 := 0) (b := a0) (ci := 7) K (fun z => mX7_readKnee l z e27) dX7_readRest_50 rfl (fun z => z _ _ ht) rfl ceX7_readKnee q_550 q_552 q_8 q_82 q_553 ⟨Nat.le_of_ble_eq_true rfl, Nat.le_of_ble_eq_true rfl⟩ (Nat.le_of_ble_eq_true rfl) ⟨Nat.le_of_ble_eq_true rfl, Nat.le_of_ble_eq_true rfl⟩ ?_ rfl rfl rfl rfl
        refine r_istore (lv1 := [(7, .int r25), (5, .int (2 : Int32)), (6, .int r19), (8, .int (0 : Int32)), (0, .ref a0), (1, .ref a1), (2, .int x2), (3, .int x3), (4, .int x4)]) K dX7_readRest_53 (by decide) rfl ?_
        refine r_iload K 0 dX7_readRest_55 rfl ?_
        refine r_if_lt (tgt := 78) K dX7_readRest_57 (by decide) (fun c35 => ?_) (fun c35 => ?_)
        · replace hf := ite_t hf c35
          refine r_iconst (v := (-1 : Int32)) K dX7_readRest_78 (by decide) ?_
          refine r_istore (lv1 := [(8, .int (-1 : Int32)), (7, .int r25), (5, .int (2 : Int32)), (6, .int r19), (0, .ref a0), (1, .ref a1), (2, .int x2), (3, .int x3), (4, .int x4)]) K dX7_readRest_79 (by decide) rfl ?_
          refine r_lv [5, 6, 7, 8, 2, 3, 1, 0] rfl ?_
          exact Jj4 (2 : Int32) r19 r25 (-1 : Int32) g26 hf
        · replace hf := ite_f hf c35
          refine r_aload_n K 4 dX7_readRest_60 rfl ?_
          refine r_bipush (v := (58 : Int32)) K dX7_readRest_61 (by decide) ?_
          obtain ⟨r28, g29, e30, hf⟩ := ob2_s hf
          refine r_callV (As := [.int (58 : Int32)]) (rest := []) (st1 := [.int r28]) (cells1 := 0) (slots1 := 0) (b := a0) (ci := 7) K (fun z => mX7_expects l z e30) dX7_readRest_63 rfl (fun z => z _ _ ht) rfl ceX7_expects q_538 q_540 q_5 q_82 q_541 ⟨Nat.le_of_ble_eq_true rfl, Nat.le_of_ble_eq_true rfl⟩ (Nat.le_of_ble_eq_true rfl) ⟨Nat.le_of_ble_eq_true rfl, Nat.le_of_ble_eq_true rfl⟩ ?_ rfl rfl rfl rfl
          refine r_if_eq (tgt := 78) K dX7_readRest_66 (by decide) (fun c34 => ?_) (fun c34 => ?_)
          · replace hf := ite_t hf c34
            refine r_iconst (v := (-1 : Int32)) K dX7_readRest_78 (by decide) ?_
            refine r_istore (lv1 := [(8, .int (-1 : Int32)), (7, .int r25), (5, .int (2 : Int32)), (6, .int r19), (0, .ref a0), (1, .ref a1), (2, .int x2), (3, .int x3), (4, .int x4)]) K dX7_readRest_79 (by decide) rfl ?_
            refine r_lv [5, 6, 7, 8, 2, 3, 1, 0] rfl ?_
            exact Jj4 (2 : Int32) r19 r25 (-1 : Int32) g29 hf
          · replace hf := ite_f hf c34
            refine r_aload_n K 4 dX7_readRest_69 rfl ?_
            refine r_bipush (v := (6 : Int32)) K dX7_readRest_70 (by decide) ?_
            obtain ⟨r31, g32, e33, hf⟩ := ob2_s hf
            refine r_callV (As := [.int (6 : Int32)]) (rest := []) (st1 := [.int r31]) (cells1 := 0) (slots1 := 0) (b := a0) (ci := 7) K (fun z => mX7_readNumber l z e33) dX7_readRest_72 rfl (fun z => z _ _ ht) rfl ceX7_readNumber q_534 q_536 q_4 q_82 q_537 ⟨Nat.le_of_ble_eq_true rfl, Nat.le_of_ble_eq_true rfl⟩ (Nat.le_of_ble_eq_true rfl) ⟨Nat.le_of_ble_eq_true rfl, Nat.le_of_ble_eq_true rfl⟩ ?_ rfl rfl rfl rfl
            refine r_goto (tgt := 79) K dX7_readRest_75 (by decide) ?_
            refine r_istore (lv1 := [(8, .int r31), (7, .int r25), (5, .int (2 : Int32)), (6, .int r19), (0, .ref a0), (1, .ref a1), (2, .int x2), (3, .int x3), (4, .int x4)]) K dX7_readRest_79 (by decide) rfl ?_
            refine r_lv [5, 6, 7, 8, 2, 3, 1, 0] rfl ?_
            exact Jj4 (2 : Int32) r19 r25 r31 g32 hf
theorem ceX7_readTown : CE yX7_readTown 2 := ⟨by decide, by decide, by decide +kernel⟩
abbrev rmX7_readTown : Room := { frames := 2, cells := 0, slots := 0, locals := 44 }
def fX7_readTown (a0 : Nat) (a1 : Nat) (x2 : Int32) (h : AH) : Option (Int32 × AH) :=
  ob1 (gI h a0 7 2) fun v1 =>
  ob2 (fX7_readNumber a0 (1 : Int32) h) fun r3 g4 =>
  ob1 (gI g4 a1 1 0) fun v6 =>
  if v6 ≤ r3 then
    ob2 (fX7_failsAt a0 v1 g4) fun r8 g9 =>
    some ((-1 : Int32), g9)
  else
    if r3 < (0 : Int32) then
      some (r3, g4)
    else
      if r3 = x2 then
        ob2 (fX7_failsAt a0 v1 g4) fun r11 g12 =>
        some ((-1 : Int32), g12)
      else
        some (r3, g4)
set_option maxHeartbeats 4000000 in
set_option maxRecDepth 100000 in
theorem mX7_readTown (l : Launch) {G : GG} {b0 : Nat} {h : AH} {a0 : Nat} {a1 : Nat} {x2 : Int32} {rr : Int32} {hh : AH} (ht : isO h a0 7) (hf : fX7_readTown a0 a1 x2 h = some (rr, hh)) : MM l yX7_readTown cX7_readTown 5 (some .int) rmX7_readTown G b0 h [.ref a0, .ref a1, .int x2] (some (.int rr)) hh := by
  refine MM.of (own := RX7) (lv0 := [(0, .ref a0), (1, .ref a1), (2, .int x2)]) (by decide) rfl (Nat.le_of_ble_eq_true rfl) rfl ?_
  intro p e s m args below meth c K hnm
  unfold fX7_readTown at hf
  refine r_aload_n K 0 dX7_readTown_0 rfl ?_
  obtain ⟨v1, e2, hf⟩ := ob1_s hf
  refine r_getI (ci := 7) (k := 2) K dX7_readTown_1 inX7 rfl (by decide) rfl q_307 e2 ?_
  refine r_istore_n (lv1 := [(3, .int v1), (0, .ref a0), (1, .ref a1), (2, .int x2)]) K dX7_readTown_4 (by decide) rfl ?_
  refine r_aload_n K 1 dX7_readTown_5 rfl ?_
  refine r_iconst (v := (1 : Int32)) K dX7_readTown_6 (by decide) ?_
  obtain ⟨r3, g4, e5, hf⟩ := ob2_s hf
  refine r_callV (As := [.int (1 : Int32)]) (rest := []) (st1 := [.int r3]) (cells1 := 0) (slots1 := 0) (b := a0) (ci := 7) K (fun z => mX7_readNumber l z e5) dX7_readTown_7 rfl (fun z => z _ _ ht) rfl ceX7_readNumber q_534 q_536 q_4 q_82 q_537 ⟨Nat.le_of_ble_eq_true rfl, Nat.le_of_ble_eq_true rfl⟩ (Nat.le_of_ble_eq_true rfl) ⟨Nat.le_of_ble_eq_true rfl, Nat.le_of_ble_eq_true rfl⟩ ?_ rfl rfl rfl rfl
  refine r_istore (lv1 := [(4, .int r3), (3, .int v1), (0, .ref a0), (1, .ref a1), (2, .int x2)]) K dX7_readTown_10 (by decide) rfl ?_
  refine r_iload K 0 dX7_readTown_12 rfl ?_
  refine r_aload_n K 3 dX7_readTown_14 rfl ?_
  obtain ⟨v6, e7, hf⟩ := ob1_s hf
  refine r_getI (ci := 1) (k := 0) K dX7_readTown_15 inX1 rfl (by decide) rfl q_151 e7 ?_
  refine r_icmp_ge (tgt := 32) K dX7_readTown_18 (by decide) (fun c16 => ?_) (fun c16 => ?_)
  · replace hf := ite_t hf c16
    refine r_aload_n K 2 dX7_readTown_32 rfl ?_
    refine r_iload_n K 1 dX7_readTown_33 rfl ?_
    obtain ⟨r8, g9, e10, hf⟩ := ob2_s hf
    refine r_callV (As := [.int v1]) (rest := []) (st1 := [.int r8]) (cells1 := 0) (slots1 := 0) (b := a0) (ci := 7) K (fun z => mX7_failsAt l z e10) dX7_readTown_34 rfl (fun z => z _ _ ht) rfl ceX7_failsAt q_526 q_528 q_2 q_82 q_529 ⟨Nat.le_of_ble_eq_true rfl, Nat.le_of_ble_eq_true rfl⟩ (Nat.le_of_ble_eq_true rfl) ⟨Nat.le_of_ble_eq_true rfl, Nat.le_of_ble_eq_true rfl⟩ ?_ rfl rfl rfl rfl
    refine r_pop K dX7_readTown_37 rfl ?_
    refine r_iconst (v := (-1 : Int32)) K dX7_readTown_38 (by decide) ?_
    exact r_iret K dX7_readTown_39 hf (Nat.le_of_ble_eq_true rfl) (Nat.le_of_ble_eq_true rfl)
  · replace hf := ite_f hf c16
    refine r_iload K 0 dX7_readTown_21 rfl ?_
    refine r_if_lt (tgt := 40) K dX7_readTown_23 (by decide) (fun c15 => ?_) (fun c15 => ?_)
    · replace hf := ite_t hf c15
      refine r_iload K 0 dX7_readTown_40 rfl ?_
      exact r_iret K dX7_readTown_42 hf (Nat.le_of_ble_eq_true rfl) (Nat.le_of_ble_eq_true rfl)
    · replace hf := ite_f hf c15
      refine r_iload K 0 dX7_readTown_26 rfl ?_
      refine r_iload_n K 4 dX7_readTown_28 rfl ?_
      refine r_icmp_ne (tgt := 40) K dX7_readTown_29 (by decide) (fun c14 => ?_) (fun c14 => ?_)
      · replace hf := ite_f hf c14
        refine r_iload K 0 dX7_readTown_40 rfl ?_
        exact r_iret K dX7_readTown_42 hf (Nat.le_of_ble_eq_true rfl) (Nat.le_of_ble_eq_true rfl)
      · replace hf := ite_t hf c14
        refine r_aload_n K 2 dX7_readTown_32 rfl ?_
        refine r_iload_n K 1 dX7_readTown_33 rfl ?_
        obtain ⟨r11, g12, e13, hf⟩ := ob2_s hf
        refine r_callV (As := [.int v1]) (rest := []) (st1 := [.int r11]) (cells1 := 0) (slots1 := 0) (b := a0) (ci := 7) K (fun z => mX7_failsAt l z e13) dX7_readTown_34 rfl (fun z => z _ _ ht) rfl ceX7_failsAt q_526 q_528 q_2 q_82 q_529 ⟨Nat.le_of_ble_eq_true rfl, Nat.le_of_ble_eq_true rfl⟩ (Nat.le_of_ble_eq_true rfl) ⟨Nat.le_of_ble_eq_true rfl, Nat.le_of_ble_eq_true rfl⟩ ?_ rfl rfl rfl rfl
        refine r_pop K dX7_readTown_37 rfl ?_
        refine r_iconst (v := (-1 : Int32)) K dX7_readTown_38 (by decide) ?_
        exact r_iret K dX7_readTown_39 hf (Nat.le_of_ble_eq_true rfl) (Nat.le_of_ble_eq_true rfl)
theorem ceX7_readRoad : CE yX7_readRoad 1 := ⟨by decide, by decide, by decide +kernel⟩
abbrev rmX7_readRoad : Room := { frames := 4, cells := 1, slots := 7, locals := 94 }
def fX7_readRoad (a0 : Nat) (a1 : Nat) (h : AH) : Option (Int32 × AH) :=
  ob1 (gI h a1 1 1) fun v1 =>
  if v1 < (12 : Int32) then
    ob2 (fX7_readTown a0 a1 (-1 : Int32) h) fun r3 g4 =>
    if r3 < (0 : Int32) then
      some ((0 : Int32), g4)
    else
      ob2 (fX7_expects a0 (62 : Int32) g4) fun r6 g7 =>
      if r6 = (0 : Int32) then
        some ((0 : Int32), g7)
      else
        ob2 (fX7_readTown a0 a1 r3 g7) fun r9 g10 =>
        if r9 < (0 : Int32) then
          some ((0 : Int32), g10)
        else
          ob2 (fX7_expects a0 (61 : Int32) g10) fun r12 g13 =>
          if r12 = (0 : Int32) then
            some ((0 : Int32), g13)
          else
            ob2 (fX7_readNumber a0 (6 : Int32) g13) fun r15 g16 =>
            if r15 < (0 : Int32) then
              some ((0 : Int32), g16)
            else
              ob2 (fX7_readRest a0 a1 r3 r9 r15 g16) fun r18 g19 =>
              if r18 = (0 : Int32) then
                some ((0 : Int32), g19)
              else
                some ((1 : Int32), g19)
  else
    ob1 (gI h a0 7 2) fun v27 =>
    ob2 (fX7_failsAt a0 v27 h) fun r29 g30 =>
    gd (zb r29) <|
    some (r29, g30)
set_option maxHeartbeats 4000000 in
set_option maxRecDepth 100000 in
theorem mX7_readRoad (l : Launch) {G : GG} {b0 : Nat} {h : AH} {a0 : Nat} {a1 : Nat} {rr : Int32} {hh : AH} (ht : isO h a0 7) (hf : fX7_readRoad a0 a1 h = some (rr, hh)) : MM l yX7_readRoad cX7_readRoad 5 (some .boolean) rmX7_readRoad G b0 h [.ref a0, .ref a1] (some (.int rr)) hh := by
  refine MM.of (own := RX7) (lv0 := [(0, .ref a0), (1, .ref a1)]) (by decide) rfl (Nat.le_of_ble_eq_true rfl) rfl ?_
  intro p e s m args below meth c K hnm
  unfold fX7_readRoad at hf
  refine r_aload_n K 1 dX7_readRoad_0 rfl ?_
  obtain ⟨v1, e2, hf⟩ := ob1_s hf
  refine r_getI (ci := 1) (k := 1) K dX7_readRoad_1 inX1 rfl (by decide) rfl q_156 e2 ?_
  refine r_bipush (v := (12 : Int32)) K dX7_readRoad_4 (by decide) ?_
  refine r_icmp_lt (tgt := 18) K dX7_readRoad_6 (by decide) (fun c33 => ?_) (fun c33 => ?_)
  · replace hf := ite_t hf c33
    refine r_aload_n K 0 dX7_readRoad_18 rfl ?_
    refine r_aload_n K 1 dX7_readRoad_19 rfl ?_
    refine r_iconst (v := (-1 : Int32)) K dX7_readRoad_20 (by decide) ?_
    obtain ⟨r3, g4, e5, hf⟩ := ob2_s hf
    refine r_callV (As := [.ref a1, .int (-1 : Int32)]) (rest := []) (st1 := [.int r3]) (cells1 := 0) (slots1 := 0) (b := a0) (ci := 7) K (fun z => mX7_readTown l z e5) dX7_readRoad_21 rfl (fun z => z _ _ ht) rfl ceX7_readTown q_530 q_532 q_3 q_82 q_533 ⟨Nat.le_of_ble_eq_true rfl, Nat.le_of_ble_eq_true rfl⟩ (Nat.le_of_ble_eq_true rfl) ⟨Nat.le_of_ble_eq_true rfl, Nat.le_of_ble_eq_true rfl⟩ ?_ rfl rfl rfl rfl
    refine r_istore_n (lv1 := [(2, .int r3), (0, .ref a0), (1, .ref a1)]) K dX7_readRoad_24 (by decide) rfl ?_
    refine r_iload_n K 0 dX7_readRoad_25 rfl ?_
    refine r_if_lt (tgt := 38) K dX7_readRoad_26 (by decide) (fun c26 => ?_) (fun c26 => ?_)
    · replace hf := ite_t hf c26
      refine r_iconst (v := (0 : Int32)) K dX7_readRoad_38 (by decide) ?_
      exact r_zret K dX7_readRoad_39 rfl hf (Nat.le_of_ble_eq_true rfl) (Nat.le_of_ble_eq_true rfl)
    · replace hf := ite_f hf c26
      refine r_aload_n K 1 dX7_readRoad_29 rfl ?_
      refine r_bipush (v := (62 : Int32)) K dX7_readRoad_30 (by decide) ?_
      obtain ⟨r6, g7, e8, hf⟩ := ob2_s hf
      refine r_callV (As := [.int (62 : Int32)]) (rest := []) (st1 := [.int r6]) (cells1 := 0) (slots1 := 0) (b := a0) (ci := 7) K (fun z => mX7_expects l z e8) dX7_readRoad_32 rfl (fun z => z _ _ ht) rfl ceX7_expects q_538 q_540 q_5 q_82 q_541 ⟨Nat.le_of_ble_eq_true rfl, Nat.le_of_ble_eq_true rfl⟩ (Nat.le_of_ble_eq_true rfl) ⟨Nat.le_of_ble_eq_true rfl, Nat.le_of_ble_eq_true rfl⟩ ?_ rfl rfl rfl rfl
      refine r_if_ne (tgt := 40) K dX7_readRoad_35 (by decide) (fun c25 => ?_) (fun c25 => ?_)
      · replace hf := ite_f hf c25
        refine r_aload_n K 1 dX7_readRoad_40 rfl ?_
        refine r_aload_n K 2 dX7_readRoad_41 rfl ?_
        refine r_iload_n K 0 dX7_readRoad_42 rfl ?_
        obtain ⟨r9, g10, e11, hf⟩ := ob2_s hf
        refine r_callV (As := [.ref a1, .int r3]) (rest := []) (st1 := [.int r9]) (cells1 := 0) (slots1 := 0) (b := a0) (ci := 7) K (fun z => mX7_readTown l z e11) dX7_readRoad_43 rfl (fun z => z _ _ ht) rfl ceX7_readTown q_530 q_532 q_3 q_82 q_533 ⟨Nat.le_of_ble_eq_true rfl, Nat.le_of_ble_eq_true rfl⟩ (Nat.le_of_ble_eq_true rfl) ⟨Nat.le_of_ble_eq_true rfl, Nat.le_of_ble_eq_true rfl⟩ ?_ rfl rfl rfl rfl
        refine r_istore_n (lv1 := [(3, .int r9), (2, .int r3), (0, .ref a0), (1, .ref a1)]) K dX7_readRoad_46 (by decide) rfl ?_
        refine r_iload_n K 0 dX7_readRoad_47 rfl ?_
        refine r_if_lt (tgt := 60) K dX7_readRoad_48 (by decide) (fun c24 => ?_) (fun c24 => ?_)
        · replace hf := ite_t hf c24
          refine r_iconst (v := (0 : Int32)) K dX7_readRoad_60 (by decide) ?_
          exact r_zret K dX7_readRoad_61 rfl hf (Nat.le_of_ble_eq_true rfl) (Nat.le_of_ble_eq_true rfl)
        · replace hf := ite_f hf c24
          refine r_aload_n K 2 dX7_readRoad_51 rfl ?_
          refine r_bipush (v := (61 : Int32)) K dX7_readRoad_52 (by decide) ?_
          obtain ⟨r12, g13, e14, hf⟩ := ob2_s hf
          refine r_callV (As := [.int (61 : Int32)]) (rest := []) (st1 := [.int r12]) (cells1 := 0) (slots1 := 0) (b := a0) (ci := 7) K (fun z => mX7_expects l z e14) dX7_readRoad_54 rfl (fun z => z _ _ ht) rfl ceX7_expects q_538 q_540 q_5 q_82 q_541 ⟨Nat.le_of_ble_eq_true rfl, Nat.le_of_ble_eq_true rfl⟩ (Nat.le_of_ble_eq_true rfl) ⟨Nat.le_of_ble_eq_true rfl, Nat.le_of_ble_eq_true rfl⟩ ?_ rfl rfl rfl rfl
          refine r_if_ne (tgt := 62) K dX7_readRoad_57 (by decide) (fun c23 => ?_) (fun c23 => ?_)
          · replace hf := ite_f hf c23
            refine r_aload_n K 2 dX7_readRoad_62 rfl ?_
            refine r_bipush (v := (6 : Int32)) K dX7_readRoad_63 (by decide) ?_
            obtain ⟨r15, g16, e17, hf⟩ := ob2_s hf
            refine r_callV (As := [.int (6 : Int32)]) (rest := []) (st1 := [.int r15]) (cells1 := 0) (slots1 := 0) (b := a0) (ci := 7) K (fun z => mX7_readNumber l z e17) dX7_readRoad_65 rfl (fun z => z _ _ ht) rfl ceX7_readNumber q_534 q_536 q_4 q_82 q_537 ⟨Nat.le_of_ble_eq_true rfl, Nat.le_of_ble_eq_true rfl⟩ (Nat.le_of_ble_eq_true rfl) ⟨Nat.le_of_ble_eq_true rfl, Nat.le_of_ble_eq_true rfl⟩ ?_ rfl rfl rfl rfl
            refine r_istore (lv1 := [(4, .int r15), (3, .int r9), (2, .int r3), (0, .ref a0), (1, .ref a1)]) K dX7_readRoad_68 (by decide) rfl ?_
            refine r_iload K 0 dX7_readRoad_70 rfl ?_
            refine r_if_lt (tgt := 91) K dX7_readRoad_72 (by decide) (fun c22 => ?_) (fun c22 => ?_)
            · replace hf := ite_t hf c22
              refine r_iconst (v := (0 : Int32)) K dX7_readRoad_91 (by decide) ?_
              exact r_zret K dX7_readRoad_92 rfl hf (Nat.le_of_ble_eq_true rfl) (Nat.le_of_ble_eq_true rfl)
            · replace hf := ite_f hf c22
              refine r_aload_n K 3 dX7_readRoad_75 rfl ?_
              refine r_aload_n K 4 dX7_readRoad_76 rfl ?_
              refine r_iload_n K 2 dX7_readRoad_77 rfl ?_
              refine r_iload_n K 1 dX7_readRoad_78 rfl ?_
              refine r_iload K 0 dX7_readRoad_79 rfl ?_
              obtain ⟨r18, g19, e20, hf⟩ := ob2_s hf
              refine r_callV (As := [.ref a1, .int r3, .int r9, .int r15]) (rest := []) (st1 := [.int r18]) (cells1 := 1) (slots1 := 7) (b := a0) (ci := 7) K (fun z => mX7_readRest l z e20) dX7_readRoad_81 rfl (fun z => z _ _ ht) rfl ceX7_readRest q_546 q_548 q_7 q_82 q_549 ⟨Nat.le_of_ble_eq_true rfl, Nat.le_of_ble_eq_true rfl⟩ (Nat.le_of_ble_eq_true rfl) ⟨Nat.le_of_ble_eq_true rfl, Nat.le_of_ble_eq_true rfl⟩ ?_ rfl rfl rfl rfl
              refine r_if_eq (tgt := 91) K dX7_readRoad_84 (by decide) (fun c21 => ?_) (fun c21 => ?_)
              · replace hf := ite_t hf c21
                refine r_iconst (v := (0 : Int32)) K dX7_readRoad_91 (by decide) ?_
                exact r_zret K dX7_readRoad_92 rfl hf (Nat.le_of_ble_eq_true rfl) (Nat.le_of_ble_eq_true rfl)
              · replace hf := ite_f hf c21
                refine r_iconst (v := (1 : Int32)) K dX7_readRoad_87 (by decide) ?_
                refine r_goto (tgt := 92) K dX7_readRoad_88 (by decide) ?_
                exact r_zret K dX7_readRoad_92 rfl hf (Nat.le_of_ble_eq_true rfl) (Nat.le_of_ble_eq_true rfl)
          · replace hf := ite_t hf c23
            refine r_iconst (v := (0 : Int32)) K dX7_readRoad_60 (by decide) ?_
            exact r_zret K dX7_readRoad_61 rfl hf (Nat.le_of_ble_eq_true rfl) (Nat.le_of_ble_eq_true rfl)
      · replace hf := ite_t hf c25
        refine r_iconst (v := (0 : Int32)) K dX7_readRoad_38 (by decide) ?_
        exact r_zret K dX7_readRoad_39 rfl hf (Nat.le_of_ble_eq_true rfl) (Nat.le_of_ble_eq_true rfl)
  · replace hf := ite_f hf c33
    refine r_aload_n K 0 dX7_readRoad_9 rfl ?_
    refine r_aload_n K 0 dX7_readRoad_10 rfl ?_
    obtain ⟨v27, e28, hf⟩ := ob1_s hf
    refine r_getI (ci := 7) (k := 2) K dX7_readRoad_11 inX7 rfl (by decide) rfl q_307 e28 ?_
    obtain ⟨r29, g30, e31, hf⟩ := ob2_s hf
    refine r_callV (As := [.int v27]) (rest := []) (st1 := [.int r29]) (cells1 := 0) (slots1 := 0) (b := a0) (ci := 7) K (fun z => mX7_failsAt l z e31) dX7_readRoad_14 rfl (fun z => z _ _ ht) rfl ceX7_failsAt q_526 q_528 q_2 q_82 q_529 ⟨Nat.le_of_ble_eq_true rfl, Nat.le_of_ble_eq_true rfl⟩ (Nat.le_of_ble_eq_true rfl) ⟨Nat.le_of_ble_eq_true rfl, Nat.le_of_ble_eq_true rfl⟩ ?_ rfl rfl rfl rfl
    obtain ⟨z32, hf⟩ := gd_s hf
    exact r_zret K dX7_readRoad_17 (zb_n z32) hf (Nat.le_of_ble_eq_true rfl) (Nat.le_of_ble_eq_true rfl)
theorem ceX7_readInto : CE yX7_readInto 1 := ⟨by decide, by decide, by decide +kernel⟩
abbrev rmX7_readInto : Room := { frames := 5, cells := 14, slots := 98, locals := 118 }
def fX7_readInto_L7 (a0 : Nat) (a1 : Nat) (k : AH → Option (Int32 × AH)) : Nat → Int32 → AH → Option (Int32 × AH)
  | 0, _, _ => none
  | n + 1, x2, h =>
    if (12 : Int32) < x2 then
      k h
    else
      ob2 (fX7_readRoad a0 a1 h) fun r3 g4 =>
      if r3 = (0 : Int32) then
        ob1 (gI g4 a0 7 3) fun v18 =>
        some ((-100 : Int32) - v18, g4)
      else
        ob1 (gI g4 a0 7 2) fun v6 =>
        ob1 (gI g4 a0 7 0) fun v8 =>
        if v6 < v8 then
          ob2 (fX7_expects a0 (59 : Int32) g4) fun r10 g11 =>
          if r10 = (0 : Int32) then
            ob1 (gI g11 a0 7 3) fun v14 =>
            some ((-100 : Int32) - v14, g11)
          else
            bnd (x2 + (1 : Int32)) fun y13 =>
            fX7_readInto_L7 a0 a1 k n y13 g11
        else
          some (x2 + (1 : Int32), g4)
def fX7_readInto (a0 : Nat) (a1 : Nat) (h : AH) : Option (Int32 × AH) :=
  ob1 (pV h a0 7 2 (.int (0 : Int32))) fun g1 =>
  fX7_readInto_L7 a0 a1 (fun (g22 : AH) =>
    ob1 (gI g22 a0 7 2) fun v23 =>
    some ((-100 : Int32) - v23, g22)
  ) 14 (0 : Int32) g1
set_option maxHeartbeats 4000000 in
set_option maxRecDepth 100000 in
theorem wX7_readInto_L7 {p : Program} {l : Launch} {e : Env} {s : State} {m : MethodId} {args : Array Value} {below : List Frame} {meth : Method} {c : Code} {G : GG} {b0 : Nat} {h0 : AH} {a0 : Nat} {a1 : Nat} {rr : Int32} {hh : AH} (K : CX p s m args meth c cX7_readInto 3 RX7 (some .int) G b0) (ht : isO h0 a0 7) (k : AH → Option (Int32 × AH)) (hk : ∀ (h : AH), k h = some (rr, hh) → WA p l e rmX7_readInto s m args below meth c (MQ below (QG G b0 h0 (some (.int rr)) hh) args s (rmX7_readInto).cells (rmX7_readInto).slots (AB b0)) G b0 3 h0 14 98 h 67 [(0, .ref a0)] []) : ∀ (n : Nat), n ≤ 14 → ∀ (x2 : Int32) (h : AH), fX7_readInto_L7 a0 a1 k n x2 h = some (rr, hh) → WA p l e rmX7_readInto s m args below meth c (MQ below (QG G b0 h0 (some (.int rr)) hh) args s (rmX7_readInto).cells (rmX7_readInto).slots (AB b0)) G b0 3 h0 (14 - n) ((14 - n) * 7) h 7 [(0, .ref a0), (1, .ref a1), (2, .int x2)] [] := by
  intro n
  induction n with
  | zero =>
    intro hn x2 h hf
    rw [fX7_readInto_L7] at hf
    cases hf
  | succ n ih =>
    intro hn x2 h hf
    rw [fX7_readInto_L7] at hf
    refine r_iload_n K 2 dX7_readInto_7 rfl ?_
    refine r_bipush (v := (12 : Int32)) K dX7_readInto_8 (by decide) ?_
    refine r_icmp_gt (tgt := 67) K dX7_readInto_10 (by decide) (fun c21 => ?_) (fun c21 => ?_)
    · replace hf := ite_t hf c21
      refine r_lv [0] rfl ?_
      refine r_wide (k1 := 14) (n1 := 98) (by omega) (by omega) ?_
      exact hk h hf
    · replace hf := ite_f hf c21
      refine r_aload_n K 0 dX7_readInto_13 rfl ?_
      refine r_aload_n K 1 dX7_readInto_14 rfl ?_
      obtain ⟨r3, g4, e5, hf⟩ := ob2_s hf
      refine r_callV (As := [.ref a1]) (rest := []) (st1 := [.int r3]) (cells1 := 14 - n) (slots1 := (14 - n) * 7) (b := a0) (ci := 7) K (fun z => mX7_readRoad l z e5) dX7_readInto_15 rfl (fun z => z _ _ ht) rfl ceX7_readRoad q_522 q_524 q_1 q_82 q_525 ⟨Nat.le_of_ble_eq_true rfl, Nat.le_of_ble_eq_true rfl⟩ (Nat.le_of_ble_eq_true rfl) ⟨by show 14 - (n + 1) + 1 ≤ 14; omega, by show (14 - (n + 1)) * 7 + 7 ≤ 98; omega⟩ ?_ (by show 14 - (n + 1) + 1 = 14 - n; omega) (by show (14 - (n + 1)) * 7 + 7 = (14 - n) * 7; omega) rfl rfl
      refine r_if_ne (tgt := 29) K dX7_readInto_18 (by decide) (fun c20 => ?_) (fun c20 => ?_)
      · replace hf := ite_f hf c20
        refine r_aload_n K 0 dX7_readInto_29 rfl ?_
        obtain ⟨v6, e7, hf⟩ := ob1_s hf
        refine r_getI (ci := 7) (k := 2) K dX7_readInto_30 inX7 rfl (by decide) rfl q_307 e7 ?_
        refine r_aload_n K 0 dX7_readInto_33 rfl ?_
        obtain ⟨v8, e9, hf⟩ := ob1_s hf
        refine r_getI (ci := 7) (k := 0) K dX7_readInto_34 inX7 rfl (by decide) rfl q_304 e9 ?_
        refine r_icmp_lt (tgt := 44) K dX7_readInto_37 (by decide) (fun c17 => ?_) (fun c17 => ?_)
        · replace hf := ite_t hf c17
          refine r_aload_n K 0 dX7_readInto_44 rfl ?_
          refine r_bipush (v := (59 : Int32)) K dX7_readInto_45 (by decide) ?_
          obtain ⟨r10, g11, e12, hf⟩ := ob2_s hf
          refine r_callV (As := [.int (59 : Int32)]) (rest := []) (st1 := [.int r10]) (cells1 := 14 - n) (slots1 := (14 - n) * 7) (b := a0) (ci := 7) K (fun z => mX7_expects l z e12) dX7_readInto_47 rfl (fun z => z _ _ ht) rfl ceX7_expects q_538 q_540 q_5 q_82 q_541 ⟨Nat.le_of_ble_eq_true rfl, Nat.le_of_ble_eq_true rfl⟩ (Nat.le_of_ble_eq_true rfl) ⟨by show 14 - n + 0 ≤ 14; omega, by show (14 - n) * 7 + 0 ≤ 98; omega⟩ ?_ rfl rfl rfl rfl
          refine r_if_ne (tgt := 61) K dX7_readInto_50 (by decide) (fun c16 => ?_) (fun c16 => ?_)
          · replace hf := ite_f hf c16
            obtain ⟨y13, ey13, hf⟩ := bnd_g hf
            refine r_iinc (lv1 := [(2, .int y13), (0, .ref a0), (1, .ref a1)]) K 2 dX7_readInto_61 rfl (by rw [ey13]; rfl) (by decide) rfl ?_
            refine r_goto (tgt := 7) K dX7_readInto_64 (by decide) ?_
            refine r_lv [1, 2, 0] rfl ?_
            exact ih (by omega) y13 g11 hf
          · replace hf := ite_t hf c16
            refine r_bipush (v := (-100 : Int32)) K dX7_readInto_53 (by decide) ?_
            refine r_aload_n K 0 dX7_readInto_55 rfl ?_
            obtain ⟨v14, e15, hf⟩ := ob1_s hf
            refine r_getI (ci := 7) (k := 3) K dX7_readInto_56 inX7 rfl (by decide) rfl q_308 e15 ?_
            refine r_isub K dX7_readInto_59 ?_
            exact r_iret K dX7_readInto_60 hf (by show 14 - n ≤ 14; omega) (by show (14 - n) * 7 ≤ 98; omega)
        · replace hf := ite_f hf c17
          refine r_iload_n K 2 dX7_readInto_40 rfl ?_
          refine r_iconst (v := (1 : Int32)) K dX7_readInto_41 (by decide) ?_
          refine r_iadd K dX7_readInto_42 ?_
          exact r_iret K dX7_readInto_43 hf (by show 14 - n ≤ 14; omega) (by show (14 - n) * 7 ≤ 98; omega)
      · replace hf := ite_t hf c20
        refine r_bipush (v := (-100 : Int32)) K dX7_readInto_21 (by decide) ?_
        refine r_aload_n K 0 dX7_readInto_23 rfl ?_
        obtain ⟨v18, e19, hf⟩ := ob1_s hf
        refine r_getI (ci := 7) (k := 3) K dX7_readInto_24 inX7 rfl (by decide) rfl q_308 e19 ?_
        refine r_isub K dX7_readInto_27 ?_
        exact r_iret K dX7_readInto_28 hf (by show 14 - n ≤ 14; omega) (by show (14 - n) * 7 ≤ 98; omega)
set_option maxHeartbeats 4000000 in
set_option maxRecDepth 100000 in
theorem mX7_readInto (l : Launch) {G : GG} {b0 : Nat} {h : AH} {a0 : Nat} {a1 : Nat} {rr : Int32} {hh : AH} (ht : isO h a0 7) (hf : fX7_readInto a0 a1 h = some (rr, hh)) : MM l yX7_readInto cX7_readInto 3 (some .int) rmX7_readInto G b0 h [.ref a0, .ref a1] (some (.int rr)) hh := by
  refine MM.of (own := RX7) (lv0 := [(0, .ref a0), (1, .ref a1)]) (by decide) rfl (Nat.le_of_ble_eq_true rfl) rfl ?_
  intro p e s m args below meth c K hnm
  unfold fX7_readInto at hf
  refine r_aload_n K 0 dX7_readInto_0 rfl ?_
  refine r_iconst (v := (0 : Int32)) K dX7_readInto_1 (by decide) ?_
  obtain ⟨g1, e2, hf⟩ := ob1_s hf
  refine r_putV (ci := 7) (k := 2) (ty0 := tyX7) (ty := tyX7 2) K dX7_readInto_2 inX7 rfl (by decide) rfl q_307 tyX7_ok nmX7 rfl rfl rfl rfl e2 ?_
  refine r_iconst (v := (0 : Int32)) K dX7_readInto_5 (by decide) ?_
  refine r_istore_n (lv1 := [(2, .int (0 : Int32)), (0, .ref a0), (1, .ref a1)]) K dX7_readInto_6 (by decide) rfl ?_
  refine r_lv [1, 2, 0] rfl ?_
  refine wX7_readInto_L7 K ht _ (fun g22 hf => ?_) 14 (by omega) (0 : Int32) g1 hf
  refine r_bipush (v := (-100 : Int32)) K dX7_readInto_67 (by decide) ?_
  refine r_aload_n K 0 dX7_readInto_69 rfl ?_
  obtain ⟨v23, e24, hf⟩ := ob1_s hf
  refine r_getI (ci := 7) (k := 2) K dX7_readInto_70 inX7 rfl (by decide) rfl q_307 e24 ?_
  refine r_isub K dX7_readInto_73 ?_
  exact r_iret K dX7_readInto_74 hf (Nat.le_of_ble_eq_true rfl) (Nat.le_of_ble_eq_true rfl)
