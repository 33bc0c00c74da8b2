theorem ceX10_clear : CE yX10_clear 0 := ⟨by decide, by decide, by decide +kernel⟩
abbrev rmX10_clear : Room := { frames := 0, cells := 0, slots := 0, locals := 0 }
def fX10_clear (a0 : Nat) (h : AH) : Option (Int32 × AH) :=
  ob1 (gI h a0 10 5) fun v1 =>
  ob1 (pV h a0 10 5 (.int (0 : Int32))) fun g3 =>
  some (v1, g3)
set_option maxHeartbeats 4000000 in
set_option maxRecDepth 100000 in
theorem mX10_clear (l : Launch) {G : GG} {b0 : Nat} {h : AH} {a0 : Nat} {rr : Int32} {hh : AH} (ht : isO h a0 10) (hf : fX10_clear a0 h = some (rr, hh)) : MM l yX10_clear cX10_clear 2 (some .int) rmX10_clear G b0 h [.ref a0] (some (.int rr)) hh := by
  refine MM.of (own := RX10) (lv0 := [(0, .ref a0)]) (by decide) rfl (Nat.le_of_ble_eq_true rfl) rfl ?_
  intro p e s m args below meth c K hnm
  unfold fX10_clear at hf
  refine r_aload_n K 0 dX10_clear_0 rfl ?_
  obtain ⟨v1, e2, hf⟩ := ob1_s hf
  refine r_getI (ci := 10) (k := 5) K dX10_clear_1 inX10 rfl (by decide) rfl q_911 e2 ?_
  refine r_istore_n (lv1 := [(1, .int v1), (0, .ref a0)]) K dX10_clear_4 (by decide) rfl ?_
  refine r_aload_n K 1 dX10_clear_5 rfl ?_
  refine r_iconst (v := (0 : Int32)) K dX10_clear_6 (by decide) ?_
  obtain ⟨g3, e4, hf⟩ := ob1_s hf
  refine r_putV (ci := 10) (k := 5) (ty0 := tyX10) (ty := tyX10 5) K dX10_clear_7 inX10 rfl (by decide) rfl q_911 tyX10_ok nmX10 rfl rfl rfl rfl e4 ?_
  refine r_iload_n K 0 dX10_clear_10 rfl ?_
  exact r_iret K dX10_clear_11 hf (Nat.le_of_ble_eq_true rfl) (Nat.le_of_ble_eq_true rfl)
theorem ceX10_here : CE yX10_here 0 := ⟨by decide, by decide, by decide +kernel⟩
abbrev rmX10_here : Room := { frames := 0, cells := 0, slots := 0, locals := 0 }
def fX10_here (a0 : Nat) (h : AH) : Option Int32 :=
  ob1 (gI h a0 10 6) fun v1 =>
  ob1 (gI h a0 10 5) fun v3 =>
  if v3 ≤ v1 then
    some (-1 : Int32)
  else
    ob1 (gR h a0 10 4) fun b5 =>
    ob1 (gI h a0 10 6) fun v7 =>
    ob1 (aI h b5 0 v7) fun v9 =>
    some v9
set_option maxHeartbeats 4000000 in
set_option maxRecDepth 100000 in
theorem mX10_here (l : Launch) {G : GG} {b0 : Nat} {h : AH} {a0 : Nat} {rr : Int32} (ht : isO h a0 10) (hf : fX10_here a0 h = some rr) : MM l yX10_here cX10_here 1 (some .int) rmX10_here G b0 h [.ref a0] (some (.int rr)) h := by
  refine MM.of (own := RX10) (lv0 := [(0, .ref a0)]) (by decide) rfl (Nat.le_of_ble_eq_true rfl) rfl ?_
  intro p e s m args below meth c K hnm
  unfold fX10_here at hf
  refine r_aload_n K 0 dX10_here_0 rfl ?_
  obtain ⟨v1, e2, hf⟩ := ob1_s hf
  refine r_getI (ci := 10) (k := 6) K dX10_here_1 inX10 rfl (by decide) rfl q_912 e2 ?_
  refine r_aload_n K 0 dX10_here_4 rfl ?_
  obtain ⟨v3, e4, hf⟩ := ob1_s hf
  refine r_getI (ci := 10) (k := 5) K dX10_here_5 inX10 rfl (by decide) rfl q_911 e4 ?_
  refine r_icmp_ge (tgt := 23) K dX10_here_8 (by decide) (fun c11 => ?_) (fun c11 => ?_)
  · replace hf := ite_t hf c11
    refine r_iconst (v := (-1 : Int32)) K dX10_here_23 (by decide) ?_
    exact r_iret K dX10_here_24 (retp hf) (Nat.le_of_ble_eq_true rfl) (Nat.le_of_ble_eq_true rfl)
  · replace hf := ite_f hf c11
    refine r_aload_n K 0 dX10_here_11 rfl ?_
    obtain ⟨b5, e6, hf⟩ := ob1_s hf
    refine r_getR (ci := 10) (k := 4) K dX10_here_12 inX10 rfl (by decide) rfl q_910 e6 ?_
    refine r_aload_n K 0 dX10_here_15 rfl ?_
    obtain ⟨v7, e8, hf⟩ := ob1_s hf
    refine r_getI (ci := 10) (k := 6) K dX10_here_16 inX10 rfl (by decide) rfl q_912 e8 ?_
    obtain ⟨v9, e10, hf⟩ := ob1_s hf
    refine r_iaload K dX10_here_19 e10 ?_
    refine r_goto (tgt := 24) K dX10_here_20 (by decide) ?_
    exact r_iret K dX10_here_24 (retp hf) (Nat.le_of_ble_eq_true rfl) (Nat.le_of_ble_eq_true rfl)
theorem ceX10_wants : CE yX10_wants 1 := ⟨by decide, by decide, by decide +kernel⟩
abbrev rmX10_wants : Room := { frames := 1, cells := 0, slots := 0, locals := 20 }
def fX10_wants (a0 : Nat) (x1 : Int32) (h : AH) : Option AH :=
  ob1 (gI h a0 10 7) fun v1 =>
  bnd (fun (g4 : AH) =>
    ob1 (pV g4 a0 10 7 (.int (1 : Int32))) fun g5 =>
    ob1 (gI g5 a0 10 6) fun v7 =>
    ob1 (gI g5 a0 10 7) fun v9 =>
    if v9 = (0 : Int32) then
      ob1 (pV g5 a0 10 6 (.int (v7 + (1 : Int32)))) fun g11 =>
      some g11
    else
      ob1 (pV g5 a0 10 6 (.int (v7 + (0 : Int32)))) fun g13 =>
      some g13
  ) fun j3 =>
  if v1 = (0 : Int32) then
    ob1 (fX10_here a0 h) fun r16 =>
    if r16 = x1 then
      ob1 (pV h a0 10 7 (.int (0 : Int32))) fun g18 =>
      ob1 (gI g18 a0 10 6) fun v20 =>
      ob1 (gI g18 a0 10 7) fun v22 =>
      if v22 = (0 : Int32) then
        ob1 (pV g18 a0 10 6 (.int (v20 + (1 : Int32)))) fun g24 =>
        some g24
      else
        ob1 (pV g18 a0 10 6 (.int (v20 + (0 : Int32)))) fun g26 =>
        some g26
    else
      j3 h
  else
    j3 h
set_option maxHeartbeats 4000000 in
set_option maxRecDepth 100000 in
theorem mX10_wants (l : Launch) {G : GG} {b0 : Nat} {h : AH} {a0 : Nat} {x1 : Int32} {hh : AH} (ht : isO h a0 10) (hf : fX10_wants a0 x1 h = some hh) : MM l yX10_wants cX10_wants 2 (none) rmX10_wants G b0 h [.ref a0, .int x1] none hh := by
  refine MM.of (own := RX10) (lv0 := [(0, .ref a0), (1, .int x1)]) (by decide) rfl (Nat.le_of_ble_eq_true rfl) rfl ?_
  intro p e s m args below meth c K hnm
  unfold fX10_wants at hf
  refine r_aload_n K 0 dX10_wants_0 rfl ?_
  refine r_aload_n K 0 dX10_wants_1 rfl ?_
  obtain ⟨v1, e2, hf⟩ := ob1_s hf
  refine r_getI (ci := 10) (k := 7) K dX10_wants_2 inX10 rfl (by decide) rfl q_913 e2 ?_
  obtain ⟨j3, ej3, hf⟩ := bnd_g hf
  have Jj3 : ∀ (g4 : AH), j3 g4 = some hh → WA p l e rmX10_wants s m args below meth c (MQ below (QG G b0 h none hh) args s (rmX10_wants).cells (rmX10_wants).slots (AB b0)) G b0 2 h 0 0 g4 16 [(0, .ref a0)] [.ref a0] := by
    intro g4 hf
    rw [ej3] at hf
    refine r_iconst (v := (1 : Int32)) K dX10_wants_16 (by decide) ?_
    refine r_goto (tgt := 21) K dX10_wants_17 (by decide) ?_
    obtain ⟨g5, e6, hf⟩ := ob1_s hf
    refine r_putV (ci := 10) (k := 7) (ty0 := tyX10) (ty := tyX10 7) K dX10_wants_21 inX10 rfl (by decide) rfl q_913 tyX10_ok nmX10 rfl rfl rfl rfl e6 ?_
    refine r_aload_n K 0 dX10_wants_24 rfl ?_
    refine r_dup K dX10_wants_25 rfl ?_
    obtain ⟨v7, e8, hf⟩ := ob1_s hf
    refine r_getI (ci := 10) (k := 6) K dX10_wants_26 inX10 rfl (by decide) rfl q_912 e8 ?_
    refine r_aload_n K 0 dX10_wants_29 rfl ?_
    obtain ⟨v9, e10, hf⟩ := ob1_s hf
    refine r_getI (ci := 10) (k := 7) K dX10_wants_30 inX10 rfl (by decide) rfl q_913 e10 ?_
    refine r_if_eq (tgt := 40) K dX10_wants_33 (by decide) (fun c15 => ?_) (fun c15 => ?_)
    · replace hf := ite_t hf c15
      refine r_iconst (v := (1 : Int32)) K dX10_wants_40 (by decide) ?_
      refine r_iadd K dX10_wants_41 ?_
      obtain ⟨g11, e12, hf⟩ := ob1_s hf
      refine r_putV (ci := 10) (k := 6) (ty0 := tyX10) (ty := tyX10 6) K dX10_wants_42 inX10 rfl (by decide) rfl q_912 tyX10_ok nmX10 rfl rfl rfl rfl e12 ?_
      exact r_vret K dX10_wants_45 hf (Nat.le_of_ble_eq_true rfl) (Nat.le_of_ble_eq_true rfl)
    · replace hf := ite_f hf c15
      refine r_iconst (v := (0 : Int32)) K dX10_wants_36 (by decide) ?_
      refine r_goto (tgt := 41) K dX10_wants_37 (by decide) ?_
      refine r_iadd K dX10_wants_41 ?_
      obtain ⟨g13, e14, hf⟩ := ob1_s hf
      refine r_putV (ci := 10) (k := 6) (ty0 := tyX10) (ty := tyX10 6) K dX10_wants_42 inX10 rfl (by decide) rfl q_912 tyX10_ok nmX10 rfl rfl rfl rfl e14 ?_
      exact r_vret K dX10_wants_45 hf (Nat.le_of_ble_eq_true rfl) (Nat.le_of_ble_eq_true rfl)
  refine r_if_ne (tgt := 16) K dX10_wants_5 (by decide) (fun c30 => ?_) (fun c30 => ?_)
  · replace hf := ite_f hf c30
    refine r_lv [0] rfl ?_
    exact Jj3 h hf
  · replace hf := ite_t hf c30
    refine r_aload_n K 0 dX10_wants_8 rfl ?_
    obtain ⟨r16, e17, hf⟩ := ob1_s hf
    refine r_callV (As := []) (rest := [.ref a0]) (st1 := [.int r16, .ref a0]) (cells1 := 0) (slots1 := 0) (b := a0) (ci := 10) K (fun z => mX10_here l z e17) dX10_wants_9 rfl (fun z => z _ _ ht) rfl ceX10_here q_1115 q_1117 q_42 q_85 q_1118 ⟨Nat.le_of_ble_eq_true rfl, Nat.le_of_ble_eq_true rfl⟩ (Nat.le_of_ble_eq_true rfl) ⟨Nat.le_of_ble_eq_true rfl, Nat.le_of_ble_eq_true rfl⟩ ?_ rfl rfl rfl rfl
    refine r_iload_n K 1 dX10_wants_12 rfl ?_
    refine r_icmp_eq (tgt := 20) K dX10_wants_13 (by decide) (fun c29 => ?_) (fun c29 => ?_)
    · replace hf := ite_t hf c29
      refine r_iconst (v := (0 : Int32)) K dX10_wants_20 (by decide) ?_
      obtain ⟨g18, e19, hf⟩ := ob1_s hf
      refine r_putV (ci := 10) (k := 7) (ty0 := tyX10) (ty := tyX10 7) K dX10_wants_21 inX10 rfl (by decide) rfl q_913 tyX10_ok nmX10 rfl rfl rfl rfl e19 ?_
      refine r_aload_n K 0 dX10_wants_24 rfl ?_
      refine r_dup K dX10_wants_25 rfl ?_
      obtain ⟨v20, e21, hf⟩ := ob1_s hf
      refine r_getI (ci := 10) (k := 6) K dX10_wants_26 inX10 rfl (by decide) rfl q_912 e21 ?_
      refine r_aload_n K 0 dX10_wants_29 rfl ?_
      obtain ⟨v22, e23, hf⟩ := ob1_s hf
      refine r_getI (ci := 10) (k := 7) K dX10_wants_30 inX10 rfl (by decide) rfl q_913 e23 ?_
      refine r_if_eq (tgt := 40) K dX10_wants_33 (by decide) (fun c28 => ?_) (fun c28 => ?_)
      · replace hf := ite_t hf c28
        refine r_iconst (v := (1 : Int32)) K dX10_wants_40 (by decide) ?_
        refine r_iadd K dX10_wants_41 ?_
        obtain ⟨g24, e25, hf⟩ := ob1_s hf
        refine r_putV (ci := 10) (k := 6) (ty0 := tyX10) (ty := tyX10 6) K dX10_wants_42 inX10 rfl (by decide) rfl q_912 tyX10_ok nmX10 rfl rfl rfl rfl e25 ?_
        exact r_vret K dX10_wants_45 hf (Nat.le_of_ble_eq_true rfl) (Nat.le_of_ble_eq_true rfl)
      · replace hf := ite_f hf c28
        refine r_iconst (v := (0 : Int32)) K dX10_wants_36 (by decide) ?_
        refine r_goto (tgt := 41) K dX10_wants_37 (by decide) ?_
        refine r_iadd K dX10_wants_41 ?_
        obtain ⟨g26, e27, hf⟩ := ob1_s hf
        refine r_putV (ci := 10) (k := 6) (ty0 := tyX10) (ty := tyX10 6) K dX10_wants_42 inX10 rfl (by decide) rfl q_912 tyX10_ok nmX10 rfl rfl rfl rfl e27 ?_
        exact r_vret K dX10_wants_45 hf (Nat.le_of_ble_eq_true rfl) (Nat.le_of_ble_eq_true rfl)
    · replace hf := ite_f hf c29
      refine r_lv [0] rfl ?_
      exact Jj3 h hf
theorem ceX10_readNumber : CE yX10_readNumber 2 := ⟨by decide, by decide, by decide +kernel⟩
abbrev rmX10_readNumber : Room := { frames := 1, cells := 0, slots := 0, locals := 25 }
def fX10_readNumber_L44 (a0 : Nat) (x1 : Int32) (x2 : Int32) (x3 : Int32) (k : Int32 → AH → Option (Int32 × AH)) : Nat → Int32 → Int32 → AH → Option (Int32 × AH)
  | 0, _, _, _ => none
  | n + 1, x4, x5, h =>
    if x1 ≤ x5 then
      k x4 h
    else
      ob1 (gI h a0 10 7) fun v10 =>
      if v10 = (0 : Int32) then
        ob1 (fX10_here a0 h) fun r12 =>
        ob1 (fX10_in (Int32.toInt64 r12) (48 : Int64) (57 : Int64)) fun r14 =>
        if r14 = (0 : Int32) then
          k x4 h
        else
          ob1 (fX10_here a0 h) fun r16 =>
          bnd ((((10 : Int32) * x4) + r16) - (48 : Int32)) fun y18 =>
          ob1 (gI h a0 10 6) fun v19 =>
          ob1 (pV h a0 10 6 (.int (v19 + (1 : Int32)))) fun g21 =>
          bnd (x5 + (1 : Int32)) fun y23 =>
          fX10_readNumber_L44 a0 x1 x2 x3 k n y18 y23 g21
      else
        k x4 h
def fX10_readNumber (a0 : Nat) (x1 : Int32) (x2 : Int32) (h : AH) : Option (Int32 × AH) :=
  ob1 (gI h a0 10 6) fun v1 =>
  ob1 (gI h a0 10 7) fun v3 =>
  bnd (fun (y6 : Int32) (g7 : AH) =>
    ob1 (pV g7 a0 10 7 (.int (1 : Int32))) fun g8 =>
    fX10_readNumber_L44 a0 x1 x2 v1 (fun (y27 : Int32) (g28 : AH) =>
      ob1 (gI g28 a0 10 7) fun v29 =>
      if v29 = (0 : Int32) then
        if y27 ≤ x2 then
          some (y27, g28)
        else
          ob1 (pV g28 a0 10 7 (.int (1 : Int32))) fun g31 =>
          ob1 (pV g31 a0 10 6 (.int v1)) fun g33 =>
          some (y27, g33)
      else
        some (y27, g28)
    ) lf y6 (0 : Int32) g8
  ) fun j5 =>
  if v3 = (0 : Int32) then
    ob1 (fX10_here a0 h) fun r37 =>
    ob1 (fX10_in (Int32.toInt64 r37) (48 : Int64) (57 : Int64)) fun r39 =>
    if r39 = (0 : Int32) then
      j5 (0 : Int32) h
    else
      ob1 (pV h a0 10 7 (.int (0 : Int32))) fun g41 =>
      fX10_readNumber_L44 a0 x1 x2 v1 (fun (y43 : Int32) (g44 : AH) =>
        ob1 (gI g44 a0 10 7) fun v45 =>
        if v45 = (0 : Int32) then
          if y43 ≤ x2 then
            some (y43, g44)
          else
            ob1 (pV g44 a0 10 7 (.int (1 : Int32))) fun g47 =>
            ob1 (pV g47 a0 10 6 (.int v1)) fun g49 =>
            some (y43, g49)
        else
          some (y43, g44)
      ) lf (0 : Int32) (0 : Int32) g41
  else
    j5 (0 : Int32) h
set_option maxHeartbeats 4000000 in
set_option maxRecDepth 100000 in
theorem wX10_readNumber_L44 {p : Program} {l : Launch} {e : Env} {s : State} {m : MethodId} {args : Array Value} {below : List Frame} {meth : Method} {c : Code} {G : GG} {b0 : Nat} {h0 : AH} {a0 : Nat} {x1 : Int32} {x2 : Int32} {x3 : Int32} {rr : Int32} {hh : AH} (K : CX p s m args meth c cX10_readNumber 6 RX10 (some .int) G b0) (ht : isO h0 a0 10) (k : Int32 → AH → Option (Int32 × AH)) (hk : ∀ (x4 : Int32) (h : AH), k x4 h = some (rr, hh) → WA p l e rmX10_readNumber s m args below meth c (MQ below (QG G b0 h0 (some (.int rr)) hh) args s (rmX10_readNumber).cells (rmX10_readNumber).slots (AB b0)) G b0 6 h0 0 0 h 105 [(0, .ref a0), (2, .int x2), (3, .int x3), (4, .int x4)] []) : ∀ (n : Nat) (x4 : Int32) (x5 : Int32) (h : AH), fX10_readNumber_L44 a0 x1 x2 x3 k n x4 x5 h = some (rr, hh) → WA p l e rmX10_readNumber s m args below meth c (MQ below (QG G b0 h0 (some (.int rr)) hh) args s (rmX10_readNumber).cells (rmX10_readNumber).slots (AB b0)) G b0 6 h0 0 0 h 44 [(0, .ref a0), (1, .int x1), (2, .int x2), (3, .int x3), (4, .int x4), (5, .int x5)] [] := by
  intro n
  induction n with
  | zero =>
    intro x4 x5 h hf
    rw [fX10_readNumber_L44] at hf
    cases hf
  | succ n ih =>
    intro x4 x5 h hf
    rw [fX10_readNumber_L44] at hf
    refine r_iload K 5 dX10_readNumber_44 rfl ?_
    refine r_iload_n K 1 dX10_readNumber_46 rfl ?_
    refine r_icmp_ge (tgt := 105) K dX10_readNumber_47 (by decide) (fun c26 => ?_) (fun c26 => ?_)
    · replace hf := ite_t hf c26
      refine r_lv [0, 2, 3, 4] rfl ?_
      exact hk x4 h hf
    · replace hf := ite_f hf c26
      refine r_aload_n K 0 dX10_readNumber_50 rfl ?_
      obtain ⟨v10, e11, hf⟩ := ob1_s hf
      refine r_getI (ci := 10) (k := 7) K dX10_readNumber_51 inX10 rfl (by decide) rfl q_913 e11 ?_
      refine r_if_ne (tgt := 105) K dX10_readNumber_54 (by decide) (fun c25 => ?_) (fun c25 => ?_)
      · replace hf := ite_f hf c25
        refine r_lv [0, 2, 3, 4] rfl ?_
        exact hk x4 h hf
      · replace hf := ite_t hf c25
        refine r_aload_n K 0 dX10_readNumber_57 rfl ?_
        obtain ⟨r12, e13, hf⟩ := ob1_s hf
        refine r_callV (As := []) (rest := []) (st1 := [.int r12]) (cells1 := 0) (slots1 := 0) (b := a0) (ci := 10) K (fun z => mX10_here l z e13) dX10_readNumber_58 rfl (fun z => z _ _ ht) rfl ceX10_here q_1115 q_1117 q_42 q_85 q_1118 ⟨Nat.le_of_ble_eq_true rfl, Nat.le_of_ble_eq_true rfl⟩ (Nat.le_of_ble_eq_true rfl) ⟨Nat.le_of_ble_eq_true rfl, Nat.le_of_ble_eq_true rfl⟩ ?_ rfl rfl rfl rfl
        refine r_i2l K dX10_readNumber_61 ?_
        refine r_ldc2 K dX10_readNumber_62 q_1119 ?_
        refine r_ldc2 K dX10_readNumber_65 q_1120 ?_
        obtain ⟨r14, e15, hf⟩ := ob1_s hf
        refine r_callS (As := [.long (Int32.toInt64 r12), .long (48 : Int64), .long (57 : Int64)]) (rest := []) (st1 := [.int r14]) (cells1 := 0) (slots1 := 0) K (mX10_in l e15) dX10_readNumber_68 ceX10_in q_1005 q_1006 q_85 q_1007 ⟨Nat.le_of_ble_eq_true rfl, Nat.le_of_ble_eq_true rfl⟩ (Nat.le_of_ble_eq_true rfl) ⟨Nat.le_of_ble_eq_true rfl, Nat.le_of_ble_eq_true rfl⟩ ?_ rfl rfl rfl rfl
        refine r_if_eq (tgt := 105) K dX10_readNumber_71 (by decide) (fun c24 => ?_) (fun c24 => ?_)
        · replace hf := ite_t hf c24
          refine r_lv [0, 2, 3, 4] rfl ?_
          exact hk x4 h hf
        · replace hf := ite_f hf c24
          refine r_bipush (v := (10 : Int32)) K dX10_readNumber_74 (by decide) ?_
          refine r_iload K 4 dX10_readNumber_76 rfl ?_
          refine r_imul K dX10_readNumber_78 ?_
          refine r_aload_n K 0 dX10_readNumber_79 rfl ?_
          obtain ⟨r16, e17, hf⟩ := ob1_s hf
          refine r_callV (As := []) (rest := [.int ((10 : Int32) * x4)]) (st1 := [.int r16, .int ((10 : Int32) * x4)]) (cells1 := 0) (slots1 := 0) (b := a0) (ci := 10) K (fun z => mX10_here l z e17) dX10_readNumber_80 rfl (fun z => z _ _ ht) rfl ceX10_here q_1115 q_1117 q_42 q_85 q_1118 ⟨Nat.le_of_ble_eq_true rfl, Nat.le_of_ble_eq_true rfl⟩ (Nat.le_of_ble_eq_true rfl) ⟨Nat.le_of_ble_eq_true rfl, Nat.le_of_ble_eq_true rfl⟩ ?_ rfl rfl rfl rfl
          refine r_iadd K dX10_readNumber_83 ?_
          refine r_bipush (v := (48 : Int32)) K dX10_readNumber_84 (by decide) ?_
          refine r_isub K dX10_readNumber_86 ?_
          obtain ⟨y18, ey18, hf⟩ := bnd_g hf
          refine r_nmi ey18 ?_
          refine r_istore (lv1 := [(4, .int y18), (0, .ref a0), (1, .int x1), (2, .int x2), (3, .int x3), (5, .int x5)]) K dX10_readNumber_87 (by decide) rfl ?_
          refine r_aload_n K 1 dX10_readNumber_89 rfl ?_
          refine r_dup K dX10_readNumber_90 rfl ?_
          obtain ⟨v19, e20, hf⟩ := ob1_s hf
          refine r_getI (ci := 10) (k := 6) K dX10_readNumber_91 inX10 rfl (by decide) rfl q_912 e20 ?_
          refine r_iconst (v := (1 : Int32)) K dX10_readNumber_94 (by decide) ?_
          refine r_iadd K dX10_readNumber_95 ?_
          obtain ⟨g21, e22, hf⟩ := ob1_s hf
          refine r_putV (ci := 10) (k := 6) (ty0 := tyX10) (ty := tyX10 6) K dX10_readNumber_96 inX10 rfl (by decide) rfl q_912 tyX10_ok nmX10 rfl rfl rfl rfl e22 ?_
          obtain ⟨y23, ey23, hf⟩ := bnd_g hf
          refine r_iinc (lv1 := [(5, .int y23), (4, .int y18), (0, .ref a0), (1, .int x1), (2, .int x2), (3, .int x3)]) K 5 dX10_readNumber_99 rfl (by rw [ey23]; rfl) (by decide) rfl ?_
          refine r_goto (tgt := 44) K dX10_readNumber_102 (by decide) ?_
          refine r_lv [2, 3, 4, 5, 1, 0] rfl ?_
          exact ih y18 y23 g21 hf
set_option maxHeartbeats 4000000 in
set_option maxRecDepth 100000 in
theorem mX10_readNumber (l : Launch) {G : GG} {b0 : Nat} {h : AH} {a0 : Nat} {x1 : Int32} {x2 : Int32} {rr : Int32} {hh : AH} (ht : isO h a0 10) (hf : fX10_readNumber a0 x1 x2 h = some (rr, hh)) : MM l yX10_readNumber cX10_readNumber 6 (some .int) rmX10_readNumber G b0 h [.ref a0, .int x1, .int x2] (some (.int rr)) hh := by
  refine MM.of (own := RX10) (lv0 := [(0, .ref a0), (1, .int x1), (2, .int x2)]) (by decide) rfl (Nat.le_of_ble_eq_true rfl) rfl ?_
  intro p e s m args below meth c K hnm
  unfold fX10_readNumber at hf
  refine r_aload_n K 0 dX10_readNumber_0 rfl ?_
  obtain ⟨v1, e2, hf⟩ := ob1_s hf
  refine r_getI (ci := 10) (k := 6) K dX10_readNumber_1 inX10 rfl (by decide) rfl q_912 e2 ?_
  refine r_istore_n (lv1 := [(3, .int v1), (0, .ref a0), (1, .int x1), (2, .int x2)]) K dX10_readNumber_4 (by decide) rfl ?_
  refine r_iconst (v := (0 : Int32)) K dX10_readNumber_5 (by decide) ?_
  refine r_istore (lv1 := [(4, .int (0 : Int32)), (3, .int v1), (0, .ref a0), (1, .int x1), (2, .int x2)]) K dX10_readNumber_6 (by decide) rfl ?_
  refine r_aload_n K 2 dX10_readNumber_8 rfl ?_
  refine r_aload_n K 2 dX10_readNumber_9 rfl ?_
  obtain ⟨v3, e4, hf⟩ := ob1_s hf
  refine r_getI (ci := 10) (k := 7) K dX10_readNumber_10 inX10 rfl (by decide) rfl q_913 e4 ?_
  obtain ⟨j5, ej5, hf⟩ := bnd_g hf
  have Jj5 : ∀ (y6 : Int32) (g7 : AH), j5 y6 g7 = some (rr, hh) → WA p l e rmX10_readNumber s m args below meth c (MQ below (QG G b0 h (some (.int rr)) hh) args s (rmX10_readNumber).cells (rmX10_readNumber).slots (AB b0)) G b0 6 h 0 0 g7 33 [(0, .ref a0), (1, .int x1), (2, .int x2), (3, .int v1), (4, .int y6)] [.ref a0] := by
    intro y6 g7 hf
    rw [ej5] at hf
    refine r_iconst (v := (1 : Int32)) K dX10_readNumber_33 (by decide) ?_
    refine r_goto (tgt := 38) K dX10_readNumber_34 (by decide) ?_
    obtain ⟨g8, e9, hf⟩ := ob1_s hf
    refine r_putV (ci := 10) (k := 7) (ty0 := tyX10) (ty := tyX10 7) K dX10_readNumber_38 inX10 rfl (by decide) rfl q_913 tyX10_ok nmX10 rfl rfl rfl rfl e9 ?_
    refine r_iconst (v := (0 : Int32)) K dX10_readNumber_41 (by decide) ?_
    refine r_istore (lv1 := [(5, .int (0 : Int32)), (0, .ref a0), (1, .int x1), (2, .int x2), (3, .int v1), (4, .int y6)]) K dX10_readNumber_42 (by decide) rfl ?_
    refine r_lv [1, 2, 3, 4, 5, 0] rfl ?_
    refine wX10_readNumber_L44 K ht _ (fun y27 g28 hf => ?_) lf y6 (0 : Int32) g8 hf
    refine r_aload_n K 0 dX10_readNumber_105 rfl ?_
    obtain ⟨v29, e30, hf⟩ := ob1_s hf
    refine r_getI (ci := 10) (k := 7) K dX10_readNumber_106 inX10 rfl (by decide) rfl q_913 e30 ?_
    refine r_if_ne (tgt := 128) K dX10_readNumber_109 (by decide) (fun c36 => ?_) (fun c36 => ?_)
    · replace hf := ite_f hf c36
      refine r_iload K 3 dX10_readNumber_128 rfl ?_
      exact r_iret K dX10_readNumber_130 hf (Nat.le_of_ble_eq_true rfl) (Nat.le_of_ble_eq_true rfl)
    · replace hf := ite_t hf c36
      refine r_iload K 3 dX10_readNumber_112 rfl ?_
      refine r_iload_n K 1 dX10_readNumber_114 rfl ?_
      refine r_icmp_le (tgt := 128) K dX10_readNumber_115 (by decide) (fun c35 => ?_) (fun c35 => ?_)
      · replace hf := ite_t hf c35
        refine r_iload K 3 dX10_readNumber_128 rfl ?_
        exact r_iret K dX10_readNumber_130 hf (Nat.le_of_ble_eq_true rfl) (Nat.le_of_ble_eq_true rfl)
      · replace hf := ite_f hf c35
        refine r_aload_n K 0 dX10_readNumber_118 rfl ?_
        refine r_iconst (v := (1 : Int32)) K dX10_readNumber_119 (by decide) ?_
        obtain ⟨g31, e32, hf⟩ := ob1_s hf
        refine r_putV (ci := 10) (k := 7) (ty0 := tyX10) (ty := tyX10 7) K dX10_readNumber_120 inX10 rfl (by decide) rfl q_913 tyX10_ok nmX10 rfl rfl rfl rfl e32 ?_
        refine r_aload_n K 0 dX10_readNumber_123 rfl ?_
        refine r_iload_n K 2 dX10_readNumber_124 rfl ?_
        obtain ⟨g33, e34, hf⟩ := ob1_s hf
        refine r_putV (ci := 10) (k := 6) (ty0 := tyX10) (ty := tyX10 6) K dX10_readNumber_125 inX10 rfl (by decide) rfl q_912 tyX10_ok nmX10 rfl rfl rfl rfl e34 ?_
        refine r_iload K 3 dX10_readNumber_128 rfl ?_
        exact r_iret K dX10_readNumber_130 hf (Nat.le_of_ble_eq_true rfl) (Nat.le_of_ble_eq_true rfl)
  refine r_if_ne (tgt := 33) K dX10_readNumber_13 (by decide) (fun c54 => ?_) (fun c54 => ?_)
  · replace hf := ite_f hf c54
    refine r_lv [2, 3, 4, 1, 0] rfl ?_
    exact Jj5 (0 : Int32) h hf
  · replace hf := ite_t hf c54
    refine r_aload_n K 2 dX10_readNumber_16 rfl ?_
    obtain ⟨r37, e38, hf⟩ := ob1_s hf
    refine r_callV (As := []) (rest := [.ref a0]) (st1 := [.int r37, .ref a0]) (cells1 := 0) (slots1 := 0) (b := a0) (ci := 10) K (fun z => mX10_here l z e38) dX10_readNumber_17 rfl (fun z => z _ _ ht) rfl ceX10_here q_1115 q_1117 q_42 q_85 q_1118 ⟨Nat.le_of_ble_eq_true rfl, Nat.le_of_ble_eq_true rfl⟩ (Nat.le_of_ble_eq_true rfl) ⟨Nat.le_of_ble_eq_true rfl, Nat.le_of_ble_eq_true rfl⟩ ?_ rfl rfl rfl rfl
    refine r_i2l K dX10_readNumber_20 ?_
    refine r_ldc2 K dX10_readNumber_21 q_1119 ?_
    refine r_ldc2 K dX10_readNumber_24 q_1120 ?_
    obtain ⟨r39, e40, hf⟩ := ob1_s hf
    refine r_callS (As := [.long (Int32.toInt64 r37), .long (48 : Int64), .long (57 : Int64)]) (rest := [.ref a0]) (st1 := [.int r39, .ref a0]) (cells1 := 0) (slots1 := 0) K (mX10_in l e40) dX10_readNumber_27 ceX10_in q_1005 q_1006 q_85 q_1007 ⟨Nat.le_of_ble_eq_true rfl, Nat.le_of_ble_eq_true rfl⟩ (Nat.le_of_ble_eq_true rfl) ⟨Nat.le_of_ble_eq_true rfl, Nat.le_of_ble_eq_true rfl⟩ ?_ rfl rfl rfl rfl
    refine r_if_ne (tgt := 37) K dX10_readNumber_30 (by decide) (fun c53 => ?_) (fun c53 => ?_)
    · replace hf := ite_f hf c53
      refine r_iconst (v := (0 : Int32)) K dX10_readNumber_37 (by decide) ?_
      obtain ⟨g41, e42, hf⟩ := ob1_s hf
      refine r_putV (ci := 10) (k := 7) (ty0 := tyX10) (ty := tyX10 7) K dX10_readNumber_38 inX10 rfl (by decide) rfl q_913 tyX10_ok nmX10 rfl rfl rfl rfl e42 ?_
      refine r_iconst (v := (0 : Int32)) K dX10_readNumber_41 (by decide) ?_
      refine r_istore (lv1 := [(5, .int (0 : Int32)), (4, .int (0 : Int32)), (3, .int v1), (0, .ref a0), (1, .int x1), (2, .int x2)]) K dX10_readNumber_42 (by decide) rfl ?_
      refine r_lv [3, 4, 5, 2, 1, 0] rfl ?_
      refine wX10_readNumber_L44 K ht _ (fun y43 g44 hf => ?_) lf (0 : Int32) (0 : Int32) g41 hf
      refine r_aload_n K 0 dX10_readNumber_105 rfl ?_
      obtain ⟨v45, e46, hf⟩ := ob1_s hf
      refine r_getI (ci := 10) (k := 7) K dX10_readNumber_106 inX10 rfl (by decide) rfl q_913 e46 ?_
      refine r_if_ne (tgt := 128) K dX10_readNumber_109 (by decide) (fun c52 => ?_) (fun c52 => ?_)
      · replace hf := ite_f hf c52
        refine r_iload K 3 dX10_readNumber_128 rfl ?_
        exact r_iret K dX10_readNumber_130 hf (Nat.le_of_ble_eq_true rfl) (Nat.le_of_ble_eq_true rfl)
      · replace hf := ite_t hf c52
        refine r_iload K 3 dX10_readNumber_112 rfl ?_
        refine r_iload_n K 1 dX10_readNumber_114 rfl ?_
        refine r_icmp_le (tgt := 128) K dX10_readNumber_115 (by decide) (fun c51 => ?_) (fun c51 => ?_)
        · replace hf := ite_t hf c51
          refine r_iload K 3 dX10_readNumber_128 rfl ?_
          exact r_iret K dX10_readNumber_130 hf (Nat.le_of_ble_eq_true rfl) (Nat.le_of_ble_eq_true rfl)
        · replace hf := ite_f hf c51
          refine r_aload_n K 0 dX10_readNumber_118 rfl ?_
          refine r_iconst (v := (1 : Int32)) K dX10_readNumber_119 (by decide) ?_
          obtain ⟨g47, e48, hf⟩ := ob1_s hf
          refine r_putV (ci := 10) (k := 7) (ty0 := tyX10) (ty := tyX10 7) K dX10_readNumber_120 inX10 rfl (by decide) rfl q_913 tyX10_ok nmX10 rfl rfl rfl rfl e48 ?_
          refine r_aload_n K 0 dX10_readNumber_123 rfl ?_
          refine r_iload_n K 2 dX10_readNumber_124 rfl ?_
          obtain ⟨g49, e50, hf⟩ := ob1_s hf
          refine r_putV (ci := 10) (k := 6) (ty0 := tyX10) (ty := tyX10 6) K dX10_readNumber_125 inX10 rfl (by decide) rfl q_912 tyX10_ok nmX10 rfl rfl rfl rfl e50 ?_
          refine r_iload K 3 dX10_readNumber_128 rfl ?_
          exact r_iret K dX10_readNumber_130 hf (Nat.le_of_ble_eq_true rfl) (Nat.le_of_ble_eq_true rfl)
    · replace hf := ite_t hf c53
      refine r_lv [2, 3, 4, 1, 0] rfl ?_
      exact Jj5 (0 : Int32) h hf
theorem ceX10_goesOn : CE yX10_goesOn 1 := ⟨by decide, by decide, by decide +kernel⟩
abbrev rmX10_goesOn : Room := { frames := 1, cells := 0, slots := 0, locals := 20 }
def fX10_goesOn (a0 : Nat) (x1 : Int32) (h : AH) : Option (Int32 × AH) :=
  ob1 (gI h a0 10 7) fun v1 =>
  bnd (fun (g4 : AH) =>
    ob1 (gI g4 a0 10 6) fun v5 =>
    if (0 : Int32) = (0 : Int32) then
      ob1 (pV g4 a0 10 6 (.int (v5 + (0 : Int32)))) fun g7 =>
      some ((0 : Int32), g7)
    else
      ob1 (pV g4 a0 10 6 (.int (v5 + (1 : Int32)))) fun g9 =>
      some ((0 : Int32), g9)
  ) fun j3 =>
  if v1 = (0 : Int32) then
    ob1 (fX10_here a0 h) fun r12 =>
    if r12 = x1 then
      ob1 (gI h a0 10 6) fun v14 =>
      if (1 : Int32) = (0 : Int32) then
        ob1 (pV h a0 10 6 (.int (v14 + (0 : Int32)))) fun g16 =>
        some ((1 : Int32), g16)
      else
        ob1 (pV h a0 10 6 (.int (v14 + (1 : Int32)))) fun g18 =>
        some ((1 : Int32), g18)
    else
      j3 h
  else
    j3 h
set_option maxHeartbeats 4000000 in
set_option maxRecDepth 100000 in
theorem mX10_goesOn (l : Launch) {G : GG} {b0 : Nat} {h : AH} {a0 : Nat} {x1 : Int32} {rr : Int32} {hh : AH} (ht : isO h a0 10) (hf : fX10_goesOn a0 x1 h = some (rr, hh)) : MM l yX10_goesOn cX10_goesOn 3 (some .boolean) rmX10_goesOn G b0 h [.ref a0, .int x1] (some (.int rr)) hh := by
  refine MM.of (own := RX10) (lv0 := [(0, .ref a0), (1, .int x1)]) (by decide) rfl (Nat.le_of_ble_eq_true rfl) rfl ?_
  intro p e s m args below meth c K hnm
  unfold fX10_goesOn at hf
  refine r_aload_n K 0 dX10_goesOn_0 rfl ?_
  obtain ⟨v1, e2, hf⟩ := ob1_s hf
  refine r_getI (ci := 10) (k := 7) K dX10_goesOn_1 inX10 rfl (by decide) rfl q_913 e2 ?_
  obtain ⟨j3, ej3, hf⟩ := bnd_g hf
  have Jj3 : ∀ (g4 : AH), j3 g4 = some (rr, hh) → WA p l e rmX10_goesOn s m args below meth c (MQ below (QG G b0 h (some (.int rr)) hh) args s (rmX10_goesOn).cells (rmX10_goesOn).slots (AB b0)) G b0 3 h 0 0 g4 19 [(0, .ref a0)] [] := by
    intro g4 hf
    rw [ej3] at hf
    refine r_iconst (v := (0 : Int32)) K dX10_goesOn_19 (by decide) ?_
    refine r_istore_n (lv1 := [(2, .int (0 : Int32)), (0, .ref a0)]) K dX10_goesOn_20 (by decide) rfl ?_
    refine r_aload_n K 1 dX10_goesOn_21 rfl ?_
    refine r_dup K dX10_goesOn_22 rfl ?_
    obtain ⟨v5, e6, hf⟩ := ob1_s hf
    refine r_getI (ci := 10) (k := 6) K dX10_goesOn_23 inX10 rfl (by decide) rfl q_912 e6 ?_
    refine r_iload_n K 0 dX10_goesOn_26 rfl ?_
    refine r_if_eq (tgt := 34) K dX10_goesOn_27 (by decide) (fun c11 => ?_) (fun c11 => ?_)
    · replace hf := ite_t hf c11
      refine r_iconst (v := (0 : Int32)) K dX10_goesOn_34 (by decide) ?_
      refine r_iadd K dX10_goesOn_35 ?_
      obtain ⟨g7, e8, hf⟩ := ob1_s hf
      refine r_putV (ci := 10) (k := 6) (ty0 := tyX10) (ty := tyX10 6) K dX10_goesOn_36 inX10 rfl (by decide) rfl q_912 tyX10_ok nmX10 rfl rfl rfl rfl e8 ?_
      refine r_iload_n K 0 dX10_goesOn_39 rfl ?_
      exact r_zret K dX10_goesOn_40 rfl hf (Nat.le_of_ble_eq_true rfl) (Nat.le_of_ble_eq_true rfl)
    · replace hf := ite_f hf c11
      refine r_iconst (v := (1 : Int32)) K dX10_goesOn_30 (by decide) ?_
      refine r_goto (tgt := 35) K dX10_goesOn_31 (by decide) ?_
      refine r_iadd K dX10_goesOn_35 ?_
      obtain ⟨g9, e10, hf⟩ := ob1_s hf
      refine r_putV (ci := 10) (k := 6) (ty0 := tyX10) (ty := tyX10 6) K dX10_goesOn_36 inX10 rfl (by decide) rfl q_912 tyX10_ok nmX10 rfl rfl rfl rfl e10 ?_
      refine r_iload_n K 0 dX10_goesOn_39 rfl ?_
      exact r_zret K dX10_goesOn_40 rfl hf (Nat.le_of_ble_eq_true rfl) (Nat.le_of_ble_eq_true rfl)
  refine r_if_ne (tgt := 19) K dX10_goesOn_4 (by decide) (fun c22 => ?_) (fun c22 => ?_)
  · replace hf := ite_f hf c22
    refine r_lv [0] rfl ?_
    exact Jj3 h hf
  · replace hf := ite_t hf c22
    refine r_aload_n K 0 dX10_goesOn_7 rfl ?_
    obtain ⟨r12, e13, hf⟩ := ob1_s hf
    refine r_callV (As := []) (rest := []) (st1 := [.int r12]) (cells1 := 0) (slots1 := 0) (b := a0) (ci := 10) K (fun z => mX10_here l z e13) dX10_goesOn_8 rfl (fun z => z _ _ ht) rfl ceX10_here q_1115 q_1117 q_42 q_85 q_1118 ⟨Nat.le_of_ble_eq_true rfl, Nat.le_of_ble_eq_true rfl⟩ (Nat.le_of_ble_eq_true rfl) ⟨Nat.le_of_ble_eq_true rfl, Nat.le_of_ble_eq_true rfl⟩ ?_ rfl rfl rfl rfl
    refine r_iload_n K 1 dX10_goesOn_11 rfl ?_
    refine r_icmp_ne (tgt := 19) K dX10_goesOn_12 (by decide) (fun c21 => ?_) (fun c21 => ?_)
    · replace hf := ite_f hf c21
      refine r_lv [0] rfl ?_
      exact Jj3 h hf
    · replace hf := ite_t hf c21
      refine r_iconst (v := (1 : Int32)) K dX10_goesOn_15 (by decide) ?_
      refine r_goto (tgt := 20) K dX10_goesOn_16 (by decide) ?_
      refine r_istore_n (lv1 := [(2, .int (1 : Int32)), (0, .ref a0), (1, .int x1)]) K dX10_goesOn_20 (by decide) rfl ?_
      refine r_aload_n K 1 dX10_goesOn_21 rfl ?_
      refine r_dup K dX10_goesOn_22 rfl ?_
      obtain ⟨v14, e15, hf⟩ := ob1_s hf
      refine r_getI (ci := 10) (k := 6) K dX10_goesOn_23 inX10 rfl (by decide) rfl q_912 e15 ?_
      refine r_iload_n K 0 dX10_goesOn_26 rfl ?_
      refine r_if_eq (tgt := 34) K dX10_goesOn_27 (by decide) (fun c20 => ?_) (fun c20 => ?_)
      · replace hf := ite_t hf c20
        refine r_iconst (v := (0 : Int32)) K dX10_goesOn_34 (by decide) ?_
        refine r_iadd K dX10_goesOn_35 ?_
        obtain ⟨g16, e17, hf⟩ := ob1_s hf
        refine r_putV (ci := 10) (k := 6) (ty0 := tyX10) (ty := tyX10 6) K dX10_goesOn_36 inX10 rfl (by decide) rfl q_912 tyX10_ok nmX10 rfl rfl rfl rfl e17 ?_
        refine r_iload_n K 0 dX10_goesOn_39 rfl ?_
        exact r_zret K dX10_goesOn_40 rfl hf (Nat.le_of_ble_eq_true rfl) (Nat.le_of_ble_eq_true rfl)
      · replace hf := ite_f hf c20
        refine r_iconst (v := (1 : Int32)) K dX10_goesOn_30 (by decide) ?_
        refine r_goto (tgt := 35) K dX10_goesOn_31 (by decide) ?_
        refine r_iadd K dX10_goesOn_35 ?_
        obtain ⟨g18, e19, hf⟩ := ob1_s hf
        refine r_putV (ci := 10) (k := 6) (ty0 := tyX10) (ty := tyX10 6) K dX10_goesOn_36 inX10 rfl (by decide) rfl q_912 tyX10_ok nmX10 rfl rfl rfl rfl e19 ?_
        refine r_iload_n K 0 dX10_goesOn_39 rfl ?_
        exact r_zret K dX10_goesOn_40 rfl hf (Nat.le_of_ble_eq_true rfl) (Nat.le_of_ble_eq_true rfl)
theorem ceX10_readRoad : CE yX10_readRoad 0 := ⟨by decide, by decide, by decide +kernel⟩
abbrev rmX10_readRoad : Room := { frames := 2, cells := 0, slots := 0, locals := 50 }
def fX10_readRoad (a0 : Nat) (h : AH) : Option AH :=
  ob1 (gI h a0 10 9) fun v1 =>
  bnd ((7 : Int32) * v1) fun y3 =>
  ob1 (fX10_roadMany a0 h) fun r4 =>
  ob1 (gI h a0 10 9) fun v6 =>
  if (r4 + v6) = (12 : Int32) then
    ob1 (pV h a0 10 7 (.int (1 : Int32))) fun g119 =>
    some g119
  else
    ob1 (gR h a0 10 0) fun b8 =>
    ob1 (aL h b8 (0 : Int32)) fun v10 =>
    bnd ((Int64.toInt32 v10) - (1 : Int32)) fun y12 =>
    ob1 (gR h a0 10 8) fun b13 =>
    ob2 (fX10_readNumber a0 (1 : Int32) y12 h) fun r15 g16 =>
    ob1 (sI g16 b13 y3 r15) fun g18 =>
    ob1 (fX10_wants a0 (62 : Int32) g18) fun g20 =>
    ob1 (gR g20 a0 10 8) fun b22 =>
    ob2 (fX10_readNumber a0 (1 : Int32) y12 g20) fun r24 g25 =>
    ob1 (sI g25 b22 (y3 + (1 : Int32)) r24) fun g27 =>
    ob1 (gI g27 a0 10 7) fun v29 =>
    bnd (fun (g32 : AH) =>
      ob1 (fX10_wants a0 (61 : Int32) g32) fun g33 =>
      ob1 (gR g33 a0 10 8) fun b35 =>
      ob2 (fX10_readNumber a0 (6 : Int32) (999999 : Int32) g33) fun r37 g38 =>
      ob1 (sI g38 b35 (y3 + (3 : Int32)) r37) fun g40 =>
      ob1 (gR g40 a0 10 8) fun b42 =>
      ob1 (sI g40 b42 (y3 + (2 : Int32)) (0 : Int32)) fun g44 =>
      ob1 (gR g44 a0 10 8) fun b46 =>
      ob1 (sI g44 b46 (y3 + (4 : Int32)) (0 : Int32)) fun g48 =>
      ob1 (gR g48 a0 10 8) fun b50 =>
      ob1 (sI g48 b50 (y3 + (5 : Int32)) (0 : Int32)) fun g52 =>
      ob1 (gR g52 a0 10 8) fun b54 =>
      ob1 (sI g52 b54 (y3 + (6 : Int32)) (0 : Int32)) fun g56 =>
      ob2 (fX10_goesOn a0 (43 : Int32) g56) fun r58 g59 =>
      bnd (fun (g62 : AH) =>
        ob1 (gI g62 a0 10 9) fun v63 =>
        ob1 (pV g62 a0 10 9 (.int (v63 + (1 : Int32)))) fun g65 =>
        some g65
      ) fun j61 =>
      if r58 = (0 : Int32) then
        j61 g59
      else
        ob1 (gR g59 a0 10 8) fun b67 =>
        ob1 (sI g59 b67 (y3 + (2 : Int32)) (1 : Int32)) fun g69 =>
        ob1 (gR g69 a0 10 8) fun b71 =>
        ob2 (fX10_readNumber a0 (6 : Int32) (999999 : Int32) g69) fun r73 g74 =>
        ob1 (sI g74 b71 (y3 + (4 : Int32)) r73) fun g76 =>
        ob2 (fX10_goesOn a0 (94 : Int32) g76) fun r78 g79 =>
        if r78 = (0 : Int32) then
          j61 g79
        else
          ob1 (gR g79 a0 10 8) fun b81 =>
          ob1 (sI g79 b81 (y3 + (2 : Int32)) (2 : Int32)) fun g83 =>
          ob1 (gR g83 a0 10 8) fun b85 =>
          ob2 (fX10_readNumber a0 (2 : Int32) (36 : Int32) g83) fun r87 g88 =>
          ob1 (sI g88 b85 (y3 + (6 : Int32)) r87) fun g90 =>
          ob1 (fX10_wants a0 (58 : Int32) g90) fun g92 =>
          ob1 (gR g92 a0 10 8) fun b94 =>
          ob2 (fX10_readNumber a0 (6 : Int32) (999999 : Int32) g92) fun r96 g97 =>
          ob1 (sI g97 b94 (y3 + (5 : Int32)) r96) fun g99 =>
          j61 g99
    ) fun j31 =>
    if v29 = (0 : Int32) then
      ob1 (gR g27 a0 10 8) fun b103 =>
      ob1 (aI g27 b103 0 (y3 + (1 : Int32))) fun v105 =>
      ob1 (gR g27 a0 10 8) fun b107 =>
      ob1 (aI g27 b107 0 y3) fun v109 =>
      if v105 = v109 then
        ob1 (pV g27 a0 10 7 (.int (1 : Int32))) fun g111 =>
        ob1 (gI g111 a0 10 6) fun v113 =>
        ob1 (pV g111 a0 10 6 (.int (v113 - (1 : Int32)))) fun g115 =>
        j31 g115
      else
        j31 g27
    else
      j31 g27
set_option maxHeartbeats 4000000 in
set_option maxRecDepth 100000 in
theorem mX10_readRoad (l : Launch) {G : GG} {b0 : Nat} {h : AH} {a0 : Nat} {hh : AH} (ht : isO h a0 10) (hf : fX10_readRoad a0 h = some hh) : MM l yX10_readRoad cX10_readRoad 3 (none) rmX10_readRoad G b0 h [.ref a0] none hh := by
  refine MM.of (own := RX10) (lv0 := [(0, .ref a0)]) (by decide) rfl (Nat.le_of_ble_eq_true rfl) rfl ?_
  intro p e s m args below meth c K hnm
  unfold fX10_readRoad at hf
  refine r_bipush (v := (7 : Int32)) K dX10_readRoad_0 (by decide) ?_
  refine r_aload_n K 0 dX10_readRoad_2 rfl ?_
  obtain ⟨v1, e2, hf⟩ := ob1_s hf
  refine r_getI (ci := 10) (k := 9) K dX10_readRoad_3 inX10 rfl (by decide) rfl q_915 e2 ?_
  refine r_imul K dX10_readRoad_6 ?_
  obtain ⟨y3, ey3, hf⟩ := bnd_g hf
  refine r_nmi ey3 ?_
  refine r_istore_n (lv1 := [(1, .int y3), (0, .ref a0)]) K dX10_readRoad_7 (by decide) rfl ?_
  refine r_aload_n K 1 dX10_readRoad_8 rfl ?_
  obtain ⟨r4, e5, hf⟩ := ob1_s hf
  refine r_callV (As := []) (rest := []) (st1 := [.int r4]) (cells1 := 0) (slots1 := 0) (b := a0) (ci := 10) K (fun z => mX10_roadMany l z e5) dX10_readRoad_9 rfl (fun z => z _ _ ht) rfl ceX10_roadMany q_1028 q_1030 q_33 q_85 q_1031 ⟨Nat.le_of_ble_eq_true rfl, Nat.le_of_ble_eq_true rfl⟩ (Nat.le_of_ble_eq_true rfl) ⟨Nat.le_of_ble_eq_true rfl, Nat.le_of_ble_eq_true rfl⟩ ?_ rfl rfl rfl rfl
  refine r_aload_n K 1 dX10_readRoad_12 rfl ?_
  obtain ⟨v6, e7, hf⟩ := ob1_s hf
  refine r_getI (ci := 10) (k := 9) K dX10_readRoad_13 inX10 rfl (by decide) rfl q_915 e7 ?_
  refine r_iadd K dX10_readRoad_16 ?_
  refine r_bipush (v := (12 : Int32)) K dX10_readRoad_17 (by decide) ?_
  refine r_icmp_ne (tgt := 28) K dX10_readRoad_19 (by decide) (fun c121 => ?_) (fun c121 => ?_)
  · replace hf := ite_f hf c121
    refine r_aload_n K 1 dX10_readRoad_28 rfl ?_
    obtain ⟨b8, e9, hf⟩ := ob1_s hf
    refine r_getR (ci := 10) (k := 0) K dX10_readRoad_29 inX10 rfl (by decide) rfl q_906 e9 ?_
    refine r_iconst (v := (0 : Int32)) K dX10_readRoad_32 (by decide) ?_
    obtain ⟨v10, e11, hf⟩ := ob1_s hf
    refine r_laload K dX10_readRoad_33 e11 ?_
    refine r_l2i K dX10_readRoad_34 ?_
    refine r_iconst (v := (1 : Int32)) K dX10_readRoad_35 (by decide) ?_
    refine r_isub K dX10_readRoad_36 ?_
    obtain ⟨y12, ey12, hf⟩ := bnd_g hf
    refine r_nmi ey12 ?_
    refine r_istore_n (lv1 := [(2, .int y12), (1, .int y3), (0, .ref a0)]) K dX10_readRoad_37 (by decide) rfl ?_
    refine r_aload_n K 2 dX10_readRoad_38 rfl ?_
    obtain ⟨b13, e14, hf⟩ := ob1_s hf
    refine r_getR (ci := 10) (k := 8) K dX10_readRoad_39 inX10 rfl (by decide) rfl q_914 e14 ?_
    refine r_iload_n K 1 dX10_readRoad_42 rfl ?_
    refine r_aload_n K 2 dX10_readRoad_43 rfl ?_
    refine r_iconst (v := (1 : Int32)) K dX10_readRoad_44 (by decide) ?_
    refine r_iload_n K 0 dX10_readRoad_45 rfl ?_
    obtain ⟨r15, g16, e17, hf⟩ := ob2_s hf
    refine r_callV (As := [.int (1 : Int32), .int y12]) (rest := [.int y3, .ref b13]) (st1 := [.int r15, .int y3, .ref b13]) (cells1 := 0) (slots1 := 0) (b := a0) (ci := 10) K (fun z => mX10_readNumber l z e17) dX10_readRoad_46 rfl (fun z => z _ _ ht) rfl ceX10_readNumber q_1111 q_1113 q_41 q_85 q_1114 ⟨Nat.le_of_ble_eq_true rfl, Nat.le_of_ble_eq_true rfl⟩ (Nat.le_of_ble_eq_true rfl) ⟨Nat.le_of_ble_eq_true rfl, Nat.le_of_ble_eq_true rfl⟩ ?_ rfl rfl rfl rfl
    obtain ⟨g18, e19, hf⟩ := ob1_s hf
    refine r_iastore K dX10_readRoad_49 e19 ?_
    refine r_aload_n K 2 dX10_readRoad_50 rfl ?_
    refine r_bipush (v := (62 : Int32)) K dX10_readRoad_51 (by decide) ?_
    obtain ⟨g20, e21, hf⟩ := ob1_s hf
    refine r_callV (As := [.int (62 : Int32)]) (rest := []) (st1 := []) (cells1 := 0) (slots1 := 0) (b := a0) (ci := 10) K (fun z => mX10_wants l z e21) dX10_readRoad_53 rfl (fun z => z _ _ ht) rfl ceX10_wants q_1121 q_1123 q_43 q_85 q_1124 ⟨Nat.le_of_ble_eq_true rfl, Nat.le_of_ble_eq_true rfl⟩ (Nat.le_of_ble_eq_true rfl) ⟨Nat.le_of_ble_eq_true rfl, Nat.le_of_ble_eq_true rfl⟩ ?_ rfl rfl rfl rfl
    refine r_aload_n K 2 dX10_readRoad_56 rfl ?_
    obtain ⟨b22, e23, hf⟩ := ob1_s hf
    refine r_getR (ci := 10) (k := 8) K dX10_readRoad_57 inX10 rfl (by decide) rfl q_914 e23 ?_
    refine r_iload_n K 1 dX10_readRoad_60 rfl ?_
    refine r_iconst (v := (1 : Int32)) K dX10_readRoad_61 (by decide) ?_
    refine r_iadd K dX10_readRoad_62 ?_
    refine r_aload_n K 2 dX10_readRoad_63 rfl ?_
    refine r_iconst (v := (1 : Int32)) K dX10_readRoad_64 (by decide) ?_
    refine r_iload_n K 0 dX10_readRoad_65 rfl ?_
    obtain ⟨r24, g25, e26, hf⟩ := ob2_s hf
    refine r_callV (As := [.int (1 : Int32), .int y12]) (rest := [.int (y3 + (1 : Int32)), .ref b22]) (st1 := [.int r24, .int (y3 + (1 : Int32)), .ref b22]) (cells1 := 0) (slots1 := 0) (b := a0) (ci := 10) K (fun z => mX10_readNumber l z e26) dX10_readRoad_66 rfl (fun z => z _ _ ht) rfl ceX10_readNumber q_1111 q_1113 q_41 q_85 q_1114 ⟨Nat.le_of_ble_eq_true rfl, Nat.le_of_ble_eq_true rfl⟩ (Nat.le_of_ble_eq_true rfl) ⟨Nat.le_of_ble_eq_true rfl, Nat.le_of_ble_eq_true rfl⟩ ?_ rfl rfl rfl rfl
    obtain ⟨g27, e28, hf⟩ := ob1_s hf
    refine r_iastore K dX10_readRoad_69 e28 ?_
    refine r_aload_n K 2 dX10_readRoad_70 rfl ?_
    obtain ⟨v29, e30, hf⟩ := ob1_s hf
    refine r_getI (ci := 10) (k := 7) K dX10_readRoad_71 inX10 rfl (by decide) rfl q_913 e30 ?_
    obtain ⟨j31, ej31, hf⟩ := bnd_g hf
    have Jj31 : ∀ (g32 : AH), j31 g32 = some hh → WA p l e rmX10_readRoad s m args below meth c (MQ below (QG G b0 h none hh) args s (rmX10_readRoad).cells (rmX10_readRoad).slots (AB b0)) G b0 3 h 0 0 g32 109 [(0, .ref a0), (1, .int y3)] [] := by
      intro g32 hf
      rw [ej31] at hf
      refine r_aload_n K 0 dX10_readRoad_109 rfl ?_
      refine r_bipush (v := (61 : Int32)) K dX10_readRoad_110 (by decide) ?_
      obtain ⟨g33, e34, hf⟩ := ob1_s hf
      refine r_callV (As := [.int (61 : Int32)]) (rest := []) (st1 := []) (cells1 := 0) (slots1 := 0) (b := a0) (ci := 10) K (fun z => mX10_wants l z e34) dX10_readRoad_112 rfl (fun z => z _ _ ht) rfl ceX10_wants q_1121 q_1123 q_43 q_85 q_1124 ⟨Nat.le_of_ble_eq_true rfl, Nat.le_of_ble_eq_true rfl⟩ (Nat.le_of_ble_eq_true rfl) ⟨Nat.le_of_ble_eq_true rfl, Nat.le_of_ble_eq_true rfl⟩ ?_ rfl rfl rfl rfl
      refine r_aload_n K 0 dX10_readRoad_115 rfl ?_
      obtain ⟨b35, e36, hf⟩ := ob1_s hf
      refine r_getR (ci := 10) (k := 8) K dX10_readRoad_116 inX10 rfl (by decide) rfl q_914 e36 ?_
      refine r_iload_n K 1 dX10_readRoad_119 rfl ?_
      refine r_iconst (v := (3 : Int32)) K dX10_readRoad_120 (by decide) ?_
      refine r_iadd K dX10_readRoad_121 ?_
      refine r_aload_n K 0 dX10_readRoad_122 rfl ?_
      refine r_bipush (v := (6 : Int32)) K dX10_readRoad_123 (by decide) ?_
      refine r_ldc K dX10_readRoad_125 q_1125 ?_
      obtain ⟨r37, g38, e39, hf⟩ := ob2_s hf
      refine r_callV (As := [.int (6 : Int32), .int (999999 : Int32)]) (rest := [.int (y3 + (3 : Int32)), .ref b35]) (st1 := [.int r37, .int (y3 + (3 : Int32)), .ref b35]) (cells1 := 0) (slots1 := 0) (b := a0) (ci := 10) K (fun z => mX10_readNumber l z e39) dX10_readRoad_127 rfl (fun z => z _ _ ht) rfl ceX10_readNumber q_1111 q_1113 q_41 q_85 q_1114 ⟨Nat.le_of_ble_eq_true rfl, Nat.le_of_ble_eq_true rfl⟩ (Nat.le_of_ble_eq_true rfl) ⟨Nat.le_of_ble_eq_true rfl, Nat.le_of_ble_eq_true rfl⟩ ?_ rfl rfl rfl rfl
      obtain ⟨g40, e41, hf⟩ := ob1_s hf
      refine r_iastore K dX10_readRoad_130 e41 ?_
      refine r_aload_n K 0 dX10_readRoad_131 rfl ?_
      obtain ⟨b42, e43, hf⟩ := ob1_s hf
      refine r_getR (ci := 10) (k := 8) K dX10_readRoad_132 inX10 rfl (by decide) rfl q_914 e43 ?_
      refine r_iload_n K 1 dX10_readRoad_135 rfl ?_
      refine r_iconst (v := (2 : Int32)) K dX10_readRoad_136 (by decide) ?_
      refine r_iadd K dX10_readRoad_137 ?_
      refine r_iconst (v := (0 : Int32)) K dX10_readRoad_138 (by decide) ?_
      obtain ⟨g44, e45, hf⟩ := ob1_s hf
      refine r_iastore K dX10_readRoad_139 e45 ?_
      refine r_aload_n K 0 dX10_readRoad_140 rfl ?_
      obtain ⟨b46, e47, hf⟩ := ob1_s hf
      refine r_getR (ci := 10) (k := 8) K dX10_readRoad_141 inX10 rfl (by decide) rfl q_914 e47 ?_
      refine r_iload_n K 1 dX10_readRoad_144 rfl ?_
      refine r_iconst (v := (4 : Int32)) K dX10_readRoad_145 (by decide) ?_
      refine r_iadd K dX10_readRoad_146 ?_
      refine r_iconst (v := (0 : Int32)) K dX10_readRoad_147 (by decide) ?_
      obtain ⟨g48, e49, hf⟩ := ob1_s hf
      refine r_iastore K dX10_readRoad_148 e49 ?_
      refine r_aload_n K 0 dX10_readRoad_149 rfl ?_
      obtain ⟨b50, e51, hf⟩ := ob1_s hf
      refine r_getR (ci := 10) (k := 8) K dX10_readRoad_150 inX10 rfl (by decide) rfl q_914 e51 ?_
      refine r_iload_n K 1 dX10_readRoad_153 rfl ?_
      refine r_iconst (v := (5 : Int32)) K dX10_readRoad_154 (by decide) ?_
      refine r_iadd K dX10_readRoad_155 ?_
      refine r_iconst (v := (0 : Int32)) K dX10_readRoad_156 (by decide) ?_
      obtain ⟨g52, e53, hf⟩ := ob1_s hf
      refine r_iastore K dX10_readRoad_157 e53 ?_
      refine r_aload_n K 0 dX10_readRoad_158 rfl ?_
      obtain ⟨b54, e55, hf⟩ := ob1_s hf
      refine r_getR (ci := 10) (k := 8) K dX10_readRoad_159 inX10 rfl (by decide) rfl q_914 e55 ?_
      refine r_iload_n K 1 dX10_readRoad_162 rfl ?_
      refine r_bipush (v := (6 : Int32)) K dX10_readRoad_163 (by decide) ?_
      refine r_iadd K dX10_readRoad_165 ?_
      refine r_iconst (v := (0 : Int32)) K dX10_readRoad_166 (by decide) ?_
      obtain ⟨g56, e57, hf⟩ := ob1_s hf
      refine r_iastore K dX10_readRoad_167 e57 ?_
      refine r_aload_n K 0 dX10_readRoad_168 rfl ?_
      refine r_bipush (v := (43 : Int32)) K dX10_readRoad_169 (by decide) ?_
      obtain ⟨r58, g59, e60, hf⟩ := ob2_s hf
      refine r_callV (As := [.int (43 : Int32)]) (rest := []) (st1 := [.int r58]) (cells1 := 0) (slots1 := 0) (b := a0) (ci := 10) K (fun z => mX10_goesOn l z e60) dX10_readRoad_171 rfl (fun z => z _ _ ht) rfl ceX10_goesOn q_1126 q_1128 q_44 q_85 q_1129 ⟨Nat.le_of_ble_eq_true rfl, Nat.le_of_ble_eq_true rfl⟩ (Nat.le_of_ble_eq_true rfl) ⟨Nat.le_of_ble_eq_true rfl, Nat.le_of_ble_eq_true rfl⟩ ?_ rfl rfl rfl rfl
      obtain ⟨j61, ej61, hf⟩ := bnd_g hf
      have Jj61 : ∀ (g62 : AH), j61 g62 = some hh → WA p l e rmX10_readRoad s m args below meth c (MQ below (QG G b0 h none hh) args s (rmX10_readRoad).cells (rmX10_readRoad).slots (AB b0)) G b0 3 h 0 0 g62 258 [(0, .ref a0)] [] := by
        intro g62 hf
        rw [ej61] at hf
        refine r_aload_n K 0 dX10_readRoad_258 rfl ?_
        refine r_dup K dX10_readRoad_259 rfl ?_
        obtain ⟨v63, e64, hf⟩ := ob1_s hf
        refine r_getI (ci := 10) (k := 9) K dX10_readRoad_260 inX10 rfl (by decide) rfl q_915 e64 ?_
        refine r_iconst (v := (1 : Int32)) K dX10_readRoad_263 (by decide) ?_
        refine r_iadd K dX10_readRoad_264 ?_
        obtain ⟨g65, e66, hf⟩ := ob1_s hf
        refine r_putV (ci := 10) (k := 9) (ty0 := tyX10) (ty := tyX10 9) K dX10_readRoad_265 inX10 rfl (by decide) rfl q_915 tyX10_ok nmX10 rfl rfl rfl rfl e66 ?_
        exact r_vret K dX10_readRoad_268 hf (Nat.le_of_ble_eq_true rfl) (Nat.le_of_ble_eq_true rfl)
      refine r_if_eq (tgt := 258) K dX10_readRoad_174 (by decide) (fun c102 => ?_) (fun c102 => ?_)
      · replace hf := ite_t hf c102
        refine r_lv [0] rfl ?_
        exact Jj61 g59 hf
      · replace hf := ite_f hf c102
        refine r_aload_n K 0 dX10_readRoad_177 rfl ?_
        obtain ⟨b67, e68, hf⟩ := ob1_s hf
        refine r_getR (ci := 10) (k := 8) K dX10_readRoad_178 inX10 rfl (by decide) rfl q_914 e68 ?_
        refine r_iload_n K 1 dX10_readRoad_181 rfl ?_
        refine r_iconst (v := (2 : Int32)) K dX10_readRoad_182 (by decide) ?_
        refine r_iadd K dX10_readRoad_183 ?_
        refine r_iconst (v := (1 : Int32)) K dX10_readRoad_184 (by decide) ?_
        obtain ⟨g69, e70, hf⟩ := ob1_s hf
        refine r_iastore K dX10_readRoad_185 e70 ?_
        refine r_aload_n K 0 dX10_readRoad_186 rfl ?_
        obtain ⟨b71, e72, hf⟩ := ob1_s hf
        refine r_getR (ci := 10) (k := 8) K dX10_readRoad_187 inX10 rfl (by decide) rfl q_914 e72 ?_
        refine r_iload_n K 1 dX10_readRoad_190 rfl ?_
        refine r_iconst (v := (4 : Int32)) K dX10_readRoad_191 (by decide) ?_
        refine r_iadd K dX10_readRoad_192 ?_
        refine r_aload_n K 0 dX10_readRoad_193 rfl ?_
        refine r_bipush (v := (6 : Int32)) K dX10_readRoad_194 (by decide) ?_
        refine r_ldc K dX10_readRoad_196 q_1125 ?_
        obtain ⟨r73, g74, e75, hf⟩ := ob2_s hf
        refine r_callV (As := [.int (6 : Int32), .int (999999 : Int32)]) (rest := [.int (y3 + (4 : Int32)), .ref b71]) (st1 := [.int r73, .int (y3 + (4 : Int32)), .ref b71]) (cells1 := 0) (slots1 := 0) (b := a0) (ci := 10) K (fun z => mX10_readNumber l z e75) dX10_readRoad_198 rfl (fun z => z _ _ ht) rfl ceX10_readNumber q_1111 q_1113 q_41 q_85 q_1114 ⟨Nat.le_of_ble_eq_true rfl, Nat.le_of_ble_eq_true rfl⟩ (Nat.le_of_ble_eq_true rfl) ⟨Nat.le_of_ble_eq_true rfl, Nat.le_of_ble_eq_true rfl⟩ ?_ rfl rfl rfl rfl
        obtain ⟨g76, e77, hf⟩ := ob1_s hf
        refine r_iastore K dX10_readRoad_201 e77 ?_
        refine r_aload_n K 0 dX10_readRoad_202 rfl ?_
        refine r_bipush (v := (94 : Int32)) K dX10_readRoad_203 (by decide) ?_
        obtain ⟨r78, g79, e80, hf⟩ := ob2_s hf
        refine r_callV (As := [.int (94 : Int32)]) (rest := []) (st1 := [.int r78]) (cells1 := 0) (slots1 := 0) (b := a0) (ci := 10) K (fun z => mX10_goesOn l z e80) dX10_readRoad_205 rfl (fun z => z _ _ ht) rfl ceX10_goesOn q_1126 q_1128 q_44 q_85 q_1129 ⟨Nat.le_of_ble_eq_true rfl, Nat.le_of_ble_eq_true rfl⟩ (Nat.le_of_ble_eq_true rfl) ⟨Nat.le_of_ble_eq_true rfl, Nat.le_of_ble_eq_true rfl⟩ ?_ rfl rfl rfl rfl
        refine r_if_eq (tgt := 258) K dX10_readRoad_208 (by decide) (fun c101 => ?_) (fun c101 => ?_)
        · replace hf := ite_t hf c101
          refine r_lv [0] rfl ?_
          exact Jj61 g79 hf
        · replace hf := ite_f hf c101
          refine r_aload_n K 0 dX10_readRoad_211 rfl ?_
          obtain ⟨b81, e82, hf⟩ := ob1_s hf
          refine r_getR (ci := 10) (k := 8) K dX10_readRoad_212 inX10 rfl (by decide) rfl q_914 e82 ?_
          refine r_iload_n K 1 dX10_readRoad_215 rfl ?_
          refine r_iconst (v := (2 : Int32)) K dX10_readRoad_216 (by decide) ?_
          refine r_iadd K dX10_readRoad_217 ?_
          refine r_iconst (v := (2 : Int32)) K dX10_readRoad_218 (by decide) ?_
          obtain ⟨g83, e84, hf⟩ := ob1_s hf
          refine r_iastore K dX10_readRoad_219 e84 ?_
          refine r_aload_n K 0 dX10_readRoad_220 rfl ?_
          obtain ⟨b85, e86, hf⟩ := ob1_s hf
          refine r_getR (ci := 10) (k := 8) K dX10_readRoad_221 inX10 rfl (by decide) rfl q_914 e86 ?_
          refine r_iload_n K 1 dX10_readRoad_224 rfl ?_
          refine r_bipush (v := (6 : Int32)) K dX10_readRoad_225 (by decide) ?_
          refine r_iadd K dX10_readRoad_227 ?_
          refine r_aload_n K 0 dX10_readRoad_228 rfl ?_
          refine r_iconst (v := (2 : Int32)) K dX10_readRoad_229 (by decide) ?_
          refine r_bipush (v := (36 : Int32)) K dX10_readRoad_230 (by decide) ?_
          obtain ⟨r87, g88, e89, hf⟩ := ob2_s hf
          refine r_callV (As := [.int (2 : Int32), .int (36 : Int32)]) (rest := [.int (y3 + (6 : Int32)), .ref b85]) (st1 := [.int r87, .int (y3 + (6 : Int32)), .ref b85]) (cells1 := 0) (slots1 := 0) (b := a0) (ci := 10) K (fun z => mX10_readNumber l z e89) dX10_readRoad_232 rfl (fun z => z _ _ ht) rfl ceX10_readNumber q_1111 q_1113 q_41 q_85 q_1114 ⟨Nat.le_of_ble_eq_true rfl, Nat.le_of_ble_eq_true rfl⟩ (Nat.le_of_ble_eq_true rfl) ⟨Nat.le_of_ble_eq_true rfl, Nat.le_of_ble_eq_true rfl⟩ ?_ rfl rfl rfl rfl
          obtain ⟨g90, e91, hf⟩ := ob1_s hf
          refine r_iastore K dX10_readRoad_235 e91 ?_
          refine r_aload_n K 0 dX10_readRoad_236 rfl ?_
          refine r_bipush (v := (58 : Int32)) K dX10_readRoad_237 (by decide) ?_
          obtain ⟨g92, e93, hf⟩ := ob1_s hf
          refine r_callV (As := [.int (58 : Int32)]) (rest := []) (st1 := []) (cells1 := 0) (slots1 := 0) (b := a0) (ci := 10) K (fun z => mX10_wants l z e93) dX10_readRoad_239 rfl (fun z => z _ _ ht) rfl ceX10_wants q_1121 q_1123 q_43 q_85 q_1124 ⟨Nat.le_of_ble_eq_true rfl, Nat.le_of_ble_eq_true rfl⟩ (Nat.le_of_ble_eq_true rfl) ⟨Nat.le_of_ble_eq_true rfl, Nat.le_of_ble_eq_true rfl⟩ ?_ rfl rfl rfl rfl
          refine r_aload_n K 0 dX10_readRoad_242 rfl ?_
          obtain ⟨b94, e95, hf⟩ := ob1_s hf
          refine r_getR (ci := 10) (k := 8) K dX10_readRoad_243 inX10 rfl (by decide) rfl q_914 e95 ?_
          refine r_iload_n K 1 dX10_readRoad_246 rfl ?_
          refine r_iconst (v := (5 : Int32)) K dX10_readRoad_247 (by decide) ?_
          refine r_iadd K dX10_readRoad_248 ?_
          refine r_aload_n K 0 dX10_readRoad_249 rfl ?_
          refine r_bipush (v := (6 : Int32)) K dX10_readRoad_250 (by decide) ?_
          refine r_ldc K dX10_readRoad_252 q_1125 ?_
          obtain ⟨r96, g97, e98, hf⟩ := ob2_s hf
          refine r_callV (As := [.int (6 : Int32), .int (999999 : Int32)]) (rest := [.int (y3 + (5 : Int32)), .ref b94]) (st1 := [.int r96, .int (y3 + (5 : Int32)), .ref b94]) (cells1 := 0) (slots1 := 0) (b := a0) (ci := 10) K (fun z => mX10_readNumber l z e98) dX10_readRoad_254 rfl (fun z => z _ _ ht) rfl ceX10_readNumber q_1111 q_1113 q_41 q_85 q_1114 ⟨Nat.le_of_ble_eq_true rfl, Nat.le_of_ble_eq_true rfl⟩ (Nat.le_of_ble_eq_true rfl) ⟨Nat.le_of_ble_eq_true rfl, Nat.le_of_ble_eq_true rfl⟩ ?_ rfl rfl rfl rfl
          obtain ⟨g99, e100, hf⟩ := ob1_s hf
          refine r_iastore K dX10_readRoad_257 e100 ?_
          refine r_lv [0] rfl ?_
          exact Jj61 g99 hf
    refine r_if_ne (tgt := 109) K dX10_readRoad_74 (by decide) (fun c118 => ?_) (fun c118 => ?_)
    · replace hf := ite_f hf c118
      refine r_lv [2, 1] rfl ?_
      exact Jj31 g27 hf
    · replace hf := ite_t hf c118
      refine r_aload_n K 2 dX10_readRoad_77 rfl ?_
      obtain ⟨b103, e104, hf⟩ := ob1_s hf
      refine r_getR (ci := 10) (k := 8) K dX10_readRoad_78 inX10 rfl (by decide) rfl q_914 e104 ?_
      refine r_iload_n K 1 dX10_readRoad_81 rfl ?_
      refine r_iconst (v := (1 : Int32)) K dX10_readRoad_82 (by decide) ?_
      refine r_iadd K dX10_readRoad_83 ?_
      obtain ⟨v105, e106, hf⟩ := ob1_s hf
      refine r_iaload K dX10_readRoad_84 e106 ?_
      refine r_aload_n K 2 dX10_readRoad_85 rfl ?_
      obtain ⟨b107, e108, hf⟩ := ob1_s hf
      refine r_getR (ci := 10) (k := 8) K dX10_readRoad_86 inX10 rfl (by decide) rfl q_914 e108 ?_
      refine r_iload_n K 1 dX10_readRoad_89 rfl ?_
      obtain ⟨v109, e110, hf⟩ := ob1_s hf
      refine r_iaload K dX10_readRoad_90 e110 ?_
      refine r_icmp_ne (tgt := 109) K dX10_readRoad_91 (by decide) (fun c117 => ?_) (fun c117 => ?_)
      · replace hf := ite_f hf c117
        refine r_lv [2, 1] rfl ?_
        exact Jj31 g27 hf
      · replace hf := ite_t hf c117
        refine r_aload_n K 2 dX10_readRoad_94 rfl ?_
        refine r_iconst (v := (1 : Int32)) K dX10_readRoad_95 (by decide) ?_
        obtain ⟨g111, e112, hf⟩ := ob1_s hf
        refine r_putV (ci := 10) (k := 7) (ty0 := tyX10) (ty := tyX10 7) K dX10_readRoad_96 inX10 rfl (by decide) rfl q_913 tyX10_ok nmX10 rfl rfl rfl rfl e112 ?_
        refine r_aload_n K 2 dX10_readRoad_99 rfl ?_
        refine r_dup K dX10_readRoad_100 rfl ?_
        obtain ⟨v113, e114, hf⟩ := ob1_s hf
        refine r_getI (ci := 10) (k := 6) K dX10_readRoad_101 inX10 rfl (by decide) rfl q_912 e114 ?_
        refine r_iconst (v := (1 : Int32)) K dX10_readRoad_104 (by decide) ?_
        refine r_isub K dX10_readRoad_105 ?_
        obtain ⟨g115, e116, hf⟩ := ob1_s hf
        refine r_putV (ci := 10) (k := 6) (ty0 := tyX10) (ty := tyX10 6) K dX10_readRoad_106 inX10 rfl (by decide) rfl q_912 tyX10_ok nmX10 rfl rfl rfl rfl e116 ?_
        refine r_lv [2, 1] rfl ?_
        exact Jj31 g115 hf
  · replace hf := ite_t hf c121
    refine r_aload_n K 1 dX10_readRoad_22 rfl ?_
    refine r_iconst (v := (1 : Int32)) K dX10_readRoad_23 (by decide) ?_
    obtain ⟨g119, e120, hf⟩ := ob1_s hf
    refine r_putV (ci := 10) (k := 7) (ty0 := tyX10) (ty := tyX10 7) K dX10_readRoad_24 inX10 rfl (by decide) rfl q_913 tyX10_ok nmX10 rfl rfl rfl rfl e120 ?_
    exact r_vret K dX10_readRoad_27 hf (Nat.le_of_ble_eq_true rfl) (Nat.le_of_ble_eq_true rfl)
theorem ceX10_roads : CE yX10_roads 0 := ⟨by decide, by decide, by decide +kernel⟩
abbrev rmX10_roads : Room := { frames := 3, cells := 0, slots := 0, locals := 72 }
def fX10_roads_L19 (a0 : Nat) (k : AH → Option (Int32 × AH)) : Nat → AH → Option (Int32 × AH)
  | 0, _ => none
  | n + 1, h =>
    ob2 (fX10_goesOn a0 (59 : Int32) h) fun r9 g10 =>
    if r9 = (0 : Int32) then
      k g10
    else
      ob1 (fX10_readRoad a0 g10) fun g12 =>
      fX10_roads_L19 a0 k n g12
def fX10_roads_L84 (a0 : Nat) (k : AH → Option (Int32 × AH)) : Nat → Int32 → AH → Option (Int32 × AH)
  | 0, _, _ => none
  | n + 1, x1, h =>
    ob1 (gI h a0 10 9) fun v26 =>
    if ((7 : Int32) * v26) ≤ x1 then
      k h
    else
      ob1 (gR h a0 10 8) fun b28 =>
      ob1 (aI h b28 0 x1) fun v30 =>
      ob1 (gR h a0 10 8) fun b32 =>
      ob1 (aI h b32 0 (x1 + (1 : Int32))) fun v34 =>
      ob1 (gR h a0 10 8) fun b36 =>
      ob1 (aI h b36 0 (x1 + (2 : Int32))) fun v38 =>
      ob1 (gR h a0 10 8) fun b40 =>
      ob1 (aI h b40 0 (x1 + (3 : Int32))) fun v42 =>
      ob1 (gR h a0 10 8) fun b44 =>
      ob1 (aI h b44 0 (x1 + (4 : Int32))) fun v46 =>
      ob1 (gR h a0 10 8) fun b48 =>
      ob1 (aI h b48 0 (x1 + (5 : Int32))) fun v50 =>
      ob1 (gR h a0 10 8) fun b52 =>
      ob1 (aI h b52 0 (x1 + (6 : Int32))) fun v54 =>
      ob1 (fX10_puts a0 v30 v34 v38 (Int32.toInt64 v42) (Int32.toInt64 v46) (Int32.toInt64 v50) v54 h) fun g56 =>
      bnd (x1 + (7 : Int32)) fun y58 =>
      fX10_roads_L84 a0 k n y58 g56
def fX10_roads (a0 : Nat) (h : AH) : Option (Int32 × AH) :=
  ob1 (pV h a0 10 6 (.int (0 : Int32))) fun g1 =>
  ob1 (pV g1 a0 10 7 (.int (0 : Int32))) fun g3 =>
  ob1 (pV g3 a0 10 9 (.int (0 : Int32))) fun g5 =>
  ob1 (fX10_readRoad a0 g5) fun g7 =>
  fX10_roads_L19 a0 (fun (g15 : AH) =>
    ob1 (gI g15 a0 10 7) fun v16 =>
    bnd (fun (g19 : AH) =>
      ob1 (pV g19 a0 10 7 (.int (1 : Int32))) fun g20 =>
      ob1 (pV g20 a0 10 5 (.int (0 : Int32))) fun g22 =>
      ob1 (gI g22 a0 10 7) fun v24 =>
      if v24 = (0 : Int32) then
        fX10_roads_L84 a0 (fun (g60 : AH) =>
          ob1 (gI g60 a0 10 9) fun v61 =>
          some (v61, g60)
        ) lf (0 : Int32) g22
      else
        ob1 (gI g22 a0 10 6) fun v63 =>
        some ((-100 : Int32) - v63, g22)
    ) fun j18 =>
    if v16 = (0 : Int32) then
      ob1 (gI g15 a0 10 6) fun v66 =>
      ob1 (gI g15 a0 10 5) fun v68 =>
      if v68 ≤ v66 then
        ob1 (pV g15 a0 10 7 (.int (0 : Int32))) fun g70 =>
        ob1 (pV g70 a0 10 5 (.int (0 : Int32))) fun g72 =>
        ob1 (gI g72 a0 10 7) fun v74 =>
        if v74 = (0 : Int32) then
          fX10_roads_L84 a0 (fun (g76 : AH) =>
            ob1 (gI g76 a0 10 9) fun v77 =>
            some (v77, g76)
          ) lf (0 : Int32) g72
        else
          ob1 (gI g72 a0 10 6) fun v79 =>
          some ((-100 : Int32) - v79, g72)
      else
        j18 g15
    else
      j18 g15
  ) lf g7
set_option maxHeartbeats 4000000 in
set_option maxRecDepth 100000 in
theorem wX10_roads_L19 {p : Program} {l : Launch} {e : Env} {s : State} {m : MethodId} {args : Array Value} {below : List Frame} {meth : Method} {c : Code} {G : GG} {b0 : Nat} {h0 : AH} {a0 : Nat} {rr : Int32} {hh : AH} (K : CX p s m args meth c cX10_roads 2 RX10 (some .int) G b0) (ht : isO h0 a0 10) (k : AH → Option (Int32 × AH)) (hk : ∀ (h : AH), k h = some (rr, hh) → WA p l e rmX10_roads s m args below meth c (MQ below (QG G b0 h0 (some (.int rr)) hh) args s (rmX10_roads).cells (rmX10_roads).slots (AB b0)) G b0 2 h0 0 0 h 35 [(0, .ref a0)] []) : ∀ (n : Nat) (h : AH), fX10_roads_L19 a0 k n h = some (rr, hh) → WA p l e rmX10_roads s m args below meth c (MQ below (QG G b0 h0 (some (.int rr)) hh) args s (rmX10_roads).cells (rmX10_roads).slots (AB b0)) G b0 2 h0 0 0 h 19 [(0, .ref a0)] [] := by
  intro n
  induction n with
  | zero =>
    intro h hf
    rw [fX10_roads_L19] at hf
    cases hf
  | succ n ih =>
    intro h hf
    rw [fX10_roads_L19] at hf
    refine r_aload_n K 0 dX10_roads_19 rfl ?_
    refine r_bipush (v := (59 : Int32)) K dX10_roads_20 (by decide) ?_
    obtain ⟨r9, g10, e11, hf⟩ := ob2_s hf
    refine r_callV (As := [.int (59 : Int32)]) (rest := []) (st1 := [.int r9]) (cells1 := 0) (slots1 := 0) (b := a0) (ci := 10) K (fun z => mX10_goesOn l z e11) dX10_roads_22 rfl (fun z => z _ _ ht) rfl ceX10_goesOn q_1126 q_1128 q_44 q_85 q_1129 ⟨Nat.le_of_ble_eq_true rfl, Nat.le_of_ble_eq_true rfl⟩ (Nat.le_of_ble_eq_true rfl) ⟨Nat.le_of_ble_eq_true rfl, Nat.le_of_ble_eq_true rfl⟩ ?_ rfl rfl rfl rfl
    refine r_if_eq (tgt := 35) K dX10_roads_25 (by decide) (fun c14 => ?_) (fun c14 => ?_)
    · replace hf := ite_t hf c14
      exact hk g10 hf
    · replace hf := ite_f hf c14
      refine r_aload_n K 0 dX10_roads_28 rfl ?_
      obtain ⟨g12, e13, hf⟩ := ob1_s hf
      refine r_callV (As := []) (rest := []) (st1 := []) (cells1 := 0) (slots1 := 0) (b := a0) (ci := 10) K (fun z => mX10_readRoad l z e13) dX10_roads_29 rfl (fun z => z _ _ ht) rfl ceX10_readRoad q_1107 q_1109 q_40 q_85 q_1110 ⟨Nat.le_of_ble_eq_true rfl, Nat.le_of_ble_eq_true rfl⟩ (Nat.le_of_ble_eq_true rfl) ⟨Nat.le_of_ble_eq_true rfl, Nat.le_of_ble_eq_true rfl⟩ ?_ rfl rfl rfl rfl
      refine r_goto (tgt := 19) K dX10_roads_32 (by decide) ?_
      exact ih g12 hf
set_option maxHeartbeats 4000000 in
set_option maxRecDepth 100000 in
theorem wX10_roads_L84 {p : Program} {l : Launch} {e : Env} {s : State} {m : MethodId} {args : Array Value} {below : List Frame} {meth : Method} {c : Code} {G : GG} {b0 : Nat} {h0 : AH} {a0 : Nat} {rr : Int32} {hh : AH} (K : CX p s m args meth c cX10_roads 2 RX10 (some .int) G b0) (ht : isO h0 a0 10) (k : AH → Option (Int32 × AH)) (hk : ∀ (h : AH), k h = some (rr, hh) → WA p l e rmX10_roads s m args below meth c (MQ below (QG G b0 h0 (some (.int rr)) hh) args s (rmX10_roads).cells (rmX10_roads).slots (AB b0)) G b0 2 h0 0 0 h 163 [(0, .ref a0)] []) : ∀ (n : Nat) (x1 : Int32) (h : AH), fX10_roads_L84 a0 k n x1 h = some (rr, hh) → WA p l e rmX10_roads s m args below meth c (MQ below (QG G b0 h0 (some (.int rr)) hh) args s (rmX10_roads).cells (rmX10_roads).slots (AB b0)) G b0 2 h0 0 0 h 84 [(0, .ref a0), (1, .int x1)] [] := by
  intro n
  induction n with
  | zero =>
    intro x1 h hf
    rw [fX10_roads_L84] at hf
    cases hf
  | succ n ih =>
    intro x1 h hf
    rw [fX10_roads_L84] at hf
    refine r_iload_n K 1 dX10_roads_84 rfl ?_
    refine r_bipush (v := (7 : Int32)) K dX10_roads_85 (by decide) ?_
    refine r_aload_n K 0 dX10_roads_87 rfl ?_
    obtain ⟨v26, e27, hf⟩ := ob1_s hf
    refine r_getI (ci := 10) (k := 9) K dX10_roads_88 inX10 rfl (by decide) rfl q_915 e27 ?_
    refine r_imul K dX10_roads_91 ?_
    refine r_icmp_ge (tgt := 163) K dX10_roads_92 (by decide) (fun c59 => ?_) (fun c59 => ?_)
    · replace hf := ite_t hf c59
      refine r_lv [0] rfl ?_
      exact hk h hf
    · replace hf := ite_f hf c59
      refine r_aload_n K 0 dX10_roads_95 rfl ?_
      refine r_aload_n K 0 dX10_roads_96 rfl ?_
      obtain ⟨b28, e29, hf⟩ := ob1_s hf
      refine r_getR (ci := 10) (k := 8) K dX10_roads_97 inX10 rfl (by decide) rfl q_914 e29 ?_
      refine r_iload_n K 1 dX10_roads_100 rfl ?_
      obtain ⟨v30, e31, hf⟩ := ob1_s hf
      refine r_iaload K dX10_roads_101 e31 ?_
      refine r_aload_n K 0 dX10_roads_102 rfl ?_
      obtain ⟨b32, e33, hf⟩ := ob1_s hf
      refine r_getR (ci := 10) (k := 8) K dX10_roads_103 inX10 rfl (by decide) rfl q_914 e33 ?_
      refine r_iload_n K 1 dX10_roads_106 rfl ?_
      refine r_iconst (v := (1 : Int32)) K dX10_roads_107 (by decide) ?_
      refine r_iadd K dX10_roads_108 ?_
      obtain ⟨v34, e35, hf⟩ := ob1_s hf
      refine r_iaload K dX10_roads_109 e35 ?_
      refine r_aload_n K 0 dX10_roads_110 rfl ?_
      obtain ⟨b36, e37, hf⟩ := ob1_s hf
      refine r_getR (ci := 10) (k := 8) K dX10_roads_111 inX10 rfl (by decide) rfl q_914 e37 ?_
      refine r_iload_n K 1 dX10_roads_114 rfl ?_
      refine r_iconst (v := (2 : Int32)) K dX10_roads_115 (by decide) ?_
      refine r_iadd K dX10_roads_116 ?_
      obtain ⟨v38, e39, hf⟩ := ob1_s hf
      refine r_iaload K dX10_roads_117 e39 ?_
      refine r_aload_n K 0 dX10_roads_118 rfl ?_
      obtain ⟨b40, e41, hf⟩ := ob1_s hf
      refine r_getR (ci := 10) (k := 8) K dX10_roads_119 inX10 rfl (by decide) rfl q_914 e41 ?_
      refine r_iload_n K 1 dX10_roads_122 rfl ?_
      refine r_iconst (v := (3 : Int32)) K dX10_roads_123 (by decide) ?_
      refine r_iadd K dX10_roads_124 ?_
      obtain ⟨v42, e43, hf⟩ := ob1_s hf
      refine r_iaload K dX10_roads_125 e43 ?_
      refine r_i2l K dX10_roads_126 ?_
      refine r_aload_n K 0 dX10_roads_127 rfl ?_
      obtain ⟨b44, e45, hf⟩ := ob1_s hf
      refine r_getR (ci := 10) (k := 8) K dX10_roads_128 inX10 rfl (by decide) rfl q_914 e45 ?_
      refine r_iload_n K 1 dX10_roads_131 rfl ?_
      refine r_iconst (v := (4 : Int32)) K dX10_roads_132 (by decide) ?_
      refine r_iadd K dX10_roads_133 ?_
      obtain ⟨v46, e47, hf⟩ := ob1_s hf
      refine r_iaload K dX10_roads_134 e47 ?_
      refine r_i2l K dX10_roads_135 ?_
      refine r_aload_n K 0 dX10_roads_136 rfl ?_
      obtain ⟨b48, e49, hf⟩ := ob1_s hf
      refine r_getR (ci := 10) (k := 8) K dX10_roads_137 inX10 rfl (by decide) rfl q_914 e49 ?_
      refine r_iload_n K 1 dX10_roads_140 rfl ?_
      refine r_iconst (v := (5 : Int32)) K dX10_roads_141 (by decide) ?_
      refine r_iadd K dX10_roads_142 ?_
      obtain ⟨v50, e51, hf⟩ := ob1_s hf
      refine r_iaload K dX10_roads_143 e51 ?_
      refine r_i2l K dX10_roads_144 ?_
      refine r_aload_n K 0 dX10_roads_145 rfl ?_
      obtain ⟨b52, e53, hf⟩ := ob1_s hf
      refine r_getR (ci := 10) (k := 8) K dX10_roads_146 inX10 rfl (by decide) rfl q_914 e53 ?_
      refine r_iload_n K 1 dX10_roads_149 rfl ?_
      refine r_bipush (v := (6 : Int32)) K dX10_roads_150 (by decide) ?_
      refine r_iadd K dX10_roads_152 ?_
      obtain ⟨v54, e55, hf⟩ := ob1_s hf
      refine r_iaload K dX10_roads_153 e55 ?_
      obtain ⟨g56, e57, hf⟩ := ob1_s hf
      refine r_callV (As := [.int v30, .int v34, .int v38, .long (Int32.toInt64 v42), .long (Int32.toInt64 v46), .long (Int32.toInt64 v50), .int v54]) (rest := []) (st1 := []) (cells1 := 0) (slots1 := 0) (b := a0) (ci := 10) K (fun z => mX10_puts l z e57) dX10_roads_154 rfl (fun z => z _ _ ht) rfl ceX10_puts q_1024 q_1026 q_32 q_85 q_1027 ⟨Nat.le_of_ble_eq_true rfl, Nat.le_of_ble_eq_true rfl⟩ (Nat.le_of_ble_eq_true rfl) ⟨Nat.le_of_ble_eq_true rfl, Nat.le_of_ble_eq_true rfl⟩ ?_ rfl rfl rfl rfl
      obtain ⟨y58, ey58, hf⟩ := bnd_g hf
      refine r_iinc (lv1 := [(1, .int y58), (0, .ref a0)]) K 1 dX10_roads_157 rfl (by rw [ey58]; rfl) (by decide) rfl ?_
      refine r_goto (tgt := 84) K dX10_roads_160 (by decide) ?_
      refine r_lv [1, 0] rfl ?_
      exact ih y58 g56 hf
set_option maxHeartbeats 4000000 in
set_option maxRecDepth 100000 in
theorem mX10_roads (l : Launch) {G : GG} {b0 : Nat} {h : AH} {a0 : Nat} {rr : Int32} {hh : AH} (ht : isO h a0 10) (hf : fX10_roads a0 h = some (rr, hh)) : MM l yX10_roads cX10_roads 2 (some .int) rmX10_roads G b0 h [.ref a0] (some (.int rr)) hh := by
  refine MM.of (own := RX10) (lv0 := [(0, .ref a0)]) (by decide) rfl (Nat.le_of_ble_eq_true rfl) rfl ?_
  intro p e s m args below meth c K hnm
  unfold fX10_roads at hf
  refine r_aload_n K 0 dX10_roads_0 rfl ?_
  refine r_iconst (v := (0 : Int32)) K dX10_roads_1 (by decide) ?_
  obtain ⟨g1, e2, hf⟩ := ob1_s hf
  refine r_putV (ci := 10) (k := 6) (ty0 := tyX10) (ty := tyX10 6) K dX10_roads_2 inX10 rfl (by decide) rfl q_912 tyX10_ok nmX10 rfl rfl rfl rfl e2 ?_
  refine r_aload_n K 0 dX10_roads_5 rfl ?_
  refine r_iconst (v := (0 : Int32)) K dX10_roads_6 (by decide) ?_
  obtain ⟨g3, e4, hf⟩ := ob1_s hf
  refine r_putV (ci := 10) (k := 7) (ty0 := tyX10) (ty := tyX10 7) K dX10_roads_7 inX10 rfl (by decide) rfl q_913 tyX10_ok nmX10 rfl rfl rfl rfl e4 ?_
  refine r_aload_n K 0 dX10_roads_10 rfl ?_
  refine r_iconst (v := (0 : Int32)) K dX10_roads_11 (by decide) ?_
  obtain ⟨g5, e6, hf⟩ := ob1_s hf
  refine r_putV (ci := 10) (k := 9) (ty0 := tyX10) (ty := tyX10 9) K dX10_roads_12 inX10 rfl (by decide) rfl q_915 tyX10_ok nmX10 rfl rfl rfl rfl e6 ?_
  refine r_aload_n K 0 dX10_roads_15 rfl ?_
  obtain ⟨g7, e8, hf⟩ := ob1_s hf
  refine r_callV (As := []) (rest := []) (st1 := []) (cells1 := 0) (slots1 := 0) (b := a0) (ci := 10) K (fun z => mX10_readRoad l z e8) dX10_roads_16 rfl (fun z => z _ _ ht) rfl ceX10_readRoad q_1107 q_1109 q_40 q_85 q_1110 ⟨Nat.le_of_ble_eq_true rfl, Nat.le_of_ble_eq_true rfl⟩ (Nat.le_of_ble_eq_true rfl) ⟨Nat.le_of_ble_eq_true rfl, Nat.le_of_ble_eq_true rfl⟩ ?_ rfl rfl rfl rfl
  refine wX10_roads_L19 K ht _ (fun g15 hf => ?_) lf g7 hf
  refine r_aload_n K 0 dX10_roads_35 rfl ?_
  refine r_aload_n K 0 dX10_roads_36 rfl ?_
  obtain ⟨v16, e17, hf⟩ := ob1_s hf
  refine r_getI (ci := 10) (k := 7) K dX10_roads_37 inX10 rfl (by decide) rfl q_913 e17 ?_
  obtain ⟨j18, ej18, hf⟩ := bnd_g hf
  have Jj18 : ∀ (g19 : AH), j18 g19 = some (rr, hh) → WA p l e rmX10_roads s m args below meth c (MQ below (QG G b0 h (some (.int rr)) hh) args s (rmX10_roads).cells (rmX10_roads).slots (AB b0)) G b0 2 h 0 0 g19 54 [(0, .ref a0)] [.ref a0] := by
    intro g19 hf
    rw [ej18] at hf
    refine r_iconst (v := (1 : Int32)) K dX10_roads_54 (by decide) ?_
    refine r_goto (tgt := 59) K dX10_roads_55 (by decide) ?_
    obtain ⟨g20, e21, hf⟩ := ob1_s hf
    refine r_putV (ci := 10) (k := 7) (ty0 := tyX10) (ty := tyX10 7) K dX10_roads_59 inX10 rfl (by decide) rfl q_913 tyX10_ok nmX10 rfl rfl rfl rfl e21 ?_
    refine r_aload_n K 0 dX10_roads_62 rfl ?_
    refine r_iconst (v := (0 : Int32)) K dX10_roads_63 (by decide) ?_
    obtain ⟨g22, e23, hf⟩ := ob1_s hf
    refine r_putV (ci := 10) (k := 5) (ty0 := tyX10) (ty := tyX10 5) K dX10_roads_64 inX10 rfl (by decide) rfl q_911 tyX10_ok nmX10 rfl rfl rfl rfl e23 ?_
    refine r_aload_n K 0 dX10_roads_67 rfl ?_
    obtain ⟨v24, e25, hf⟩ := ob1_s hf
    refine r_getI (ci := 10) (k := 7) K dX10_roads_68 inX10 rfl (by decide) rfl q_913 e25 ?_
    refine r_if_eq (tgt := 82) K dX10_roads_71 (by decide) (fun c65 => ?_) (fun c65 => ?_)
    · replace hf := ite_t hf c65
      refine r_iconst (v := (0 : Int32)) K dX10_roads_82 (by decide) ?_
      refine r_istore_n (lv1 := [(1, .int (0 : Int32)), (0, .ref a0)]) K dX10_roads_83 (by decide) rfl ?_
      refine r_lv [1, 0] rfl ?_
      refine wX10_roads_L84 K ht _ (fun g60 hf => ?_) lf (0 : Int32) g22 hf
      refine r_aload_n K 0 dX10_roads_163 rfl ?_
      obtain ⟨v61, e62, hf⟩ := ob1_s hf
      refine r_getI (ci := 10) (k := 9) K dX10_roads_164 inX10 rfl (by decide) rfl q_915 e62 ?_
      exact r_iret K dX10_roads_167 hf (Nat.le_of_ble_eq_true rfl) (Nat.le_of_ble_eq_true rfl)
    · replace hf := ite_f hf c65
      refine r_bipush (v := (-100 : Int32)) K dX10_roads_74 (by decide) ?_
      refine r_aload_n K 0 dX10_roads_76 rfl ?_
      obtain ⟨v63, e64, hf⟩ := ob1_s hf
      refine r_getI (ci := 10) (k := 6) K dX10_roads_77 inX10 rfl (by decide) rfl q_912 e64 ?_
      refine r_isub K dX10_roads_80 ?_
      exact r_iret K dX10_roads_81 hf (Nat.le_of_ble_eq_true rfl) (Nat.le_of_ble_eq_true rfl)
  refine r_if_ne (tgt := 54) K dX10_roads_40 (by decide) (fun c83 => ?_) (fun c83 => ?_)
  · replace hf := ite_f hf c83
    exact Jj18 g15 hf
  · replace hf := ite_t hf c83
    refine r_aload_n K 0 dX10_roads_43 rfl ?_
    obtain ⟨v66, e67, hf⟩ := ob1_s hf
    refine r_getI (ci := 10) (k := 6) K dX10_roads_44 inX10 rfl (by decide) rfl q_912 e67 ?_
    refine r_aload_n K 0 dX10_roads_47 rfl ?_
    obtain ⟨v68, e69, hf⟩ := ob1_s hf
    refine r_getI (ci := 10) (k := 5) K dX10_roads_48 inX10 rfl (by decide) rfl q_911 e69 ?_
    refine r_icmp_ge (tgt := 58) K dX10_roads_51 (by decide) (fun c82 => ?_) (fun c82 => ?_)
    · replace hf := ite_t hf c82
      refine r_iconst (v := (0 : Int32)) K dX10_roads_58 (by decide) ?_
      obtain ⟨g70, e71, hf⟩ := ob1_s hf
      refine r_putV (ci := 10) (k := 7) (ty0 := tyX10) (ty := tyX10 7) K dX10_roads_59 inX10 rfl (by decide) rfl q_913 tyX10_ok nmX10 rfl rfl rfl rfl e71 ?_
      refine r_aload_n K 0 dX10_roads_62 rfl ?_
      refine r_iconst (v := (0 : Int32)) K dX10_roads_63 (by decide) ?_
      obtain ⟨g72, e73, hf⟩ := ob1_s hf
      refine r_putV (ci := 10) (k := 5) (ty0 := tyX10) (ty := tyX10 5) K dX10_roads_64 inX10 rfl (by decide) rfl q_911 tyX10_ok nmX10 rfl rfl rfl rfl e73 ?_
      refine r_aload_n K 0 dX10_roads_67 rfl ?_
      obtain ⟨v74, e75, hf⟩ := ob1_s hf
      refine r_getI (ci := 10) (k := 7) K dX10_roads_68 inX10 rfl (by decide) rfl q_913 e75 ?_
      refine r_if_eq (tgt := 82) K dX10_roads_71 (by decide) (fun c81 => ?_) (fun c81 => ?_)
      · replace hf := ite_t hf c81
        refine r_iconst (v := (0 : Int32)) K dX10_roads_82 (by decide) ?_
        refine r_istore_n (lv1 := [(1, .int (0 : Int32)), (0, .ref a0)]) K dX10_roads_83 (by decide) rfl ?_
        refine r_lv [1, 0] rfl ?_
        refine wX10_roads_L84 K ht _ (fun g76 hf => ?_) lf (0 : Int32) g72 hf
        refine r_aload_n K 0 dX10_roads_163 rfl ?_
        obtain ⟨v77, e78, hf⟩ := ob1_s hf
        refine r_getI (ci := 10) (k := 9) K dX10_roads_164 inX10 rfl (by decide) rfl q_915 e78 ?_
        exact r_iret K dX10_roads_167 hf (Nat.le_of_ble_eq_true rfl) (Nat.le_of_ble_eq_true rfl)
      · replace hf := ite_f hf c81
        refine r_bipush (v := (-100 : Int32)) K dX10_roads_74 (by decide) ?_
        refine r_aload_n K 0 dX10_roads_76 rfl ?_
        obtain ⟨v79, e80, hf⟩ := ob1_s hf
        refine r_getI (ci := 10) (k := 6) K dX10_roads_77 inX10 rfl (by decide) rfl q_912 e80 ?_
        refine r_isub K dX10_roads_80 ?_
        exact r_iret K dX10_roads_81 hf (Nat.le_of_ble_eq_true rfl) (Nat.le_of_ble_eq_true rfl)
    · replace hf := ite_f hf c82
      exact Jj18 g15 hf
theorem ceX10_keepsWay : CE yX10_keepsWay 3 := ⟨by decide, by decide, by decide +kernel⟩
abbrev rmX10_keepsWay : Room := { frames := 0, cells := 0, slots := 0, locals := 0 }
def fX10_keepsWay_L25 (a0 : Nat) (x1 : Int32) (x2 : Int32) (x3 : Int32) (x4 : Int32) (k : AH → Option AH) : Nat → Int32 → AH → Option AH
  | 0, _, _ => none
  | n + 1, x5, h =>
    if x3 ≤ x5 then
      k h
    else
      ob1 (gR h a0 10 12) fun b10 =>
      ob1 (gR h a0 10 13) fun b12 =>
      ob1 (aI h b12 0 (((5 : Int32) * x2) + x5)) fun v14 =>
      ob1 (sI h b10 (((5 : Int32) * x4) + x5) v14) fun g16 =>
      bnd (x5 + (1 : Int32)) fun y18 =>
      fX10_keepsWay_L25 a0 x1 x2 x3 x4 k n y18 g16
def fX10_keepsWay (a0 : Nat) (x1 : Int32) (x2 : Int32) (x3 : Int32) (h : AH) : Option AH :=
  ob1 (gR h a0 10 10) fun b1 =>
  ob1 (aI h b1 0 x1) fun v3 =>
  bnd (((256 : Int32) * x1) + v3) fun y5 =>
  ob1 (gR h a0 10 11) fun b6 =>
  ob1 (sI h b6 y5 x3) fun g8 =>
  fX10_keepsWay_L25 a0 x1 x2 x3 y5 (fun (g20 : AH) =>
    ob1 (gR g20 a0 10 10) fun b21 =>
    ob1 (aI g20 b21 0 x1) fun v23 =>
    ob1 (sI g20 b21 x1 (v23 + (1 : Int32))) fun g25 =>
    some g25
  ) lf (0 : Int32) g8
set_option maxHeartbeats 4000000 in
set_option maxRecDepth 100000 in
theorem wX10_keepsWay_L25 {p : Program} {l : Launch} {e : Env} {s : State} {m : MethodId} {args : Array Value} {below : List Frame} {meth : Method} {c : Code} {G : GG} {b0 : Nat} {h0 : AH} {a0 : Nat} {x1 : Int32} {x2 : Int32} {x3 : Int32} {x4 : Int32} {hh : AH} (K : CX p s m args meth c cX10_keepsWay 6 RX10 (none) G b0) (ht : isO h0 a0 10) (k : AH → Option AH) (hk : ∀ (h : AH), k h = some hh → WA p l e rmX10_keepsWay s m args below meth c (MQ below (QG G b0 h0 none hh) args s (rmX10_keepsWay).cells (rmX10_keepsWay).slots (AB b0)) G b0 6 h0 0 0 h 60 [(0, .ref a0), (1, .int x1)] []) : ∀ (n : Nat) (x5 : Int32) (h : AH), fX10_keepsWay_L25 a0 x1 x2 x3 x4 k n x5 h = some hh → WA p l e rmX10_keepsWay s m args below meth c (MQ below (QG G b0 h0 none hh) args s (rmX10_keepsWay).cells (rmX10_keepsWay).slots (AB b0)) G b0 6 h0 0 0 h 25 [(0, .ref a0), (1, .int x1), (2, .int x2), (3, .int x3), (4, .int x4), (5, .int x5)] [] := by
  intro n
  induction n with
  | zero =>
    intro x5 h hf
    rw [fX10_keepsWay_L25] at hf
    cases hf
  | succ n ih =>
    intro x5 h hf
    rw [fX10_keepsWay_L25] at hf
    refine r_iload K 5 dX10_keepsWay_25 rfl ?_
    refine r_iload_n K 3 dX10_keepsWay_27 rfl ?_
    refine r_icmp_ge (tgt := 60) K dX10_keepsWay_28 (by decide) (fun c19 => ?_) (fun c19 => ?_)
    · replace hf := ite_t hf c19
      refine r_lv [0, 1] rfl ?_
      exact hk h hf
    · replace hf := ite_f hf c19
      refine r_aload_n K 0 dX10_keepsWay_31 rfl ?_
      obtain ⟨b10, e11, hf⟩ := ob1_s hf
      refine r_getR (ci := 10) (k := 12) K dX10_keepsWay_32 inX10 rfl (by decide) rfl q_918 e11 ?_
      refine r_iconst (v := (5 : Int32)) K dX10_keepsWay_35 (by decide) ?_
      refine r_iload K 4 dX10_keepsWay_36 rfl ?_
      refine r_imul K dX10_keepsWay_38 ?_
      refine r_iload K 5 dX10_keepsWay_39 rfl ?_
      refine r_iadd K dX10_keepsWay_41 ?_
      refine r_aload_n K 0 dX10_keepsWay_42 rfl ?_
      obtain ⟨b12, e13, hf⟩ := ob1_s hf
      refine r_getR (ci := 10) (k := 13) K dX10_keepsWay_43 inX10 rfl (by decide) rfl q_919 e13 ?_
      refine r_iconst (v := (5 : Int32)) K dX10_keepsWay_46 (by decide) ?_
      refine r_iload_n K 2 dX10_keepsWay_47 rfl ?_
      refine r_imul K dX10_keepsWay_48 ?_
      refine r_iload K 5 dX10_keepsWay_49 rfl ?_
      refine r_iadd K dX10_keepsWay_51 ?_
      obtain ⟨v14, e15, hf⟩ := ob1_s hf
      refine r_iaload K dX10_keepsWay_52 e15 ?_
      obtain ⟨g16, e17, hf⟩ := ob1_s hf
      refine r_iastore K dX10_keepsWay_53 e17 ?_
      obtain ⟨y18, ey18, hf⟩ := bnd_g hf
      refine r_iinc (lv1 := [(5, .int y18), (0, .ref a0), (1, .int x1), (2, .int x2), (3, .int x3), (4, .int x4)]) K 5 dX10_keepsWay_54 rfl (by rw [ey18]; rfl) (by decide) rfl ?_
      refine r_goto (tgt := 25) K dX10_keepsWay_57 (by decide) ?_
      refine r_lv [1, 2, 3, 4, 5, 0] rfl ?_
      exact ih y18 g16 hf
set_option maxHeartbeats 4000000 in
set_option maxRecDepth 100000 in
theorem mX10_keepsWay (l : Launch) {G : GG} {b0 : Nat} {h : AH} {a0 : Nat} {x1 : Int32} {x2 : Int32} {x3 : Int32} {hh : AH} (ht : isO h a0 10) (hf : fX10_keepsWay a0 x1 x2 x3 h = some hh) : MM l yX10_keepsWay cX10_keepsWay 6 (none) rmX10_keepsWay G b0 h [.ref a0, .int x1, .int x2, .int x3] none hh := by
  refine MM.of (own := RX10) (lv0 := [(0, .ref a0), (1, .int x1), (2, .int x2), (3, .int x3)]) (by decide) rfl (Nat.le_of_ble_eq_true rfl) rfl ?_
  intro p e s m args below meth c K hnm
  unfold fX10_keepsWay at hf
  refine r_sipush (v := (256 : Int32)) K dX10_keepsWay_0 (by decide) ?_
  refine r_iload_n K 1 dX10_keepsWay_3 rfl ?_
  refine r_imul K dX10_keepsWay_4 ?_
  refine r_aload_n K 0 dX10_keepsWay_5 rfl ?_
  obtain ⟨b1, e2, hf⟩ := ob1_s hf
  refine r_getR (ci := 10) (k := 10) K dX10_keepsWay_6 inX10 rfl (by decide) rfl q_916 e2 ?_
  refine r_iload_n K 1 dX10_keepsWay_9 rfl ?_
  obtain ⟨v3, e4, hf⟩ := ob1_s hf
  refine r_iaload K dX10_keepsWay_10 e4 ?_
  refine r_iadd K dX10_keepsWay_11 ?_
  obtain ⟨y5, ey5, hf⟩ := bnd_g hf
  refine r_nmi ey5 ?_
  refine r_istore (lv1 := [(4, .int y5), (0, .ref a0), (1, .int x1), (2, .int x2), (3, .int x3)]) K dX10_keepsWay_12 (by decide) rfl ?_
  refine r_aload_n K 1 dX10_keepsWay_14 rfl ?_
  obtain ⟨b6, e7, hf⟩ := ob1_s hf
  refine r_getR (ci := 10) (k := 11) K dX10_keepsWay_15 inX10 rfl (by decide) rfl q_917 e7 ?_
  refine r_iload K 0 dX10_keepsWay_18 rfl ?_
  refine r_iload_n K 4 dX10_keepsWay_20 rfl ?_
  obtain ⟨g8, e9, hf⟩ := ob1_s hf
  refine r_iastore K dX10_keepsWay_21 e9 ?_
  refine r_iconst (v := (0 : Int32)) K dX10_keepsWay_22 (by decide) ?_
  refine r_istore (lv1 := [(5, .int (0 : Int32)), (4, .int y5), (0, .ref a0), (1, .int x1), (2, .int x2), (3, .int x3)]) K dX10_keepsWay_23 (by decide) rfl ?_
  refine r_lv [2, 3, 4, 5, 1, 0] rfl ?_
  refine wX10_keepsWay_L25 K ht _ (fun g20 hf => ?_) lf (0 : Int32) g8 hf
  refine r_aload_n K 0 dX10_keepsWay_60 rfl ?_
  obtain ⟨b21, e22, hf⟩ := ob1_s hf
  refine r_getR (ci := 10) (k := 10) K dX10_keepsWay_61 inX10 rfl (by decide) rfl q_916 e22 ?_
  refine r_iload_n K 1 dX10_keepsWay_64 rfl ?_
  refine r_dup2_11 K dX10_keepsWay_65 rfl rfl ?_
  obtain ⟨v23, e24, hf⟩ := ob1_s hf
  refine r_iaload K dX10_keepsWay_66 e24 ?_
  refine r_iconst (v := (1 : Int32)) K dX10_keepsWay_67 (by decide) ?_
  refine r_iadd K dX10_keepsWay_68 ?_
  obtain ⟨g25, e26, hf⟩ := ob1_s hf
  refine r_iastore K dX10_keepsWay_69 e26 ?_
  exact r_vret K dX10_keepsWay_70 hf (Nat.le_of_ble_eq_true rfl) (Nat.le_of_ble_eq_true rfl)
theorem ceX10_longer : CE yX10_longer 4 := ⟨by decide, by decide, by decide +kernel⟩
abbrev rmX10_longer : Room := { frames := 1, cells := 0, slots := 0, locals := 25 }
def fX10_longer_L87 (a0 : Nat) (x1 : Int32) (x2 : Int32) (x3 : Int32) (x4 : Int32) (x5 : Int32) (x6 : Int32) (x7 : Int32) (x8 : Int32) (x9 : Int32) (x10 : Int32) (k : AH → Option (Int32 × AH)) : Nat → Int32 → AH → Option (Int32 × AH)
  | 0, _, _ => none
  | n + 1, x11, h =>
    if x4 ≤ x11 then
      k h
    else
      ob1 (gR h a0 10 13) fun b20 =>
      ob1 (gR h a0 10 13) fun b22 =>
      ob1 (aI h b22 0 (((5 : Int32) * x7) + x11)) fun v24 =>
      ob1 (sI h b20 (((5 : Int32) * x10) + x11) v24) fun g26 =>
      bnd (x11 + (1 : Int32)) fun y28 =>
      fX10_longer_L87 a0 x1 x2 x3 x4 x5 x6 x7 x8 x9 x10 k n y28 g26
def fX10_longer_L24 (a0 : Nat) (x1 : Int32) (x2 : Int32) (x3 : Int32) (x4 : Int32) (x5 : Int32) (x7 : Int32) (k : Int32 → AH → Option (Int32 × AH)) : Nat → Int32 → Int32 → AH → Option (Int32 × AH)
  | 0, _, _, _ => none
  | n + 1, x6, x8, h =>
    ob1 (fX10_roadMany a0 h) fun r2 =>
    if r2 ≤ x8 then
      k x6 h
    else
      ob1 (fX10_ofRoad a0 x8 (1 : Int32) h) fun r4 =>
      bnd (Int64.toInt32 r4) fun y6 =>
      ob1 (fX10_ofRoad a0 x8 (0 : Int32) h) fun r7 =>
      ob1 (gR h a0 10 15) fun b9 =>
      ob1 (aI h b9 0 x7) fun v11 =>
      if r7 = (Int32.toInt64 v11) then
        ob1 (gR h a0 10 14) fun b14 =>
        ob1 (aI h b14 0 x7) fun v16 =>
        if ((v16 >>> (y6 &&& 31)) &&& (1 : Int32)) = (0 : Int32) then
          bnd (x5 + x6) fun y19 =>
          fX10_longer_L87 a0 x1 x2 x3 x4 x5 x6 x7 x8 y6 y19 (fun (g30 : AH) =>
            ob1 (gR g30 a0 10 13) fun b31 =>
            ob1 (sI g30 b31 (((5 : Int32) * y19) + x4) x8) fun g33 =>
            ob1 (gR g33 a0 10 14) fun b35 =>
            ob1 (gR g33 a0 10 14) fun b37 =>
            ob1 (aI g33 b37 0 x7) fun v39 =>
            ob1 (sI g33 b35 y19 (v39 ||| ((1 : Int32) <<< (y6 &&& 31)))) fun g41 =>
            ob1 (gR g41 a0 10 15) fun b43 =>
            ob1 (sI g41 b43 y19 y6) fun g45 =>
            ob1 (fX10_ofClass a0 x1 (0 : Int32) g45) fun r47 =>
            if (Int32.toInt64 y6) = r47 then
              ob1 (fX10_keepsWay a0 x1 y19 (x4 + (1 : Int32)) g45) fun g51 =>
              bnd (x8 + (1 : Int32)) fun y53 =>
              fX10_longer_L24 a0 x1 x2 x3 x4 x5 x7 k n x6 y53 g51
            else
              bnd (x6 + (1 : Int32)) fun y49 =>
              bnd (x8 + (1 : Int32)) fun y50 =>
              fX10_longer_L24 a0 x1 x2 x3 x4 x5 x7 k n y49 y50 g45
          ) lf (0 : Int32) h
        else
          bnd (x8 + (1 : Int32)) fun y18 =>
          fX10_longer_L24 a0 x1 x2 x3 x4 x5 x7 k n x6 y18 h
      else
        bnd (x8 + (1 : Int32)) fun y13 =>
        fX10_longer_L24 a0 x1 x2 x3 x4 x5 x7 k n x6 y13 h
def fX10_longer_L13 (a0 : Nat) (x1 : Int32) (x2 : Int32) (x3 : Int32) (x4 : Int32) (x5 : Int32) (k : Int32 → AH → Option (Int32 × AH)) : Nat → Int32 → Int32 → AH → Option (Int32 × AH)
  | 0, _, _, _ => none
  | n + 1, x6, x7, h =>
    if (x2 + x3) ≤ x7 then
      k x6 h
    else
      fX10_longer_L24 a0 x1 x2 x3 x4 x5 x7 (fun (y58 : Int32) (g59 : AH) =>
        bnd (x7 + (1 : Int32)) fun y60 =>
        fX10_longer_L13 a0 x1 x2 x3 x4 x5 k n y58 y60 g59
      ) lf x6 (0 : Int32) h
def fX10_longer (a0 : Nat) (x1 : Int32) (x2 : Int32) (x3 : Int32) (x4 : Int32) (h : AH) : Option (Int32 × AH) :=
  bnd ((256 : Int32) - x2) fun y1 =>
  fX10_longer_L13 a0 x1 x2 x3 x4 y1 (fun (y62 : Int32) (g63 : AH) =>
    some (y62, g63)
  ) lf (0 : Int32) x2 h
set_option maxHeartbeats 4000000 in
set_option maxRecDepth 100000 in
theorem wX10_longer_L87 {p : Program} {l : Launch} {e : Env} {s : State} {m : MethodId} {args : Array Value} {below : List Frame} {meth : Method} {c : Code} {G : GG} {b0 : Nat} {h0 : AH} {a0 : Nat} {x1 : Int32} {x2 : Int32} {x3 : Int32} {x4 : Int32} {x5 : Int32} {x6 : Int32} {x7 : Int32} {x8 : Int32} {x9 : Int32} {x10 : Int32} {rr : Int32} {hh : AH} (K : CX p s m args meth c cX10_longer 12 RX10 (some .int) G b0) (ht : isO h0 a0 10) (k : AH → Option (Int32 × AH)) (hk : ∀ (h : AH), k h = some (rr, hh) → WA p l e rmX10_longer s m args below meth c (MQ below (QG G b0 h0 (some (.int rr)) hh) args s (rmX10_longer).cells (rmX10_longer).slots (AB b0)) G b0 12 h0 0 0 h 124 [(0, .ref a0), (1, .int x1), (2, .int x2), (3, .int x3), (4, .int x4), (5, .int x5), (6, .int x6), (7, .int x7), (8, .int x8), (9, .int x9), (10, .int x10)] []) : ∀ (n : Nat) (x11 : Int32) (h : AH), fX10_longer_L87 a0 x1 x2 x3 x4 x5 x6 x7 x8 x9 x10 k n x11 h = some (rr, hh) → WA p l e rmX10_longer s m args below meth c (MQ below (QG G b0 h0 (some (.int rr)) hh) args s (rmX10_longer).cells (rmX10_longer).slots (AB b0)) G b0 12 h0 0 0 h 87 [(0, .ref a0), (1, .int x1), (2, .int x2), (3, .int x3), (4, .int x4), (5, .int x5), (6, .int x6), (7, .int x7), (8, .int x8), (9, .int x9), (10, .int x10), (11, .int x11)] [] := by
  intro n
  induction n with
  | zero =>
    intro x11 h hf
    rw [fX10_longer_L87] at hf
    cases hf
  | succ n ih =>
    intro x11 h hf
    rw [fX10_longer_L87] at hf
    refine r_iload K 11 dX10_longer_87 rfl ?_
    refine r_iload K 4 dX10_longer_89 rfl ?_
    refine r_icmp_ge (tgt := 124) K dX10_longer_91 (by decide) (fun c29 => ?_) (fun c29 => ?_)
    · replace hf := ite_t hf c29
      refine r_lv [0, 1, 2, 3, 4, 5, 6, 7, 8, 9, 10] rfl ?_
      exact hk h hf
    · replace hf := ite_f hf c29
      refine r_aload_n K 0 dX10_longer_94 rfl ?_
      obtain ⟨b20, e21, hf⟩ := ob1_s hf
      refine r_getR (ci := 10) (k := 13) K dX10_longer_95 inX10 rfl (by decide) rfl q_919 e21 ?_
      refine r_iconst (v := (5 : Int32)) K dX10_longer_98 (by decide) ?_
      refine r_iload K 10 dX10_longer_99 rfl ?_
      refine r_imul K dX10_longer_101 ?_
      refine r_iload K 11 dX10_longer_102 rfl ?_
      refine r_iadd K dX10_longer_104 ?_
      refine r_aload_n K 0 dX10_longer_105 rfl ?_
      obtain ⟨b22, e23, hf⟩ := ob1_s hf
      refine r_getR (ci := 10) (k := 13) K dX10_longer_106 inX10 rfl (by decide) rfl q_919 e23 ?_
      refine r_iconst (v := (5 : Int32)) K dX10_longer_109 (by decide) ?_
      refine r_iload K 7 dX10_longer_110 rfl ?_
      refine r_imul K dX10_longer_112 ?_
      refine r_iload K 11 dX10_longer_113 rfl ?_
      refine r_iadd K dX10_longer_115 ?_
      obtain ⟨v24, e25, hf⟩ := ob1_s hf
      refine r_iaload K dX10_longer_116 e25 ?_
      obtain ⟨g26, e27, hf⟩ := ob1_s hf
      refine r_iastore K dX10_longer_117 e27 ?_
      obtain ⟨y28, ey28, hf⟩ := bnd_g hf
      refine r_iinc (lv1 := [(11, .int y28), (0, .ref a0), (1, .int x1), (2, .int x2), (3, .int x3), (4, .int x4), (5, .int x5), (6, .int x6), (7, .int x7), (8, .int x8), (9, .int x9), (10, .int x10)]) K 11 dX10_longer_118 rfl (by rw [ey28]; rfl) (by decide) rfl ?_
      refine r_goto (tgt := 87) K dX10_longer_121 (by decide) ?_
      refine r_lv [1, 2, 3, 4, 5, 6, 7, 8, 9, 10, 11, 0] rfl ?_
      exact ih y28 g26 hf
set_option maxHeartbeats 4000000 in
set_option maxRecDepth 100000 in
theorem wX10_longer_L24 {p : Program} {l : Launch} {e : Env} {s : State} {m : MethodId} {args : Array Value} {below : List Frame} {meth : Method} {c : Code} {G : GG} {b0 : Nat} {h0 : AH} {a0 : Nat} {x1 : Int32} {x2 : Int32} {x3 : Int32} {x4 : Int32} {x5 : Int32} {x7 : Int32} {rr : Int32} {hh : AH} (K : CX p s m args meth c cX10_longer 12 RX10 (some .int) G b0) (ht : isO h0 a0 10) (k : Int32 → AH → Option (Int32 × AH)) (hk : ∀ (x6 : Int32) (h : AH), k x6 h = some (rr, hh) → WA p l e rmX10_longer s m args below meth c (MQ below (QG G b0 h0 (some (.int rr)) hh) args s (rmX10_longer).cells (rmX10_longer).slots (AB b0)) G b0 12 h0 0 0 h 202 [(0, .ref a0), (1, .int x1), (2, .int x2), (3, .int x3), (4, .int x4), (5, .int x5), (6, .int x6), (7, .int x7)] []) : ∀ (n : Nat) (x6 : Int32) (x8 : Int32) (h : AH), fX10_longer_L24 a0 x1 x2 x3 x4 x5 x7 k n x6 x8 h = some (rr, hh) → WA p l e rmX10_longer s m args below meth c (MQ below (QG G b0 h0 (some (.int rr)) hh) args s (rmX10_longer).cells (rmX10_longer).slots (AB b0)) G b0 12 h0 0 0 h 24 [(0, .ref a0), (1, .int x1), (2, .int x2), (3, .int x3), (4, .int x4), (5, .int x5), (6, .int x6), (7, .int x7), (8, .int x8)] [] := by
  intro n
  induction n with
  | zero =>
    intro x6 x8 h hf
    rw [fX10_longer_L24] at hf
    cases hf
  | succ n ih =>
    intro x6 x8 h hf
    rw [fX10_longer_L24] at hf
    refine r_iload K 8 dX10_longer_24 rfl ?_
    refine r_aload_n K 0 dX10_longer_26 rfl ?_
    obtain ⟨r2, e3, hf⟩ := ob1_s hf
    refine r_callV (As := []) (rest := [.int x8]) (st1 := [.int r2, .int x8]) (cells1 := 0) (slots1 := 0) (b := a0) (ci := 10) K (fun z => mX10_roadMany l z e3) dX10_longer_27 rfl (fun z => z _ _ ht) rfl ceX10_roadMany q_1028 q_1030 q_33 q_85 q_1031 ⟨Nat.le_of_ble_eq_true rfl, Nat.le_of_ble_eq_true rfl⟩ (Nat.le_of_ble_eq_true rfl) ⟨Nat.le_of_ble_eq_true rfl, Nat.le_of_ble_eq_true rfl⟩ ?_ rfl rfl rfl rfl
    refine r_icmp_ge (tgt := 202) K dX10_longer_30 (by decide) (fun c57 => ?_) (fun c57 => ?_)
    · replace hf := ite_t hf c57
      refine r_lv [0, 1, 2, 3, 4, 5, 6, 7] rfl ?_
      exact hk x6 h hf
    · replace hf := ite_f hf c57
      refine r_aload_n K 0 dX10_longer_33 rfl ?_
      refine r_iload K 8 dX10_longer_34 rfl ?_
      refine r_iconst (v := (1 : Int32)) K dX10_longer_36 (by decide) ?_
      obtain ⟨r4, e5, hf⟩ := ob1_s hf
      refine r_callV (As := [.int x8, .int (1 : Int32)]) (rest := []) (st1 := [.long r4]) (cells1 := 0) (slots1 := 0) (b := a0) (ci := 10) K (fun z => mX10_ofRoad l z e5) dX10_longer_37 rfl (fun z => z _ _ ht) rfl ceX10_ofRoad q_1051 q_1053 q_36 q_85 q_1054 ⟨Nat.le_of_ble_eq_true rfl, Nat.le_of_ble_eq_true rfl⟩ (Nat.le_of_ble_eq_true rfl) ⟨Nat.le_of_ble_eq_true rfl, Nat.le_of_ble_eq_true rfl⟩ ?_ rfl rfl rfl rfl
      refine r_l2i K dX10_longer_40 ?_
      obtain ⟨y6, ey6, hf⟩ := bnd_g hf
      refine r_nmi ey6 ?_
      refine r_istore (lv1 := [(9, .int y6), (0, .ref a0), (1, .int x1), (2, .int x2), (3, .int x3), (4, .int x4), (5, .int x5), (6, .int x6), (7, .int x7), (8, .int x8)]) K dX10_longer_41 (by decide) rfl ?_
      refine r_aload_n K 1 dX10_longer_43 rfl ?_
      refine r_iload K 9 dX10_longer_44 rfl ?_
      refine r_iconst (v := (0 : Int32)) K dX10_longer_46 (by decide) ?_
      obtain ⟨r7, e8, hf⟩ := ob1_s hf
      refine r_callV (As := [.int x8, .int (0 : Int32)]) (rest := []) (st1 := [.long r7]) (cells1 := 0) (slots1 := 0) (b := a0) (ci := 10) K (fun z => mX10_ofRoad l z e8) dX10_longer_47 rfl (fun z => z _ _ ht) rfl ceX10_ofRoad q_1051 q_1053 q_36 q_85 q_1054 ⟨Nat.le_of_ble_eq_true rfl, Nat.le_of_ble_eq_true rfl⟩ (Nat.le_of_ble_eq_true rfl) ⟨Nat.le_of_ble_eq_true rfl, Nat.le_of_ble_eq_true rfl⟩ ?_ rfl rfl rfl rfl
      refine r_aload_n K 1 dX10_longer_50 rfl ?_
      obtain ⟨b9, e10, hf⟩ := ob1_s hf
      refine r_getR (ci := 10) (k := 15) K dX10_longer_51 inX10 rfl (by decide) rfl q_921 e10 ?_
      refine r_iload K 8 dX10_longer_54 rfl ?_
      obtain ⟨v11, e12, hf⟩ := ob1_s hf
      refine r_iaload K dX10_longer_56 e12 ?_
      refine r_i2l K dX10_longer_57 ?_
      refine r_lif_ne (tgt := 196) K dX10_longer_58 dX10_longer_59 (by decide) (fun c56 => ?_) (fun c56 => ?_)
      · replace hf := ite_f hf c56
        obtain ⟨y13, ey13, hf⟩ := bnd_g hf
        refine r_iinc (lv1 := [(8, .int y13), (9, .int y6), (0, .ref a0), (1, .int x1), (2, .int x2), (3, .int x3), (4, .int x4), (5, .int x5), (6, .int x6), (7, .int x7)]) K 9 dX10_longer_196 rfl (by rw [ey13]; rfl) (by decide) rfl ?_
        refine r_goto (tgt := 24) K dX10_longer_199 (by decide) ?_
        refine r_lv [2, 3, 4, 5, 6, 7, 8, 9, 0] rfl ?_
        exact ih x6 y13 h hf
      · replace hf := ite_t hf c56
        refine r_aload_n K 1 dX10_longer_62 rfl ?_
        obtain ⟨b14, e15, hf⟩ := ob1_s hf
        refine r_getR (ci := 10) (k := 14) K dX10_longer_63 inX10 rfl (by decide) rfl q_920 e15 ?_
        refine r_iload K 8 dX10_longer_66 rfl ?_
        obtain ⟨v16, e17, hf⟩ := ob1_s hf
        refine r_iaload K dX10_longer_68 e17 ?_
        refine r_iload K 0 dX10_longer_69 rfl ?_
        refine r_ishr K dX10_longer_71 ?_
        refine r_iconst (v := (1 : Int32)) K dX10_longer_72 (by decide) ?_
        refine r_iand K dX10_longer_73 ?_
        refine r_if_ne (tgt := 196) K dX10_longer_74 (by decide) (fun c55 => ?_) (fun c55 => ?_)
        · replace hf := ite_f hf c55
          obtain ⟨y18, ey18, hf⟩ := bnd_g hf
          refine r_iinc (lv1 := [(8, .int y18), (9, .int y6), (0, .ref a0), (1, .int x1), (2, .int x2), (3, .int x3), (4, .int x4), (5, .int x5), (6, .int x6), (7, .int x7)]) K 9 dX10_longer_196 rfl (by rw [ey18]; rfl) (by decide) rfl ?_
          refine r_goto (tgt := 24) K dX10_longer_199 (by decide) ?_
          refine r_lv [2, 3, 4, 5, 6, 7, 8, 9, 0] rfl ?_
          exact ih x6 y18 h hf
        · replace hf := ite_t hf c55
          refine r_iload K 6 dX10_longer_77 rfl ?_
          refine r_iload K 7 dX10_longer_79 rfl ?_
          refine r_iadd K dX10_longer_81 ?_
          obtain ⟨y19, ey19, hf⟩ := bnd_g hf
          refine r_nmi ey19 ?_
          refine r_istore (lv1 := [(10, .int y19), (9, .int y6), (0, .ref a0), (1, .int x1), (2, .int x2), (3, .int x3), (4, .int x4), (5, .int x5), (6, .int x6), (7, .int x7), (8, .int x8)]) K dX10_longer_82 (by decide) rfl ?_
          refine r_iconst (v := (0 : Int32)) K dX10_longer_84 (by decide) ?_
          refine r_istore (lv1 := [(11, .int (0 : Int32)), (10, .int y19), (9, .int y6), (0, .ref a0), (1, .int x1), (2, .int x2), (3, .int x3), (4, .int x4), (5, .int x5), (6, .int x6), (7, .int x7), (8, .int x8)]) K dX10_longer_85 (by decide) rfl ?_
          refine r_lv [3, 4, 5, 6, 7, 8, 9, 10, 11, 2, 1, 0] rfl ?_
          refine wX10_longer_L87 K ht _ (fun g30 hf => ?_) lf (0 : Int32) h hf
          refine r_aload_n K 0 dX10_longer_124 rfl ?_
          obtain ⟨b31, e32, hf⟩ := ob1_s hf
          refine r_getR (ci := 10) (k := 13) K dX10_longer_125 inX10 rfl (by decide) rfl q_919 e32 ?_
          refine r_iconst (v := (5 : Int32)) K dX10_longer_128 (by decide) ?_
          refine r_iload K 10 dX10_longer_129 rfl ?_
          refine r_imul K dX10_longer_131 ?_
          refine r_iload K 4 dX10_longer_132 rfl ?_
          refine r_iadd K dX10_longer_134 ?_
          refine r_iload K 8 dX10_longer_135 rfl ?_
          obtain ⟨g33, e34, hf⟩ := ob1_s hf
          refine r_iastore K dX10_longer_137 e34 ?_
          refine r_aload_n K 0 dX10_longer_138 rfl ?_
          obtain ⟨b35, e36, hf⟩ := ob1_s hf
          refine r_getR (ci := 10) (k := 14) K dX10_longer_139 inX10 rfl (by decide) rfl q_920 e36 ?_
          refine r_iload K 10 dX10_longer_142 rfl ?_
          refine r_aload_n K 0 dX10_longer_144 rfl ?_
          obtain ⟨b37, e38, hf⟩ := ob1_s hf
          refine r_getR (ci := 10) (k := 14) K dX10_longer_145 inX10 rfl (by decide) rfl q_920 e38 ?_
          refine r_iload K 7 dX10_longer_148 rfl ?_
          obtain ⟨v39, e40, hf⟩ := ob1_s hf
          refine r_iaload K dX10_longer_150 e40 ?_
          refine r_iconst (v := (1 : Int32)) K dX10_longer_151 (by decide) ?_
          refine r_iload K 9 dX10_longer_152 rfl ?_
          refine r_ishl K dX10_longer_154 ?_
          refine r_ior K dX10_longer_155 ?_
          obtain ⟨g41, e42, hf⟩ := ob1_s hf
          refine r_iastore K dX10_longer_156 e42 ?_
          refine r_aload_n K 0 dX10_longer_157 rfl ?_
          obtain ⟨b43, e44, hf⟩ := ob1_s hf
          refine r_getR (ci := 10) (k := 15) K dX10_longer_158 inX10 rfl (by decide) rfl q_921 e44 ?_
          refine r_iload K 10 dX10_longer_161 rfl ?_
          refine r_iload K 9 dX10_longer_163 rfl ?_
          obtain ⟨g45, e46, hf⟩ := ob1_s hf
          refine r_iastore K dX10_longer_165 e46 ?_
          refine r_iload K 9 dX10_longer_166 rfl ?_
          refine r_i2l K dX10_longer_168 ?_
          refine r_aload_n K 0 dX10_longer_169 rfl ?_
          refine r_iload_n K 1 dX10_longer_170 rfl ?_
          refine r_iconst (v := (0 : Int32)) K dX10_longer_171 (by decide) ?_
          obtain ⟨r47, e48, hf⟩ := ob1_s hf
          refine r_callV (As := [.int x1, .int (0 : Int32)]) (rest := [.long (Int32.toInt64 y6)]) (st1 := [.long r47, .long (Int32.toInt64 y6)]) (cells1 := 0) (slots1 := 0) (b := a0) (ci := 10) K (fun z => mX10_ofClass l z e48) dX10_longer_172 rfl (fun z => z _ _ ht) rfl ceX10_ofClass q_1086 q_1088 q_39 q_85 q_1089 ⟨Nat.le_of_ble_eq_true rfl, Nat.le_of_ble_eq_true rfl⟩ (Nat.le_of_ble_eq_true rfl) ⟨Nat.le_of_ble_eq_true rfl, Nat.le_of_ble_eq_true rfl⟩ ?_ rfl rfl rfl rfl
          refine r_lif_ne (tgt := 193) K dX10_longer_175 dX10_longer_176 (by decide) (fun c54 => ?_) (fun c54 => ?_)
          · replace hf := ite_f hf c54
            obtain ⟨y49, ey49, hf⟩ := bnd_g hf
            refine r_iinc (lv1 := [(6, .int y49), (0, .ref a0), (1, .int x1), (2, .int x2), (3, .int x3), (4, .int x4), (5, .int x5), (7, .int x7), (8, .int x8), (9, .int y6), (10, .int y19)]) K 6 dX10_longer_193 rfl (by rw [ey49]; rfl) (by decide) rfl ?_
            obtain ⟨y50, ey50, hf⟩ := bnd_g hf
            refine r_iinc (lv1 := [(8, .int y50), (6, .int y49), (0, .ref a0), (1, .int x1), (2, .int x2), (3, .int x3), (4, .int x4), (5, .int x5), (7, .int x7), (9, .int y6), (10, .int y19)]) K 8 dX10_longer_196 rfl (by rw [ey50]; rfl) (by decide) rfl ?_
            refine r_goto (tgt := 24) K dX10_longer_199 (by decide) ?_
            refine r_lv [2, 3, 4, 5, 6, 7, 1, 8, 0] rfl ?_
            exact ih y49 y50 g45 hf
          · replace hf := ite_t hf c54
            refine r_aload_n K 0 dX10_longer_179 rfl ?_
            refine r_iload_n K 1 dX10_longer_180 rfl ?_
            refine r_iload K 10 dX10_longer_181 rfl ?_
            refine r_iload K 4 dX10_longer_183 rfl ?_
            refine r_iconst (v := (1 : Int32)) K dX10_longer_185 (by decide) ?_
            refine r_iadd K dX10_longer_186 ?_
            obtain ⟨g51, e52, hf⟩ := ob1_s hf
            refine r_callV (As := [.int x1, .int y19, .int (x4 + (1 : Int32))]) (rest := []) (st1 := []) (cells1 := 0) (slots1 := 0) (b := a0) (ci := 10) K (fun z => mX10_keepsWay l z e52) dX10_longer_187 rfl (fun z => z _ _ ht) rfl ceX10_keepsWay q_1142 q_1144 q_47 q_85 q_1145 ⟨Nat.le_of_ble_eq_true rfl, Nat.le_of_ble_eq_true rfl⟩ (Nat.le_of_ble_eq_true rfl) ⟨Nat.le_of_ble_eq_true rfl, Nat.le_of_ble_eq_true rfl⟩ ?_ rfl rfl rfl rfl
            refine r_goto (tgt := 196) K dX10_longer_190 (by decide) ?_
            obtain ⟨y53, ey53, hf⟩ := bnd_g hf
            refine r_iinc (lv1 := [(8, .int y53), (0, .ref a0), (1, .int x1), (2, .int x2), (3, .int x3), (4, .int x4), (5, .int x5), (6, .int x6), (7, .int x7), (9, .int y6), (10, .int y19)]) K 8 dX10_longer_196 rfl (by rw [ey53]; rfl) (by decide) rfl ?_
            refine r_goto (tgt := 24) K dX10_longer_199 (by decide) ?_
            refine r_lv [1, 2, 3, 4, 5, 6, 7, 8, 0] rfl ?_
            exact ih x6 y53 g51 hf
set_option maxHeartbeats 4000000 in
set_option maxRecDepth 100000 in
theorem wX10_longer_L13 {p : Program} {l : Launch} {e : Env} {s : State} {m : MethodId} {args : Array Value} {below : List Frame} {meth : Method} {c : Code} {G : GG} {b0 : Nat} {h0 : AH} {a0 : Nat} {x1 : Int32} {x2 : Int32} {x3 : Int32} {x4 : Int32} {x5 : Int32} {rr : Int32} {hh : AH} (K : CX p s m args meth c cX10_longer 12 RX10 (some .int) G b0) (ht : isO h0 a0 10) (k : Int32 → AH → Option (Int32 × AH)) (hk : ∀ (x6 : Int32) (h : AH), k x6 h = some (rr, hh) → WA p l e rmX10_longer s m args below meth c (MQ below (QG G b0 h0 (some (.int rr)) hh) args s (rmX10_longer).cells (rmX10_longer).slots (AB b0)) G b0 12 h0 0 0 h 208 [(6, .int x6)] []) : ∀ (n : Nat) (x6 : Int32) (x7 : Int32) (h : AH), fX10_longer_L13 a0 x1 x2 x3 x4 x5 k n x6 x7 h = some (rr, hh) → WA p l e rmX10_longer s m args below meth c (MQ below (QG G b0 h0 (some (.int rr)) hh) args s (rmX10_longer).cells (rmX10_longer).slots (AB b0)) G b0 12 h0 0 0 h 13 [(0, .ref a0), (1, .int x1), (2, .int x2), (3, .int x3), (4, .int x4), (5, .int x5), (6, .int x6), (7, .int x7)] [] := by
  intro n
  induction n with
  | zero =>
    intro x6 x7 h hf
    rw [fX10_longer_L13] at hf
    cases hf
  | succ n ih =>
    intro x6 x7 h hf
    rw [fX10_longer_L13] at hf
    refine r_iload K 7 dX10_longer_13 rfl ?_
    refine r_iload_n K 2 dX10_longer_15 rfl ?_
    refine r_iload_n K 3 dX10_longer_16 rfl ?_
    refine r_iadd K dX10_longer_17 ?_
    refine r_icmp_ge (tgt := 208) K dX10_longer_18 (by decide) (fun c61 => ?_) (fun c61 => ?_)
    · replace hf := ite_t hf c61
      refine r_lv [6] rfl ?_
      exact hk x6 h hf
    · replace hf := ite_f hf c61
      refine r_iconst (v := (0 : Int32)) K dX10_longer_21 (by decide) ?_
      refine r_istore (lv1 := [(8, .int (0 : Int32)), (0, .ref a0), (1, .int x1), (2, .int x2), (3, .int x3), (4, .int x4), (5, .int x5), (6, .int x6), (7, .int x7)]) K dX10_longer_22 (by decide) rfl ?_
      refine r_lv [1, 2, 3, 4, 5, 6, 7, 8, 0] rfl ?_
      refine wX10_longer_L24 K ht _ (fun y58 g59 hf => ?_) lf x6 (0 : Int32) h hf
      obtain ⟨y60, ey60, hf⟩ := bnd_g hf
      refine r_iinc (lv1 := [(7, .int y60), (0, .ref a0), (1, .int x1), (2, .int x2), (3, .int x3), (4, .int x4), (5, .int x5), (6, .int y58)]) K 7 dX10_longer_202 rfl (by rw [ey60]; rfl) (by decide) rfl ?_
      refine r_goto (tgt := 13) K dX10_longer_205 (by decide) ?_
      refine r_lv [1, 2, 3, 4, 5, 6, 7, 0] rfl ?_
      exact ih y58 y60 g59 hf
set_option maxHeartbeats 4000000 in
set_option maxRecDepth 100000 in
theorem mX10_longer (l : Launch) {G : GG} {b0 : Nat} {h : AH} {a0 : Nat} {x1 : Int32} {x2 : Int32} {x3 : Int32} {x4 : Int32} {rr : Int32} {hh : AH} (ht : isO h a0 10) (hf : fX10_longer a0 x1 x2 x3 x4 h = some (rr, hh)) : MM l yX10_longer cX10_longer 12 (some .int) rmX10_longer G b0 h [.ref a0, .int x1, .int x2, .int x3, .int x4] (some (.int rr)) hh := by
  refine MM.of (own := RX10) (lv0 := [(0, .ref a0), (1, .int x1), (2, .int x2), (3, .int x3), (4, .int x4)]) (by decide) rfl (Nat.le_of_ble_eq_true rfl) rfl ?_
  intro p e s m args below meth c K hnm
  unfold fX10_longer at hf
  refine r_sipush (v := (256 : Int32)) K dX10_longer_0 (by decide) ?_
  refine r_iload_n K 2 dX10_longer_3 rfl ?_
  refine r_isub K dX10_longer_4 ?_
  obtain ⟨y1, ey1, hf⟩ := bnd_g hf
  refine r_nmi ey1 ?_
  refine r_istore (lv1 := [(5, .int y1), (0, .ref a0), (1, .int x1), (2, .int x2), (3, .int x3), (4, .int x4)]) K dX10_longer_5 (by decide) rfl ?_
  refine r_iconst (v := (0 : Int32)) K dX10_longer_7 (by decide) ?_
  refine r_istore (lv1 := [(6, .int (0 : Int32)), (5, .int y1), (0, .ref a0), (1, .int x1), (2, .int x2), (3, .int x3), (4, .int x4)]) K dX10_longer_8 (by decide) rfl ?_
  refine r_iload_n K 4 dX10_longer_10 rfl ?_
  refine r_istore (lv1 := [(7, .int x2), (6, .int (0 : Int32)), (5, .int y1), (0, .ref a0), (1, .int x1), (2, .int x2), (3, .int x3), (4, .int x4)]) K dX10_longer_11 (by decide) rfl ?_
  refine r_lv [3, 4, 5, 6, 7, 2, 1, 0] rfl ?_
  refine wX10_longer_L13 K ht _ (fun y62 g63 hf => ?_) lf (0 : Int32) x2 h hf
  refine r_iload K 0 dX10_longer_208 rfl ?_
  exact r_iret K dX10_longer_210 hf (Nat.le_of_ble_eq_true rfl) (Nat.le_of_ble_eq_true rfl)
theorem ceX10_layWays : CE yX10_layWays 1 := ⟨by decide, by decide, by decide +kernel⟩
abbrev rmX10_layWays : Room := { frames := 2, cells := 0, slots := 0, locals := 56 }
def fX10_layWays_L28 (a0 : Nat) (x1 : Int32) (k : AH → Option AH) : Nat → Int32 → Int32 → Int32 → AH → Option AH
  | 0, _, _, _, _ => none
  | n + 1, x2, x3, x4, h =>
    if (5 : Int32) ≤ x4 then
      k h
    else
      if x3 ≤ (0 : Int32) then
        k h
      else
        ob2 (fX10_longer a0 x1 x2 x3 x4 h) fun r13 g14 =>
        bnd ((256 : Int32) - x2) fun y16 =>
        bnd (x4 + (1 : Int32)) fun y17 =>
        fX10_layWays_L28 a0 x1 k n y16 r13 y17 g14
def fX10_layWays (a0 : Nat) (x1 : Int32) (h : AH) : Option AH :=
  ob1 (gR h a0 10 10) fun b1 =>
  ob1 (sI h b1 x1 (0 : Int32)) fun g3 =>
  ob1 (gR g3 a0 10 14) fun b5 =>
  ob1 (sI g3 b5 (0 : Int32) (1 : Int32)) fun g7 =>
  ob1 (gR g7 a0 10 15) fun b9 =>
  ob1 (sI g7 b9 (0 : Int32) (0 : Int32)) fun g11 =>
  fX10_layWays_L28 a0 x1 (fun (g20 : AH) =>
    some g20
  ) lf (0 : Int32) (1 : Int32) (0 : Int32) g11
set_option maxHeartbeats 4000000 in
set_option maxRecDepth 100000 in
theorem wX10_layWays_L28 {p : Program} {l : Launch} {e : Env} {s : State} {m : MethodId} {args : Array Value} {below : List Frame} {meth : Method} {c : Code} {G : GG} {b0 : Nat} {h0 : AH} {a0 : Nat} {x1 : Int32} {hh : AH} (K : CX p s m args meth c cX10_layWays 5 RX10 (none) G b0) (ht : isO h0 a0 10) (k : AH → Option AH) (hk : ∀ (h : AH), k h = some hh → WA p l e rmX10_layWays s m args below meth c (MQ below (QG G b0 h0 none hh) args s (rmX10_layWays).cells (rmX10_layWays).slots (AB b0)) G b0 5 h0 0 0 h 60 [] []) : ∀ (n : Nat) (x2 : Int32) (x3 : Int32) (x4 : Int32) (h : AH), fX10_layWays_L28 a0 x1 k n x2 x3 x4 h = some hh → WA p l e rmX10_layWays s m args below meth c (MQ below (QG G b0 h0 none hh) args s (rmX10_layWays).cells (rmX10_layWays).slots (AB b0)) G b0 5 h0 0 0 h 28 [(0, .ref a0), (1, .int x1), (2, .int x2), (3, .int x3), (4, .int x4)] [] := by
  intro n
  induction n with
  | zero =>
    intro x2 x3 x4 h hf
    rw [fX10_layWays_L28] at hf
    cases hf
  | succ n ih =>
    intro x2 x3 x4 h hf
    rw [fX10_layWays_L28] at hf
    refine r_iload K 4 dX10_layWays_28 rfl ?_
    refine r_iconst (v := (5 : Int32)) K dX10_layWays_30 (by decide) ?_
    refine r_icmp_ge (tgt := 60) K dX10_layWays_31 (by decide) (fun c19 => ?_) (fun c19 => ?_)
    · replace hf := ite_t hf c19
      refine r_lv [] rfl ?_
      exact hk h hf
    · replace hf := ite_f hf c19
      refine r_iload_n K 3 dX10_layWays_34 rfl ?_
      refine r_if_le (tgt := 60) K dX10_layWays_35 (by decide) (fun c18 => ?_) (fun c18 => ?_)
      · replace hf := ite_t hf c18
        refine r_lv [] rfl ?_
        exact hk h hf
      · replace hf := ite_f hf c18
        refine r_aload_n K 0 dX10_layWays_38 rfl ?_
        refine r_iload_n K 1 dX10_layWays_39 rfl ?_
        refine r_iload_n K 2 dX10_layWays_40 rfl ?_
        refine r_iload_n K 3 dX10_layWays_41 rfl ?_
        refine r_iload K 4 dX10_layWays_42 rfl ?_
        obtain ⟨r13, g14, e15, hf⟩ := ob2_s hf
        refine r_callV (As := [.int x1, .int x2, .int x3, .int x4]) (rest := []) (st1 := [.int r13]) (cells1 := 0) (slots1 := 0) (b := a0) (ci := 10) K (fun z => mX10_longer l z e15) dX10_layWays_44 rfl (fun z => z _ _ ht) rfl ceX10_longer q_1138 q_1140 q_46 q_85 q_1141 ⟨Nat.le_of_ble_eq_true rfl, Nat.le_of_ble_eq_true rfl⟩ (Nat.le_of_ble_eq_true rfl) ⟨Nat.le_of_ble_eq_true rfl, Nat.le_of_ble_eq_true rfl⟩ ?_ rfl rfl rfl rfl
        refine r_istore_n (lv1 := [(3, .int r13), (0, .ref a0), (1, .int x1), (2, .int x2), (4, .int x4)]) K dX10_layWays_47 (by decide) rfl ?_
        refine r_sipush (v := (256 : Int32)) K dX10_layWays_48 (by decide) ?_
        refine r_iload_n K 3 dX10_layWays_51 rfl ?_
        refine r_isub K dX10_layWays_52 ?_
        obtain ⟨y16, ey16, hf⟩ := bnd_g hf
        refine r_nmi ey16 ?_
        refine r_istore_n (lv1 := [(2, .int y16), (3, .int r13), (0, .ref a0), (1, .int x1), (4, .int x4)]) K dX10_layWays_53 (by decide) rfl ?_
        obtain ⟨y17, ey17, hf⟩ := bnd_g hf
        refine r_iinc (lv1 := [(4, .int y17), (2, .int y16), (3, .int r13), (0, .ref a0), (1, .int x1)]) K 4 dX10_layWays_54 rfl (by rw [ey17]; rfl) (by decide) rfl ?_
        refine r_goto (tgt := 28) K dX10_layWays_57 (by decide) ?_
        refine r_lv [3, 4, 1, 2, 0] rfl ?_
        exact ih y16 r13 y17 g14 hf
set_option maxHeartbeats 4000000 in
set_option maxRecDepth 100000 in
theorem mX10_layWays (l : Launch) {G : GG} {b0 : Nat} {h : AH} {a0 : Nat} {x1 : Int32} {hh : AH} (ht : isO h a0 10) (hf : fX10_layWays a0 x1 h = some hh) : MM l yX10_layWays cX10_layWays 5 (none) rmX10_layWays G b0 h [.ref a0, .int x1] none hh := by
  refine MM.of (own := RX10) (lv0 := [(0, .ref a0), (1, .int x1)]) (by decide) rfl (Nat.le_of_ble_eq_true rfl) rfl ?_
  intro p e s m args below meth c K hnm
  unfold fX10_layWays at hf
  refine r_aload_n K 0 dX10_layWays_0 rfl ?_
  obtain ⟨b1, e2, hf⟩ := ob1_s hf
  refine r_getR (ci := 10) (k := 10) K dX10_layWays_1 inX10 rfl (by decide) rfl q_916 e2 ?_
  refine r_iload_n K 1 dX10_layWays_4 rfl ?_
  refine r_iconst (v := (0 : Int32)) K dX10_layWays_5 (by decide) ?_
  obtain ⟨g3, e4, hf⟩ := ob1_s hf
  refine r_iastore K dX10_layWays_6 e4 ?_
  refine r_aload_n K 0 dX10_layWays_7 rfl ?_
  obtain ⟨b5, e6, hf⟩ := ob1_s hf
  refine r_getR (ci := 10) (k := 14) K dX10_layWays_8 inX10 rfl (by decide) rfl q_920 e6 ?_
  refine r_iconst (v := (0 : Int32)) K dX10_layWays_11 (by decide) ?_
  refine r_iconst (v := (1 : Int32)) K dX10_layWays_12 (by decide) ?_
  obtain ⟨g7, e8, hf⟩ := ob1_s hf
  refine r_iastore K dX10_layWays_13 e8 ?_
  refine r_aload_n K 0 dX10_layWays_14 rfl ?_
  obtain ⟨b9, e10, hf⟩ := ob1_s hf
  refine r_getR (ci := 10) (k := 15) K dX10_layWays_15 inX10 rfl (by decide) rfl q_921 e10 ?_
  refine r_iconst (v := (0 : Int32)) K dX10_layWays_18 (by decide) ?_
  refine r_iconst (v := (0 : Int32)) K dX10_layWays_19 (by decide) ?_
  obtain ⟨g11, e12, hf⟩ := ob1_s hf
  refine r_iastore K dX10_layWays_20 e12 ?_
  refine r_iconst (v := (0 : Int32)) K dX10_layWays_21 (by decide) ?_
  refine r_istore_n (lv1 := [(2, .int (0 : Int32)), (0, .ref a0), (1, .int x1)]) K dX10_layWays_22 (by decide) rfl ?_
  refine r_iconst (v := (1 : Int32)) K dX10_layWays_23 (by decide) ?_
  refine r_istore_n (lv1 := [(3, .int (1 : Int32)), (2, .int (0 : Int32)), (0, .ref a0), (1, .int x1)]) K dX10_layWays_24 (by decide) rfl ?_
  refine r_iconst (v := (0 : Int32)) K dX10_layWays_25 (by decide) ?_
  refine r_istore (lv1 := [(4, .int (0 : Int32)), (3, .int (1 : Int32)), (2, .int (0 : Int32)), (0, .ref a0), (1, .int x1)]) K dX10_layWays_26 (by decide) rfl ?_
  refine r_lv [3, 4, 2, 1, 0] rfl ?_
  refine wX10_layWays_L28 K ht _ (fun g20 hf => ?_) lf (0 : Int32) (1 : Int32) (0 : Int32) g11 hf
  exact r_vret K dX10_layWays_60 hf (Nat.le_of_ble_eq_true rfl) (Nat.le_of_ble_eq_true rfl)
theorem ceX10_layAllWays : CE yX10_layAllWays 0 := ⟨by decide, by decide, by decide +kernel⟩
abbrev rmX10_layAllWays : Room := { frames := 3, cells := 0, slots := 0, locals := 80 }
def fX10_layAllWays_L2 (a0 : Nat) (k : AH → Option AH) : Nat → Int32 → AH → Option AH
  | 0, _, _ => none
  | n + 1, x1, h =>
    if (3 : Int32) ≤ x1 then
      k h
    else
      ob1 (fX10_layWays a0 x1 h) fun g1 =>
      bnd (x1 + (1 : Int32)) fun y3 =>
      fX10_layAllWays_L2 a0 k n y3 g1
def fX10_layAllWays (a0 : Nat) (h : AH) : Option AH :=
  fX10_layAllWays_L2 a0 (fun (g5 : AH) =>
    some g5
  ) lf (0 : Int32) h
set_option maxHeartbeats 4000000 in
set_option maxRecDepth 100000 in
theorem wX10_layAllWays_L2 {p : Program} {l : Launch} {e : Env} {s : State} {m : MethodId} {args : Array Value} {below : List Frame} {meth : Method} {c : Code} {G : GG} {b0 : Nat} {h0 : AH} {a0 : Nat} {hh : AH} (K : CX p s m args meth c cX10_layAllWays 2 RX10 (none) G b0) (ht : isO h0 a0 10) (k : AH → Option AH) (hk : ∀ (h : AH), k h = some hh → WA p l e rmX10_layAllWays s m args below meth c (MQ below (QG G b0 h0 none hh) args s (rmX10_layAllWays).cells (rmX10_layAllWays).slots (AB b0)) G b0 2 h0 0 0 h 18 [] []) : ∀ (n : Nat) (x1 : Int32) (h : AH), fX10_layAllWays_L2 a0 k n x1 h = some hh → WA p l e rmX10_layAllWays s m args below meth c (MQ below (QG G b0 h0 none hh) args s (rmX10_layAllWays).cells (rmX10_layAllWays).slots (AB b0)) G b0 2 h0 0 0 h 2 [(0, .ref a0), (1, .int x1)] [] := by
  intro n
  induction n with
  | zero =>
    intro x1 h hf
    rw [fX10_layAllWays_L2] at hf
    cases hf
  | succ n ih =>
    intro x1 h hf
    rw [fX10_layAllWays_L2] at hf
    refine r_iload_n K 1 dX10_layAllWays_2 rfl ?_
    refine r_iconst (v := (3 : Int32)) K dX10_layAllWays_3 (by decide) ?_
    refine r_icmp_ge (tgt := 18) K dX10_layAllWays_4 (by decide) (fun c4 => ?_) (fun c4 => ?_)
    · replace hf := ite_t hf c4
      refine r_lv [] rfl ?_
      exact hk h hf
    · replace hf := ite_f hf c4
      refine r_aload_n K 0 dX10_layAllWays_7 rfl ?_
      refine r_iload_n K 1 dX10_layAllWays_8 rfl ?_
      obtain ⟨g1, e2, hf⟩ := ob1_s hf
      refine r_callV (As := [.int x1]) (rest := []) (st1 := []) (cells1 := 0) (slots1 := 0) (b := a0) (ci := 10) K (fun z => mX10_layWays l z e2) dX10_layAllWays_9 rfl (fun z => z _ _ ht) rfl ceX10_layWays q_1134 q_1136 q_45 q_85 q_1137 ⟨Nat.le_of_ble_eq_true rfl, Nat.le_of_ble_eq_true rfl⟩ (Nat.le_of_ble_eq_true rfl) ⟨Nat.le_of_ble_eq_true rfl, Nat.le_of_ble_eq_true rfl⟩ ?_ rfl rfl rfl rfl
      obtain ⟨y3, ey3, hf⟩ := bnd_g hf
      refine r_iinc (lv1 := [(1, .int y3), (0, .ref a0)]) K 1 dX10_layAllWays_12 rfl (by rw [ey3]; rfl) (by decide) rfl ?_
      refine r_goto (tgt := 2) K dX10_layAllWays_15 (by decide) ?_
      refine r_lv [1, 0] rfl ?_
      exact ih y3 g1 hf
set_option maxHeartbeats 4000000 in
set_option maxRecDepth 100000 in
theorem mX10_layAllWays (l : Launch) {G : GG} {b0 : Nat} {h : AH} {a0 : Nat} {hh : AH} (ht : isO h a0 10) (hf : fX10_layAllWays a0 h = some hh) : MM l yX10_layAllWays cX10_layAllWays 2 (none) rmX10_layAllWays G b0 h [.ref a0] none hh := by
  refine MM.of (own := RX10) (lv0 := [(0, .ref a0)]) (by decide) rfl (Nat.le_of_ble_eq_true rfl) rfl ?_
  intro p e s m args below meth c K hnm
  unfold fX10_layAllWays at hf
  refine r_iconst (v := (0 : Int32)) K dX10_layAllWays_0 (by decide) ?_
  refine r_istore_n (lv1 := [(1, .int (0 : Int32)), (0, .ref a0)]) K dX10_layAllWays_1 (by decide) rfl ?_
  refine r_lv [1, 0] rfl ?_
  refine wX10_layAllWays_L2 K ht _ (fun g5 hf => ?_) lf (0 : Int32) h hf
  exact r_vret K dX10_layAllWays_18 hf (Nat.le_of_ble_eq_true rfl) (Nat.le_of_ble_eq_true rfl)
