theorem ceX1_priceAt : CE yX1_priceAt 4 := ⟨by decide, by decide, by decide +kernel⟩
abbrev rmX1_priceAt : Room := { frames := 1, cells := 0, slots := 0, locals := 23 }
def fX1_priceAt (a0 : Nat) (x1 : Int32) (x2 : Int32) (x3 : Int32) (x4 : Int32) (h : AH) : Option Int64 :=
  ob1 (gR h a0 1 2) fun b1 =>
  ob1 (aR h b1 4 x3) fun b3 =>
  gd (ckO h b3 3) <|
  ob1 (fX3_costAt b3 x4 h) fun r6 =>
  bnd (fun (y9 : Int64) =>
    ob1 (gR h a0 1 4) fun b10 =>
    ob1 (aR h b10 3 x2) fun b12 =>
    ob1 (aI h b12 0 (2 : Int32)) fun v14 =>
    bnd ((Int32.toInt64 v14) * y9) fun y16 =>
    if x1 = (1 : Int32) then
      ob1 (gR h a0 1 4) fun b17 =>
      ob1 (aR h b17 3 x2) fun b19 =>
      ob1 (aI h b19 0 (3 : Int32)) fun v21 =>
      ob1 (gR h a0 1 3) fun b23 =>
      ob1 (aL h b23 x3) fun v25 =>
      some (y16 + ((Int32.toInt64 v21) * v25))
    else
      some y16
  ) fun j8 =>
  if x1 = (2 : Int32) then
    ob1 (gR h a0 1 2) fun b28 =>
    ob1 (aR h b28 4 x3) fun b30 =>
    gd (ckO h b30 3) <|
    ob1 (fX3_lossAt b30 x4 h) fun r33 =>
    bnd (r6 + r33) fun y35 =>
    j8 y35
  else
    j8 r6
set_option maxHeartbeats 4000000 in
set_option maxRecDepth 100000 in
theorem mX1_priceAt (l : Launch) {G : GG} {b0 : Nat} {h : AH} {a0 : Nat} {x1 : Int32} {x2 : Int32} {x3 : Int32} {x4 : Int32} {rr : Int64} (ht : isO h a0 1) (hf : fX1_priceAt a0 x1 x2 x3 x4 h = some rr) : MM l yX1_priceAt cX1_priceAt 9 (some .long) rmX1_priceAt G b0 h [.ref a0, .int x1, .int x2, .int x3, .int x4] (some (.long rr)) h := by
  refine MM.of (own := RX1) (lv0 := [(0, .ref a0), (1, .int x1), (2, .int x2), (3, .int x3), (4, .int x4)]) (by decide) rfl (Nat.le_of_ble_eq_true rfl) rfl ?_
  intro p e s m args below meth c K hnm
  unfold fX1_priceAt at hf
  refine r_aload_n K 0 dX1_priceAt_0 rfl ?_
  obtain ⟨b1, e2, hf⟩ := ob1_s hf
  refine r_getR (ci := 1) (k := 2) K dX1_priceAt_1 inX1 rfl (by decide) rfl q_158 e2 ?_
  refine r_iload_n K 3 dX1_priceAt_4 rfl ?_
  obtain ⟨b3, e4, hf⟩ := ob1_s hf
  refine r_aaload (kd := 4) (ty := .object RX3) K dX1_priceAt_5 rfl rfl e4 ?_
  refine r_iload K 4 dX1_priceAt_6 rfl ?_
  obtain ⟨z5, hf⟩ := gd_s hf
  obtain ⟨r6, e7, hf⟩ := ob1_s hf
  refine r_callV (As := [.int x4]) (rest := []) (st1 := [.long r6]) (cells1 := 0) (slots1 := 0) (b := b3) (ci := 3) K (fun z => mX3_costAt l z e7) dX1_priceAt_8 rfl (fun _ => isO_of z5) rfl ceX3_costAt q_635 q_476 q_477 q_77 q_478 ⟨Nat.le_of_ble_eq_true rfl, Nat.le_of_ble_eq_true rfl⟩ (Nat.le_of_ble_eq_true rfl) ⟨Nat.le_of_ble_eq_true rfl, Nat.le_of_ble_eq_true rfl⟩ ?_ rfl rfl rfl rfl
  refine r_lstore (lv1 := [(5, .long r6), (0, .ref a0), (1, .int x1), (2, .int x2), (3, .int x3), (4, .int x4)]) K dX1_priceAt_11 (by decide) rfl ?_
  refine r_iload_n K 2 dX1_priceAt_13 rfl ?_
  refine r_iconst (v := (2 : Int32)) K dX1_priceAt_14 (by decide) ?_
  obtain ⟨j8, ej8, hf⟩ := bnd_g hf
  have Jj8 : ∀ (y9 : Int64), j8 y9 = some rr → WA p l e rmX1_priceAt s m args below meth c (MQ below (QG G b0 h (some (.long rr)) h) args s (rmX1_priceAt).cells (rmX1_priceAt).slots (AB b0)) G b0 9 h 0 0 h 34 [(0, .ref a0), (1, .int x1), (2, .int x2), (3, .int x3), (5, .long y9)] [] := by
    intro y9 hf
    rw [ej8] at hf
    refine r_aload_n K 0 dX1_priceAt_34 rfl ?_
    obtain ⟨b10, e11, hf⟩ := ob1_s hf
    refine r_getR (ci := 1) (k := 4) K dX1_priceAt_35 inX1 rfl (by decide) rfl q_164 e11 ?_
    refine r_iload_n K 2 dX1_priceAt_38 rfl ?_
    obtain ⟨b12, e13, hf⟩ := ob1_s hf
    refine r_aaload (kd := 3) (ty := .array .int) K dX1_priceAt_39 rfl rfl e13 ?_
    refine r_iconst (v := (2 : Int32)) K dX1_priceAt_40 (by decide) ?_
    obtain ⟨v14, e15, hf⟩ := ob1_s hf
    refine r_iaload K dX1_priceAt_41 e15 ?_
    refine r_i2l K dX1_priceAt_42 ?_
    refine r_lload K 4 dX1_priceAt_43 rfl ?_
    refine r_lmul K dX1_priceAt_45 ?_
    obtain ⟨y16, ey16, hf⟩ := bnd_g hf
    refine r_nml ey16 ?_
    refine r_lstore (lv1 := [(7, .long y16), (0, .ref a0), (1, .int x1), (2, .int x2), (3, .int x3), (5, .long y9)]) K dX1_priceAt_46 (by decide) rfl ?_
    refine r_iload_n K 2 dX1_priceAt_48 rfl ?_
    refine r_iconst (v := (1 : Int32)) K dX1_priceAt_49 (by decide) ?_
    refine r_icmp_ne (tgt := 75) K dX1_priceAt_50 (by decide) (fun c27 => ?_) (fun c27 => ?_)
    · replace hf := ite_f hf c27
      refine r_lload K 0 dX1_priceAt_75 rfl ?_
      exact r_lret K dX1_priceAt_77 (retp hf) (Nat.le_of_ble_eq_true rfl) (Nat.le_of_ble_eq_true rfl)
    · replace hf := ite_t hf c27
      refine r_lload K 0 dX1_priceAt_53 rfl ?_
      refine r_aload_n K 1 dX1_priceAt_55 rfl ?_
      obtain ⟨b17, e18, hf⟩ := ob1_s hf
      refine r_getR (ci := 1) (k := 4) K dX1_priceAt_56 inX1 rfl (by decide) rfl q_164 e18 ?_
      refine r_iload_n K 3 dX1_priceAt_59 rfl ?_
      obtain ⟨b19, e20, hf⟩ := ob1_s hf
      refine r_aaload (kd := 3) (ty := .array .int) K dX1_priceAt_60 rfl rfl e20 ?_
      refine r_iconst (v := (3 : Int32)) K dX1_priceAt_61 (by decide) ?_
      obtain ⟨v21, e22, hf⟩ := ob1_s hf
      refine r_iaload K dX1_priceAt_62 e22 ?_
      refine r_i2l K dX1_priceAt_63 ?_
      refine r_aload_n K 1 dX1_priceAt_64 rfl ?_
      obtain ⟨b23, e24, hf⟩ := ob1_s hf
      refine r_getR (ci := 1) (k := 3) K dX1_priceAt_65 inX1 rfl (by decide) rfl q_162 e24 ?_
      refine r_iload_n K 4 dX1_priceAt_68 rfl ?_
      obtain ⟨v25, e26, hf⟩ := ob1_s hf
      refine r_laload K dX1_priceAt_69 e26 ?_
      refine r_lmul K dX1_priceAt_70 ?_
      refine r_ladd K dX1_priceAt_71 ?_
      refine r_goto (tgt := 77) K dX1_priceAt_72 (by decide) ?_
      exact r_lret K dX1_priceAt_77 (retp hf) (Nat.le_of_ble_eq_true rfl) (Nat.le_of_ble_eq_true rfl)
  refine r_icmp_ne (tgt := 34) K dX1_priceAt_15 (by decide) (fun c36 => ?_) (fun c36 => ?_)
  · replace hf := ite_f hf c36
    refine r_lv [1, 2, 3, 4, 0] rfl ?_
    exact Jj8 r6 hf
  · replace hf := ite_t hf c36
    refine r_lload K 0 dX1_priceAt_18 rfl ?_
    refine r_aload_n K 1 dX1_priceAt_20 rfl ?_
    obtain ⟨b28, e29, hf⟩ := ob1_s hf
    refine r_getR (ci := 1) (k := 2) K dX1_priceAt_21 inX1 rfl (by decide) rfl q_158 e29 ?_
    refine r_iload_n K 4 dX1_priceAt_24 rfl ?_
    obtain ⟨b30, e31, hf⟩ := ob1_s hf
    refine r_aaload (kd := 4) (ty := .object RX3) K dX1_priceAt_25 rfl rfl e31 ?_
    refine r_iload K 5 dX1_priceAt_26 rfl ?_
    obtain ⟨z32, hf⟩ := gd_s hf
    obtain ⟨r33, e34, hf⟩ := ob1_s hf
    refine r_callV (As := [.int x4]) (rest := [.long r6]) (st1 := [.long r33, .long r6]) (cells1 := 0) (slots1 := 0) (b := b30) (ci := 3) K (fun z => mX3_lossAt l z e34) dX1_priceAt_28 rfl (fun _ => isO_of z32) rfl ceX3_lossAt q_636 q_480 q_481 q_77 q_482 ⟨Nat.le_of_ble_eq_true rfl, Nat.le_of_ble_eq_true rfl⟩ (Nat.le_of_ble_eq_true rfl) ⟨Nat.le_of_ble_eq_true rfl, Nat.le_of_ble_eq_true rfl⟩ ?_ rfl rfl rfl rfl
    refine r_ladd K dX1_priceAt_31 ?_
    obtain ⟨y35, ey35, hf⟩ := bnd_g hf
    refine r_nml ey35 ?_
    refine r_lstore (lv1 := [(5, .long y35), (0, .ref a0), (1, .int x1), (2, .int x2), (3, .int x3), (4, .int x4)]) K dX1_priceAt_32 (by decide) rfl ?_
    refine r_lv [1, 2, 3, 4, 0] rfl ?_
    exact Jj8 y35 hf
theorem ceX5_init : CE yX5_init 0 := ⟨by decide, by decide, by decide +kernel⟩
abbrev rmX5_init : Room := { frames := 2, cells := 9, slots := 888, locals := 40 }
def fX5_init (a0 : Nat) (h : AH) : Option AH :=
  bnd h.1 fun b1 =>
  bnd (hnew h (.inl (0, 13, .inl (fun _ => 0)))) fun g2 =>
  ob1 (pV g2 a0 5 0 (.ref b1)) fun g3 =>
  bnd g3.1 fun b5 =>
  bnd (hgrid g3 3 211) fun g6 =>
  ob1 (pV g6 a0 5 1 (.ref b5)) fun g7 =>
  bnd g7.1 fun b9 =>
  bnd (hnew g7 (.inr (6, [.long 0, .int 0]))) fun g10 =>
  ob1 (fX6_init b9 g10) fun g11 =>
  ob1 (pV g11 a0 5 2 (.ref b9)) fun g13 =>
  ob1 (pV g13 a0 5 3 (.int (0 : Int32))) fun g15 =>
  ob1 (pV g15 a0 5 4 (.int (0 : Int32))) fun g17 =>
  bnd g17.1 fun b19 =>
  bnd (hnew g17 (.inl (1, 13, .inr (.inl (fun _ => 0))))) fun g20 =>
  ob1 (pV g20 a0 5 5 (.ref b19)) fun g21 =>
  bnd g21.1 fun b23 =>
  bnd (hnew g21 (.inl (1, 13, .inr (.inl (fun _ => 0))))) fun g24 =>
  ob1 (pV g24 a0 5 6 (.ref b23)) fun g25 =>
  bnd g25.1 fun b27 =>
  bnd (hnew g25 (.inl (1, 211, .inr (.inl (fun _ => 0))))) fun g28 =>
  ob1 (pV g28 a0 5 7 (.ref b27)) fun g29 =>
  some g29
set_option maxHeartbeats 4000000 in
set_option maxRecDepth 100000 in
theorem mX5_init (l : Launch) {G : GG} {b0 : Nat} {h : AH} {a0 : Nat} {hh : AH} (ht : isO h a0 5) (hf : fX5_init a0 h = some hh) : MM l yX5_init cX5_init 1 (none) rmX5_init G b0 h [.ref a0] none hh := by
  refine MM.of (own := RX5) (lv0 := [(0, .ref a0)]) (by decide) rfl (Nat.le_of_ble_eq_true rfl) rfl ?_
  intro p e s m args below meth c K hnm
  unfold fX5_init at hf
  refine r_aload_n K 0 dX5_init_0 rfl ?_
  refine r_objInit K dX5_init_1 q_264 q_97 q_98 (Nat.le_of_ble_eq_true rfl) (Nat.le_of_ble_eq_true rfl) ?_
  refine r_aload_n K 0 dX5_init_4 rfl ?_
  refine r_bipush (v := (13 : Int32)) K dX5_init_5 (by decide) ?_
  obtain ⟨b1, eb1, hf⟩ := bnd_g hf
  obtain ⟨g2, eg2, hf⟩ := bnd_g hf
  refine r_newa0 (cells1 := 1) (slots1 := 13) K dX5_init_7 q_148 (by decide) (by decide) (by decide) eb1 eg2 rfl rfl (Nat.le_of_ble_eq_true rfl) (Nat.le_of_ble_eq_true rfl) ?_
  obtain ⟨g3, e4, hf⟩ := ob1_s hf
  refine r_putF (ci := 5) (k := 0) (ty0 := tyX5) (ty := tyX5 0) K dX5_init_9 inX5 rfl (by decide) rfl q_268 tyX5_ok nmX5 rfl hnm rfl rfl rfl rfl e4 ?_
  refine r_aload_n K 0 dX5_init_12 rfl ?_
  refine r_iconst (v := (3 : Int32)) K dX5_init_13 (by decide) ?_
  refine r_sipush (v := (211 : Int32)) K dX5_init_14 (by decide) ?_
  obtain ⟨b5, eb5, hf⟩ := bnd_g hf
  obtain ⟨g6, eg6, hf⟩ := bnd_g hf
  refine r_grid (N := 3) (M := 211) (cells1 := 5) (slots1 := 649) K dX5_init_17 q_265 q_148 (by decide) (by decide) (by decide) (by decide) (by decide) eb5 eg6 rfl rfl (Nat.le_of_ble_eq_true rfl) (Nat.le_of_ble_eq_true rfl) ?_
  obtain ⟨g7, e8, hf⟩ := ob1_s hf
  refine r_putF (ci := 5) (k := 1) (ty0 := tyX5) (ty := tyX5 1) K dX5_init_21 inX5 rfl (by decide) rfl q_270 tyX5_ok nmX5 rfl hnm rfl rfl rfl rfl e8 ?_
  refine r_aload_n K 0 dX5_init_24 rfl ?_
  obtain ⟨b9, eb9, hf⟩ := bnd_g hf
  obtain ⟨g10, eg10, hf⟩ := bnd_g hf
  have ob9 : isO g10 b9 6 := isO_new eb9 eg10
  refine r_new (ci := 6) (N := 2) (ty0 := tyX6) (cells1 := 6) (slots1 := 651) K dX5_init_25 inX6 rfl tyX6_ok q_266 q_223 q_80 (fun j hj => by match j, hj with | 0, _ => rfl | 1, _ => rfl) eb9 eg10 rfl rfl (Nat.le_of_ble_eq_true rfl) (Nat.le_of_ble_eq_true rfl) ?_
  refine r_dup K dX5_init_28 rfl ?_
  obtain ⟨g11, e12, hf⟩ := ob1_s hf
  refine r_callIN (As := []) (rest := [.ref b9, .ref a0]) (st1 := [.ref b9, .ref a0]) (cells1 := 6) (slots1 := 651) (rt := none) (b := b9) K (mX6_init l ob9 e12) dX5_init_29 rfl ceX6_init nw_3 q_225 q_80 q_226 ⟨Nat.le_of_ble_eq_true rfl, Nat.le_of_ble_eq_true rfl⟩ (Nat.le_of_ble_eq_true rfl) ⟨Nat.le_of_ble_eq_true rfl, Nat.le_of_ble_eq_true rfl⟩ ?_ rfl rfl rfl rfl
  obtain ⟨g13, e14, hf⟩ := ob1_s hf
  refine r_putF (ci := 5) (k := 2) (ty0 := tyX5) (ty := tyX5 2) K dX5_init_32 inX5 rfl (by decide) rfl q_272 tyX5_ok nmX5 rfl hnm rfl rfl rfl rfl e14 ?_
  refine r_aload_n K 0 dX5_init_35 rfl ?_
  refine r_iconst (v := (0 : Int32)) K dX5_init_36 (by decide) ?_
  obtain ⟨g15, e16, hf⟩ := ob1_s hf
  refine r_putV (ci := 5) (k := 3) (ty0 := tyX5) (ty := tyX5 3) K dX5_init_37 inX5 rfl (by decide) rfl q_274 tyX5_ok nmX5 rfl rfl rfl rfl e16 ?_
  refine r_aload_n K 0 dX5_init_40 rfl ?_
  refine r_iconst (v := (0 : Int32)) K dX5_init_41 (by decide) ?_
  obtain ⟨g17, e18, hf⟩ := ob1_s hf
  refine r_putV (ci := 5) (k := 4) (ty0 := tyX5) (ty := tyX5 4) K dX5_init_42 inX5 rfl (by decide) rfl q_276 tyX5_ok nmX5 rfl rfl rfl rfl e18 ?_
  refine r_aload_n K 0 dX5_init_45 rfl ?_
  refine r_bipush (v := (13 : Int32)) K dX5_init_46 (by decide) ?_
  obtain ⟨b19, eb19, hf⟩ := bnd_g hf
  obtain ⟨g20, eg20, hf⟩ := bnd_g hf
  refine r_newa1 (cells1 := 7) (slots1 := 664) K dX5_init_48 q_147 (by decide) (by decide) (by decide) eb19 eg20 rfl rfl (Nat.le_of_ble_eq_true rfl) (Nat.le_of_ble_eq_true rfl) ?_
  obtain ⟨g21, e22, hf⟩ := ob1_s hf
  refine r_putF (ci := 5) (k := 5) (ty0 := tyX5) (ty := tyX5 5) K dX5_init_50 inX5 rfl (by decide) rfl q_278 tyX5_ok nmX5 rfl hnm rfl rfl rfl rfl e22 ?_
  refine r_aload_n K 0 dX5_init_53 rfl ?_
  refine r_bipush (v := (13 : Int32)) K dX5_init_54 (by decide) ?_
  obtain ⟨b23, eb23, hf⟩ := bnd_g hf
  obtain ⟨g24, eg24, hf⟩ := bnd_g hf
  refine r_newa1 (cells1 := 8) (slots1 := 677) K dX5_init_56 q_147 (by decide) (by decide) (by decide) eb23 eg24 rfl rfl (Nat.le_of_ble_eq_true rfl) (Nat.le_of_ble_eq_true rfl) ?_
  obtain ⟨g25, e26, hf⟩ := ob1_s hf
  refine r_putF (ci := 5) (k := 6) (ty0 := tyX5) (ty := tyX5 6) K dX5_init_58 inX5 rfl (by decide) rfl q_279 tyX5_ok nmX5 rfl hnm rfl rfl rfl rfl e26 ?_
  refine r_aload_n K 0 dX5_init_61 rfl ?_
  refine r_sipush (v := (211 : Int32)) K dX5_init_62 (by decide) ?_
  obtain ⟨b27, eb27, hf⟩ := bnd_g hf
  obtain ⟨g28, eg28, hf⟩ := bnd_g hf
  refine r_newa1 (cells1 := 9) (slots1 := 888) K dX5_init_65 q_147 (by decide) (by decide) (by decide) eb27 eg28 rfl rfl (Nat.le_of_ble_eq_true rfl) (Nat.le_of_ble_eq_true rfl) ?_
  obtain ⟨g29, e30, hf⟩ := ob1_s hf
  refine r_putF (ci := 5) (k := 7) (ty0 := tyX5) (ty := tyX5 7) K dX5_init_67 inX5 rfl (by decide) rfl q_280 tyX5_ok nmX5 rfl hnm rfl rfl rfl rfl e30 ?_
  exact r_vret K dX5_init_70 hf (Nat.le_of_ble_eq_true rfl) (Nat.le_of_ble_eq_true rfl)
theorem ceX5_leastRow : CE yX5_leastRow 3 := ⟨by decide, by decide, by decide +kernel⟩
abbrev rmX5_leastRow : Room := { frames := 0, cells := 0, slots := 0, locals := 0 }
def fX5_leastRow_L6 (a0 : Nat) (a1 : Nat) (x2 : Int32) (x3 : Int32) (k : Int32 → AH → Option (Int32 × AH)) : Nat → Int32 → Int32 → AH → Option (Int32 × AH)
  | 0, _, _, _ => none
  | n + 1, x4, x5, h =>
    ob1 (gI h a1 2 0) fun v1 =>
    if v1 ≤ x5 then
      k x4 h
    else
      ob1 (gR h a1 2 2) fun b3 =>
      ob1 (aI h b3 0 x5) fun v5 =>
      bnd (fun (v8 : Int64) =>
        ob1 (gR h a0 5 7) fun b9 =>
        ob1 (gR h a0 5 7) fun b11 =>
        ob1 (gR h a1 2 1) fun b13 =>
        ob1 (aI h b13 0 x5) fun v15 =>
        ob1 (aL h b11 v15) fun v17 =>
        ob1 (sL h b9 x5 (v17 + v8)) fun g19 =>
        ob1 (gR g19 a1 2 3) fun b21 =>
        ob1 (aI g19 b21 0 x5) fun v23 =>
        if v23 = x2 then
          if x4 < (0 : Int32) then
            bnd (x5 + (1 : Int32)) fun y26 =>
            fX5_leastRow_L6 a0 a1 x2 x3 k n x5 y26 g19
          else
            ob1 (gR g19 a0 5 7) fun b27 =>
            ob1 (aL g19 b27 x5) fun v29 =>
            ob1 (gR g19 a0 5 7) fun b31 =>
            ob1 (aL g19 b31 x4) fun v33 =>
            if v33 ≤ v29 then
              bnd (x5 + (1 : Int32)) fun y35 =>
              fX5_leastRow_L6 a0 a1 x2 x3 k n x4 y35 g19
            else
              bnd (x5 + (1 : Int32)) fun y36 =>
              fX5_leastRow_L6 a0 a1 x2 x3 k n x5 y36 g19
        else
          bnd (x5 + (1 : Int32)) fun y25 =>
          fX5_leastRow_L6 a0 a1 x2 x3 k n x4 y25 g19
      ) fun j7 =>
      if ((x3 >>> (v5 &&& 31)) &&& (1 : Int32)) = (1 : Int32) then
        ob1 (gR h a0 5 5) fun b44 =>
        ob1 (aL h b44 v5) fun v46 =>
        j7 v46
      else
        ob1 (gR h a0 5 6) fun b40 =>
        ob1 (aL h b40 v5) fun v42 =>
        j7 v42
def fX5_leastRow (a0 : Nat) (a1 : Nat) (x2 : Int32) (x3 : Int32) (h : AH) : Option (Int32 × AH) :=
  fX5_leastRow_L6 a0 a1 x2 x3 (fun (y50 : Int32) (g51 : AH) =>
    some (y50, g51)
  ) lf (-1 : Int32) (1 : Int32) h
set_option maxHeartbeats 4000000 in
set_option maxRecDepth 100000 in
theorem wX5_leastRow_L6 {p : Program} {l : Launch} {e : Env} {s : State} {m : MethodId} {args : Array Value} {below : List Frame} {meth : Method} {c : Code} {G : GG} {b0 : Nat} {h0 : AH} {a0 : Nat} {a1 : Nat} {x2 : Int32} {x3 : Int32} {rr : Int32} {hh : AH} (K : CX p s m args meth c cX5_leastRow 9 RX5 (some .int) G b0) (ht : isO h0 a0 5) (k : Int32 → AH → Option (Int32 × AH)) (hk : ∀ (x4 : Int32) (h : AH), k x4 h = some (rr, hh) → WA p l e rmX5_leastRow s m args below meth c (MQ below (QG G b0 h0 (some (.int rr)) hh) args s (rmX5_leastRow).cells (rmX5_leastRow).slots (AB b0)) G b0 9 h0 0 0 h 119 [(4, .int x4)] []) : ∀ (n : Nat) (x4 : Int32) (x5 : Int32) (h : AH), fX5_leastRow_L6 a0 a1 x2 x3 k n x4 x5 h = some (rr, hh) → WA p l e rmX5_leastRow s m args below meth c (MQ below (QG G b0 h0 (some (.int rr)) hh) args s (rmX5_leastRow).cells (rmX5_leastRow).slots (AB b0)) G b0 9 h0 0 0 h 6 [(0, .ref a0), (1, .ref a1), (2, .int x2), (3, .int x3), (4, .int x4), (5, .int x5)] [] := by
  intro n
  induction n with
  | zero =>
    intro x4 x5 h hf
    rw [fX5_leastRow_L6] at hf
    cases hf
  | succ n ih =>
    intro x4 x5 h hf
    rw [fX5_leastRow_L6] at hf
    refine r_iload K 5 dX5_leastRow_6 rfl ?_
    refine r_aload_n K 1 dX5_leastRow_8 rfl ?_
    obtain ⟨v1, e2, hf⟩ := ob1_s hf
    refine r_getI (ci := 2) (k := 0) K dX5_leastRow_9 inX2 rfl (by decide) rfl q_186 e2 ?_
    refine r_icmp_ge (tgt := 119) K dX5_leastRow_12 (by decide) (fun c49 => ?_) (fun c49 => ?_)
    · replace hf := ite_t hf c49
      refine r_lv [4] rfl ?_
      exact hk x4 h hf
    · replace hf := ite_f hf c49
      refine r_aload_n K 1 dX5_leastRow_15 rfl ?_
      obtain ⟨b3, e4, hf⟩ := ob1_s hf
      refine r_getR (ci := 2) (k := 2) K dX5_leastRow_16 inX2 rfl (by decide) rfl q_191 e4 ?_
      refine r_iload K 5 dX5_leastRow_19 rfl ?_
      obtain ⟨v5, e6, hf⟩ := ob1_s hf
      refine r_iaload K dX5_leastRow_21 e6 ?_
      refine r_istore (lv1 := [(6, .int v5), (0, .ref a0), (1, .ref a1), (2, .int x2), (3, .int x3), (4, .int x4), (5, .int x5)]) K dX5_leastRow_22 (by decide) rfl ?_
      refine r_iload_n K 4 dX5_leastRow_24 rfl ?_
      refine r_iload K 0 dX5_leastRow_25 rfl ?_
      refine r_ishr K dX5_leastRow_27 ?_
      refine r_iconst (v := (1 : Int32)) K dX5_leastRow_28 (by decide) ?_
      refine r_iand K dX5_leastRow_29 ?_
      refine r_iconst (v := (1 : Int32)) K dX5_leastRow_30 (by decide) ?_
      obtain ⟨j7, ej7, hf⟩ := bnd_g hf
      have Jj7 : ∀ (v8 : Int64), j7 v8 = some (rr, hh) → WA p l e rmX5_leastRow s m args below meth c (MQ below (QG G b0 h0 (some (.int rr)) hh) args s (rmX5_leastRow).cells (rmX5_leastRow).slots (AB b0)) G b0 9 h0 0 0 h 51 [(0, .ref a0), (1, .ref a1), (2, .int x2), (3, .int x3), (4, .int x4), (5, .int x5)] [.long v8] := by
        intro v8 hf
        rw [ej7] at hf
        refine r_lstore (lv1 := [(7, .long v8), (0, .ref a0), (1, .ref a1), (2, .int x2), (3, .int x3), (4, .int x4), (5, .int x5)]) K dX5_leastRow_51 (by decide) rfl ?_
        refine r_aload_n K 1 dX5_leastRow_53 rfl ?_
        obtain ⟨b9, e10, hf⟩ := ob1_s hf
        refine r_getR (ci := 5) (k := 7) K dX5_leastRow_54 inX5 rfl (by decide) rfl q_280 e10 ?_
        refine r_iload K 6 dX5_leastRow_57 rfl ?_
        refine r_aload_n K 1 dX5_leastRow_59 rfl ?_
        obtain ⟨b11, e12, hf⟩ := ob1_s hf
        refine r_getR (ci := 5) (k := 7) K dX5_leastRow_60 inX5 rfl (by decide) rfl q_280 e12 ?_
        refine r_aload_n K 2 dX5_leastRow_63 rfl ?_
        obtain ⟨b13, e14, hf⟩ := ob1_s hf
        refine r_getR (ci := 2) (k := 1) K dX5_leastRow_64 inX2 rfl (by decide) rfl q_189 e14 ?_
        refine r_iload K 6 dX5_leastRow_67 rfl ?_
        obtain ⟨v15, e16, hf⟩ := ob1_s hf
        refine r_iaload K dX5_leastRow_69 e16 ?_
        obtain ⟨v17, e18, hf⟩ := ob1_s hf
        refine r_laload K dX5_leastRow_70 e18 ?_
        refine r_lload K 0 dX5_leastRow_71 rfl ?_
        refine r_ladd K dX5_leastRow_73 ?_
        obtain ⟨g19, e20, hf⟩ := ob1_s hf
        refine r_lastore K dX5_leastRow_74 e20 ?_
        refine r_aload_n K 2 dX5_leastRow_75 rfl ?_
        obtain ⟨b21, e22, hf⟩ := ob1_s hf
        refine r_getR (ci := 2) (k := 3) K dX5_leastRow_76 inX2 rfl (by decide) rfl q_193 e22 ?_
        refine r_iload K 6 dX5_leastRow_79 rfl ?_
        obtain ⟨v23, e24, hf⟩ := ob1_s hf
        refine r_iaload K dX5_leastRow_81 e24 ?_
        refine r_iload_n K 3 dX5_leastRow_82 rfl ?_
        refine r_icmp_ne (tgt := 113) K dX5_leastRow_83 (by decide) (fun c39 => ?_) (fun c39 => ?_)
        · replace hf := ite_f hf c39
          obtain ⟨y25, ey25, hf⟩ := bnd_g hf
          refine r_iinc (lv1 := [(5, .int y25), (7, .long v8), (0, .ref a0), (1, .ref a1), (2, .int x2), (3, .int x3), (4, .int x4)]) K 6 dX5_leastRow_113 rfl (by rw [ey25]; rfl) (by decide) rfl ?_
          refine r_goto (tgt := 6) K dX5_leastRow_116 (by decide) ?_
          refine r_lv [2, 3, 4, 5, 6, 0] rfl ?_
          exact ih x4 y25 g19 hf
        · replace hf := ite_t hf c39
          refine r_iload K 5 dX5_leastRow_86 rfl ?_
          refine r_if_lt (tgt := 109) K dX5_leastRow_88 (by decide) (fun c38 => ?_) (fun c38 => ?_)
          · replace hf := ite_t hf c38
            refine r_iload K 6 dX5_leastRow_109 rfl ?_
            refine r_istore (lv1 := [(4, .int x5), (7, .long v8), (0, .ref a0), (1, .ref a1), (2, .int x2), (3, .int x3), (5, .int x5)]) K dX5_leastRow_111 (by decide) rfl ?_
            obtain ⟨y26, ey26, hf⟩ := bnd_g hf
            refine r_iinc (lv1 := [(5, .int y26), (4, .int x5), (7, .long v8), (0, .ref a0), (1, .ref a1), (2, .int x2), (3, .int x3)]) K 6 dX5_leastRow_113 rfl (by rw [ey26]; rfl) (by decide) rfl ?_
            refine r_goto (tgt := 6) K dX5_leastRow_116 (by decide) ?_
            refine r_lv [3, 4, 5, 6, 1, 0] rfl ?_
            exact ih x5 y26 g19 hf
          · replace hf := ite_f hf c38
            refine r_aload_n K 1 dX5_leastRow_91 rfl ?_
            obtain ⟨b27, e28, hf⟩ := ob1_s hf
            refine r_getR (ci := 5) (k := 7) K dX5_leastRow_92 inX5 rfl (by decide) rfl q_280 e28 ?_
            refine r_iload K 6 dX5_leastRow_95 rfl ?_
            obtain ⟨v29, e30, hf⟩ := ob1_s hf
            refine r_laload K dX5_leastRow_97 e30 ?_
            refine r_aload_n K 1 dX5_leastRow_98 rfl ?_
            obtain ⟨b31, e32, hf⟩ := ob1_s hf
            refine r_getR (ci := 5) (k := 7) K dX5_leastRow_99 inX5 rfl (by decide) rfl q_280 e32 ?_
            refine r_iload K 5 dX5_leastRow_102 rfl ?_
            obtain ⟨v33, e34, hf⟩ := ob1_s hf
            refine r_laload K dX5_leastRow_104 e34 ?_
            refine r_lif_ge (tgt := 113) K dX5_leastRow_105 dX5_leastRow_106 (by decide) (fun c37 => ?_) (fun c37 => ?_)
            · replace hf := ite_t hf c37
              obtain ⟨y35, ey35, hf⟩ := bnd_g hf
              refine r_iinc (lv1 := [(5, .int y35), (7, .long v8), (0, .ref a0), (1, .ref a1), (2, .int x2), (3, .int x3), (4, .int x4)]) K 6 dX5_leastRow_113 rfl (by rw [ey35]; rfl) (by decide) rfl ?_
              refine r_goto (tgt := 6) K dX5_leastRow_116 (by decide) ?_
              refine r_lv [2, 3, 4, 5, 6, 0] rfl ?_
              exact ih x4 y35 g19 hf
            · replace hf := ite_f hf c37
              refine r_iload K 6 dX5_leastRow_109 rfl ?_
              refine r_istore (lv1 := [(4, .int x5), (7, .long v8), (0, .ref a0), (1, .ref a1), (2, .int x2), (3, .int x3), (5, .int x5)]) K dX5_leastRow_111 (by decide) rfl ?_
              obtain ⟨y36, ey36, hf⟩ := bnd_g hf
              refine r_iinc (lv1 := [(5, .int y36), (4, .int x5), (7, .long v8), (0, .ref a0), (1, .ref a1), (2, .int x2), (3, .int x3)]) K 6 dX5_leastRow_113 rfl (by rw [ey36]; rfl) (by decide) rfl ?_
              refine r_goto (tgt := 6) K dX5_leastRow_116 (by decide) ?_
              refine r_lv [3, 4, 5, 6, 1, 0] rfl ?_
              exact ih x5 y36 g19 hf
      refine r_icmp_ne (tgt := 44) K dX5_leastRow_31 (by decide) (fun c48 => ?_) (fun c48 => ?_)
      · replace hf := ite_f hf c48
        refine r_aload_n K 1 dX5_leastRow_44 rfl ?_
        obtain ⟨b40, e41, hf⟩ := ob1_s hf
        refine r_getR (ci := 5) (k := 6) K dX5_leastRow_45 inX5 rfl (by decide) rfl q_279 e41 ?_
        refine r_iload K 0 dX5_leastRow_48 rfl ?_
        obtain ⟨v42, e43, hf⟩ := ob1_s hf
        refine r_laload K dX5_leastRow_50 e43 ?_
        refine r_lv [1, 2, 3, 4, 5, 6] rfl ?_
        exact Jj7 v42 hf
      · replace hf := ite_t hf c48
        refine r_aload_n K 1 dX5_leastRow_34 rfl ?_
        obtain ⟨b44, e45, hf⟩ := ob1_s hf
        refine r_getR (ci := 5) (k := 5) K dX5_leastRow_35 inX5 rfl (by decide) rfl q_278 e45 ?_
        refine r_iload K 0 dX5_leastRow_38 rfl ?_
        obtain ⟨v46, e47, hf⟩ := ob1_s hf
        refine r_laload K dX5_leastRow_40 e47 ?_
        refine r_goto (tgt := 51) K dX5_leastRow_41 (by decide) ?_
        refine r_lv [1, 2, 3, 4, 5, 6] rfl ?_
        exact Jj7 v46 hf
set_option maxHeartbeats 4000000 in
set_option maxRecDepth 100000 in
theorem mX5_leastRow (l : Launch) {G : GG} {b0 : Nat} {h : AH} {a0 : Nat} {a1 : Nat} {x2 : Int32} {x3 : Int32} {rr : Int32} {hh : AH} (ht : isO h a0 5) (hf : fX5_leastRow a0 a1 x2 x3 h = some (rr, hh)) : MM l yX5_leastRow cX5_leastRow 9 (some .int) rmX5_leastRow G b0 h [.ref a0, .ref a1, .int x2, .int x3] (some (.int rr)) hh := by
  refine MM.of (own := RX5) (lv0 := [(0, .ref a0), (1, .ref a1), (2, .int x2), (3, .int x3)]) (by decide) rfl (Nat.le_of_ble_eq_true rfl) rfl ?_
  intro p e s m args below meth c K hnm
  unfold fX5_leastRow at hf
  refine r_iconst (v := (-1 : Int32)) K dX5_leastRow_0 (by decide) ?_
  refine r_istore (lv1 := [(4, .int (-1 : Int32)), (0, .ref a0), (1, .ref a1), (2, .int x2), (3, .int x3)]) K dX5_leastRow_1 (by decide) rfl ?_
  refine r_iconst (v := (1 : Int32)) K dX5_leastRow_3 (by decide) ?_
  refine r_istore (lv1 := [(5, .int (1 : Int32)), (4, .int (-1 : Int32)), (0, .ref a0), (1, .ref a1), (2, .int x2), (3, .int x3)]) K dX5_leastRow_4 (by decide) rfl ?_
  refine r_lv [2, 3, 4, 5, 1, 0] rfl ?_
  refine wX5_leastRow_L6 K ht _ (fun y50 g51 hf => ?_) lf (-1 : Int32) (1 : Int32) h hf
  refine r_iload K 0 dX5_leastRow_119 rfl ?_
  exact r_iret K dX5_leastRow_121 hf (Nat.le_of_ble_eq_true rfl) (Nat.le_of_ble_eq_true rfl)
theorem ceX5_move : CE yX5_move 4 := ⟨by decide, by decide, by decide +kernel⟩
abbrev rmX5_move : Room := { frames := 1, cells := 0, slots := 0, locals := 22 }
def fX5_move_L21 (a0 : Nat) (a1 : Nat) (x3 : Int32) (x4 : Int32) (k : AH → Option AH) : Nat → Int32 → AH → Option AH
  | 0, _, _ => none
  | n + 1, x5, h =>
    if (13 : Int32) ≤ x5 then
      k h
    else
      ob1 (gR h a0 5 0) fun b9 =>
      ob1 (aI h b9 0 x5) fun v11 =>
      gd (ckO h a1 2) <|
      ob1 (fX2_uses a1 x3 x5 h) fun r14 =>
      if r14 = (0 : Int32) then
        ob1 (sI h b9 x5 (v11 + (0 : Int32))) fun g16 =>
        bnd (x5 + (1 : Int32)) fun y18 =>
        fX5_move_L21 a0 a1 x3 x4 k n y18 g16
      else
        ob1 (sI h b9 x5 (v11 + x4)) fun g19 =>
        bnd (x5 + (1 : Int32)) fun y21 =>
        fX5_move_L21 a0 a1 x3 x4 k n y21 g19
def fX5_move (a0 : Nat) (a1 : Nat) (x2 : Int32) (x3 : Int32) (x4 : Int32) (h : AH) : Option AH :=
  if (0 : Int32) ≤ x3 then
    ob1 (gR h a0 5 1) fun b1 =>
    ob1 (aR h b1 3 x2) fun b3 =>
    ob1 (aI h b3 0 x3) fun v5 =>
    ob1 (sI h b3 x3 (v5 + x4)) fun g7 =>
    fX5_move_L21 a0 a1 x3 x4 (fun (g24 : AH) =>
      some g24
    ) lf (0 : Int32) g7
  else
    some h
set_option maxHeartbeats 4000000 in
set_option maxRecDepth 100000 in
theorem wX5_move_L21 {p : Program} {l : Launch} {e : Env} {s : State} {m : MethodId} {args : Array Value} {below : List Frame} {meth : Method} {c : Code} {G : GG} {b0 : Nat} {h0 : AH} {a0 : Nat} {a1 : Nat} {x3 : Int32} {x4 : Int32} {hh : AH} (K : CX p s m args meth c cX5_move 6 RX5 (none) G b0) (ht : isO h0 a0 5) (k : AH → Option AH) (hk : ∀ (h : AH), k h = some hh → WA p l e rmX5_move s m args below meth c (MQ below (QG G b0 h0 none hh) args s (rmX5_move).cells (rmX5_move).slots (AB b0)) G b0 6 h0 0 0 h 60 [] []) : ∀ (n : Nat) (x5 : Int32) (h : AH), fX5_move_L21 a0 a1 x3 x4 k n x5 h = some hh → WA p l e rmX5_move s m args below meth c (MQ below (QG G b0 h0 none hh) args s (rmX5_move).cells (rmX5_move).slots (AB b0)) G b0 6 h0 0 0 h 21 [(0, .ref a0), (1, .ref a1), (3, .int x3), (4, .int x4), (5, .int x5)] [] := by
  intro n
  induction n with
  | zero =>
    intro x5 h hf
    rw [fX5_move_L21] at hf
    cases hf
  | succ n ih =>
    intro x5 h hf
    rw [fX5_move_L21] at hf
    refine r_iload K 4 dX5_move_21 rfl ?_
    refine r_bipush (v := (13 : Int32)) K dX5_move_23 (by decide) ?_
    refine r_icmp_ge (tgt := 60) K dX5_move_25 (by decide) (fun c23 => ?_) (fun c23 => ?_)
    · replace hf := ite_t hf c23
      refine r_lv [] rfl ?_
      exact hk h hf
    · replace hf := ite_f hf c23
      refine r_aload_n K 0 dX5_move_28 rfl ?_
      obtain ⟨b9, e10, hf⟩ := ob1_s hf
      refine r_getR (ci := 5) (k := 0) K dX5_move_29 inX5 rfl (by decide) rfl q_268 e10 ?_
      refine r_iload K 4 dX5_move_32 rfl ?_
      refine r_dup2_11 K dX5_move_34 rfl rfl ?_
      obtain ⟨v11, e12, hf⟩ := ob1_s hf
      refine r_iaload K dX5_move_35 e12 ?_
      refine r_aload_n K 1 dX5_move_36 rfl ?_
      refine r_iload_n K 2 dX5_move_37 rfl ?_
      refine r_iload K 4 dX5_move_38 rfl ?_
      obtain ⟨z13, hf⟩ := gd_s hf
      obtain ⟨r14, e15, hf⟩ := ob1_s hf
      refine r_callV (As := [.int x3, .int x5]) (rest := [.int v11, .int x5, .ref b9]) (st1 := [.int r14, .int v11, .int x5, .ref b9]) (cells1 := 0) (slots1 := 0) (b := a1) (ci := 2) K (fun z => mX2_uses l z e15) dX5_move_40 rfl (fun _ => isO_of z13) rfl ceX2_uses q_645 q_646 q_647 q_78 q_648 ⟨Nat.le_of_ble_eq_true rfl, Nat.le_of_ble_eq_true rfl⟩ (Nat.le_of_ble_eq_true rfl) ⟨Nat.le_of_ble_eq_true rfl, Nat.le_of_ble_eq_true rfl⟩ ?_ rfl rfl rfl rfl
      refine r_if_eq (tgt := 51) K dX5_move_43 (by decide) (fun c22 => ?_) (fun c22 => ?_)
      · replace hf := ite_t hf c22
        refine r_iconst (v := (0 : Int32)) K dX5_move_51 (by decide) ?_
        refine r_iadd K dX5_move_52 ?_
        obtain ⟨g16, e17, hf⟩ := ob1_s hf
        refine r_iastore K dX5_move_53 e17 ?_
        obtain ⟨y18, ey18, hf⟩ := bnd_g hf
        refine r_iinc (lv1 := [(5, .int y18), (0, .ref a0), (1, .ref a1), (3, .int x3), (4, .int x4)]) K 4 dX5_move_54 rfl (by rw [ey18]; rfl) (by decide) rfl ?_
        refine r_goto (tgt := 21) K dX5_move_57 (by decide) ?_
        refine r_lv [1, 2, 3, 4, 0] rfl ?_
        exact ih y18 g16 hf
      · replace hf := ite_f hf c22
        refine r_iload K 3 dX5_move_46 rfl ?_
        refine r_goto (tgt := 52) K dX5_move_48 (by decide) ?_
        refine r_iadd K dX5_move_52 ?_
        obtain ⟨g19, e20, hf⟩ := ob1_s hf
        refine r_iastore K dX5_move_53 e20 ?_
        obtain ⟨y21, ey21, hf⟩ := bnd_g hf
        refine r_iinc (lv1 := [(5, .int y21), (0, .ref a0), (1, .ref a1), (3, .int x3), (4, .int x4)]) K 4 dX5_move_54 rfl (by rw [ey21]; rfl) (by decide) rfl ?_
        refine r_goto (tgt := 21) K dX5_move_57 (by decide) ?_
        refine r_lv [1, 2, 3, 4, 0] rfl ?_
        exact ih y21 g19 hf
set_option maxHeartbeats 4000000 in
set_option maxRecDepth 100000 in
theorem mX5_move (l : Launch) {G : GG} {b0 : Nat} {h : AH} {a0 : Nat} {a1 : Nat} {x2 : Int32} {x3 : Int32} {x4 : Int32} {hh : AH} (ht : isO h a0 5) (hf : fX5_move a0 a1 x2 x3 x4 h = some hh) : MM l yX5_move cX5_move 6 (none) rmX5_move G b0 h [.ref a0, .ref a1, .int x2, .int x3, .int x4] none hh := by
  refine MM.of (own := RX5) (lv0 := [(0, .ref a0), (1, .ref a1), (2, .int x2), (3, .int x3), (4, .int x4)]) (by decide) rfl (Nat.le_of_ble_eq_true rfl) rfl ?_
  intro p e s m args below meth c K hnm
  unfold fX5_move at hf
  refine r_iload_n K 3 dX5_move_0 rfl ?_
  refine r_if_ge (tgt := 5) K dX5_move_1 (by decide) (fun c25 => ?_) (fun c25 => ?_)
  · replace hf := ite_t hf c25
    refine r_aload_n K 0 dX5_move_5 rfl ?_
    obtain ⟨b1, e2, hf⟩ := ob1_s hf
    refine r_getR (ci := 5) (k := 1) K dX5_move_6 inX5 rfl (by decide) rfl q_270 e2 ?_
    refine r_iload_n K 2 dX5_move_9 rfl ?_
    obtain ⟨b3, e4, hf⟩ := ob1_s hf
    refine r_aaload (kd := 3) (ty := .array .int) K dX5_move_10 rfl rfl e4 ?_
    refine r_iload_n K 3 dX5_move_11 rfl ?_
    refine r_dup2_11 K dX5_move_12 rfl rfl ?_
    obtain ⟨v5, e6, hf⟩ := ob1_s hf
    refine r_iaload K dX5_move_13 e6 ?_
    refine r_iload K 4 dX5_move_14 rfl ?_
    refine r_iadd K dX5_move_16 ?_
    obtain ⟨g7, e8, hf⟩ := ob1_s hf
    refine r_iastore K dX5_move_17 e8 ?_
    refine r_iconst (v := (0 : Int32)) K dX5_move_18 (by decide) ?_
    refine r_istore (lv1 := [(5, .int (0 : Int32)), (0, .ref a0), (1, .ref a1), (2, .int x2), (3, .int x3), (4, .int x4)]) K dX5_move_19 (by decide) rfl ?_
    refine r_lv [1, 2, 4, 5, 0] rfl ?_
    refine wX5_move_L21 K ht _ (fun g24 hf => ?_) lf (0 : Int32) g7 hf
    exact r_vret K dX5_move_60 hf (Nat.le_of_ble_eq_true rfl) (Nat.le_of_ble_eq_true rfl)
  · replace hf := ite_f hf c25
    exact r_vret K dX5_move_4 hf (Nat.le_of_ble_eq_true rfl) (Nat.le_of_ble_eq_true rfl)
theorem ceX5_tellPrices : CE yX5_tellPrices 3 := ⟨by decide, by decide, by decide +kernel⟩
abbrev rmX5_tellPrices : Room := { frames := 2, cells := 0, slots := 0, locals := 51 }
def fX5_tellPrices_L3 (a0 : Nat) (a1 : Nat) (x2 : Int32) (x3 : Int32) (k : AH → Option AH) : Nat → Int32 → AH → Option AH
  | 0, _, _ => none
  | n + 1, x4, h =>
    ob1 (gI h a1 1 1) fun v1 =>
    if v1 ≤ x4 then
      k h
    else
      ob1 (gR h a0 5 5) fun b3 =>
      ob1 (gR h a0 5 0) fun b5 =>
      ob1 (aI h b5 0 x4) fun v7 =>
      ob1 (fJ9_max_7cf53 (1 : Int32) v7) fun r9 =>
      gd (ckO h a1 1) <|
      ob1 (fX1_priceAt a1 x2 x3 x4 r9 h) fun r12 =>
      ob1 (sL h b3 x4 r12) fun g14 =>
      ob1 (gR g14 a0 5 6) fun b16 =>
      ob1 (gR g14 a0 5 0) fun b18 =>
      ob1 (aI g14 b18 0 x4) fun v20 =>
      gd (ckO g14 a1 1) <|
      ob1 (fX1_priceAt a1 x2 x3 x4 (v20 + (1 : Int32)) g14) fun r23 =>
      ob1 (sL g14 b16 x4 r23) fun g25 =>
      bnd (x4 + (1 : Int32)) fun y27 =>
      fX5_tellPrices_L3 a0 a1 x2 x3 k n y27 g25
def fX5_tellPrices (a0 : Nat) (a1 : Nat) (x2 : Int32) (x3 : Int32) (h : AH) : Option AH :=
  fX5_tellPrices_L3 a0 a1 x2 x3 (fun (g29 : AH) =>
    some g29
  ) lf (0 : Int32) h
set_option maxHeartbeats 4000000 in
set_option maxRecDepth 100000 in
theorem wX5_tellPrices_L3 {p : Program} {l : Launch} {e : Env} {s : State} {m : MethodId} {args : Array Value} {below : List Frame} {meth : Method} {c : Code} {G : GG} {b0 : Nat} {h0 : AH} {a0 : Nat} {a1 : Nat} {x2 : Int32} {x3 : Int32} {hh : AH} (K : CX p s m args meth c cX5_tellPrices 5 RX5 (none) G b0) (ht : isO h0 a0 5) (k : AH → Option AH) (hk : ∀ (h : AH), k h = some hh → WA p l e rmX5_tellPrices s m args below meth c (MQ below (QG G b0 h0 none hh) args s (rmX5_tellPrices).cells (rmX5_tellPrices).slots (AB b0)) G b0 5 h0 0 0 h 68 [] []) : ∀ (n : Nat) (x4 : Int32) (h : AH), fX5_tellPrices_L3 a0 a1 x2 x3 k n x4 h = some hh → WA p l e rmX5_tellPrices s m args below meth c (MQ below (QG G b0 h0 none hh) args s (rmX5_tellPrices).cells (rmX5_tellPrices).slots (AB b0)) G b0 5 h0 0 0 h 3 [(0, .ref a0), (1, .ref a1), (2, .int x2), (3, .int x3), (4, .int x4)] [] := by
  intro n
  induction n with
  | zero =>
    intro x4 h hf
    rw [fX5_tellPrices_L3] at hf
    cases hf
  | succ n ih =>
    intro x4 h hf
    rw [fX5_tellPrices_L3] at hf
    refine r_iload K 4 dX5_tellPrices_3 rfl ?_
    refine r_aload_n K 1 dX5_tellPrices_5 rfl ?_
    obtain ⟨v1, e2, hf⟩ := ob1_s hf
    refine r_getI (ci := 1) (k := 1) K dX5_tellPrices_6 inX1 rfl (by decide) rfl q_157 e2 ?_
    refine r_icmp_ge (tgt := 68) K dX5_tellPrices_9 (by decide) (fun c28 => ?_) (fun c28 => ?_)
    · replace hf := ite_t hf c28
      refine r_lv [] rfl ?_
      exact hk h hf
    · replace hf := ite_f hf c28
      refine r_aload_n K 0 dX5_tellPrices_12 rfl ?_
      obtain ⟨b3, e4, hf⟩ := ob1_s hf
      refine r_getR (ci := 5) (k := 5) K dX5_tellPrices_13 inX5 rfl (by decide) rfl q_278 e4 ?_
      refine r_iload K 4 dX5_tellPrices_16 rfl ?_
      refine r_aload_n K 1 dX5_tellPrices_18 rfl ?_
      refine r_iload_n K 2 dX5_tellPrices_19 rfl ?_
      refine r_iload_n K 3 dX5_tellPrices_20 rfl ?_
      refine r_iload K 4 dX5_tellPrices_21 rfl ?_
      refine r_iconst (v := (1 : Int32)) K dX5_tellPrices_23 (by decide) ?_
      refine r_aload_n K 0 dX5_tellPrices_24 rfl ?_
      obtain ⟨b5, e6, hf⟩ := ob1_s hf
      refine r_getR (ci := 5) (k := 0) K dX5_tellPrices_25 inX5 rfl (by decide) rfl q_268 e6 ?_
      refine r_iload K 4 dX5_tellPrices_28 rfl ?_
      obtain ⟨v7, e8, hf⟩ := ob1_s hf
      refine r_iaload K dX5_tellPrices_30 e8 ?_
      obtain ⟨r9, e10, hf⟩ := ob1_s hf
      refine r_callS (As := [.int (1 : Int32), .int v7]) (rest := [.int x4, .int x3, .int x2, .ref a1, .int x4, .ref b3]) (st1 := [.int r9, .int x4, .int x3, .int x2, .ref a1, .int x4, .ref b3]) (cells1 := 0) (slots1 := 0) K (mJ9_max_7cf53 l e10) dX5_tellPrices_31 ceJ9_max_7cf53 q_628 q_629 q_88 q_630 ⟨Nat.le_of_ble_eq_true rfl, Nat.le_of_ble_eq_true rfl⟩ (Nat.le_of_ble_eq_true rfl) ⟨Nat.le_of_ble_eq_true rfl, Nat.le_of_ble_eq_true rfl⟩ ?_ rfl rfl rfl rfl
      obtain ⟨z11, hf⟩ := gd_s hf
      obtain ⟨r12, e13, hf⟩ := ob1_s hf
      refine r_callV (As := [.int x2, .int x3, .int x4, .int r9]) (rest := [.int x4, .ref b3]) (st1 := [.long r12, .int x4, .ref b3]) (cells1 := 0) (slots1 := 0) (b := a1) (ci := 1) K (fun z => mX1_priceAt l z e13) dX5_tellPrices_34 rfl (fun _ => isO_of z11) rfl ceX1_priceAt q_631 q_632 q_633 q_76 q_634 ⟨Nat.le_of_ble_eq_true rfl, Nat.le_of_ble_eq_true rfl⟩ (Nat.le_of_ble_eq_true rfl) ⟨Nat.le_of_ble_eq_true rfl, Nat.le_of_ble_eq_true rfl⟩ ?_ rfl rfl rfl rfl
      obtain ⟨g14, e15, hf⟩ := ob1_s hf
      refine r_lastore K dX5_tellPrices_37 e15 ?_
      refine r_aload_n K 0 dX5_tellPrices_38 rfl ?_
      obtain ⟨b16, e17, hf⟩ := ob1_s hf
      refine r_getR (ci := 5) (k := 6) K dX5_tellPrices_39 inX5 rfl (by decide) rfl q_279 e17 ?_
      refine r_iload K 4 dX5_tellPrices_42 rfl ?_
      refine r_aload_n K 1 dX5_tellPrices_44 rfl ?_
      refine r_iload_n K 2 dX5_tellPrices_45 rfl ?_
      refine r_iload_n K 3 dX5_tellPrices_46 rfl ?_
      refine r_iload K 4 dX5_tellPrices_47 rfl ?_
      refine r_aload_n K 0 dX5_tellPrices_49 rfl ?_
      obtain ⟨b18, e19, hf⟩ := ob1_s hf
      refine r_getR (ci := 5) (k := 0) K dX5_tellPrices_50 inX5 rfl (by decide) rfl q_268 e19 ?_
      refine r_iload K 4 dX5_tellPrices_53 rfl ?_
      obtain ⟨v20, e21, hf⟩ := ob1_s hf
      refine r_iaload K dX5_tellPrices_55 e21 ?_
      refine r_iconst (v := (1 : Int32)) K dX5_tellPrices_56 (by decide) ?_
      refine r_iadd K dX5_tellPrices_57 ?_
      obtain ⟨z22, hf⟩ := gd_s hf
      obtain ⟨r23, e24, hf⟩ := ob1_s hf
      refine r_callV (As := [.int x2, .int x3, .int x4, .int (v20 + (1 : Int32))]) (rest := [.int x4, .ref b16]) (st1 := [.long r23, .int x4, .ref b16]) (cells1 := 0) (slots1 := 0) (b := a1) (ci := 1) K (fun z => mX1_priceAt l z e24) dX5_tellPrices_58 rfl (fun _ => isO_of z22) rfl ceX1_priceAt q_631 q_632 q_633 q_76 q_634 ⟨Nat.le_of_ble_eq_true rfl, Nat.le_of_ble_eq_true rfl⟩ (Nat.le_of_ble_eq_true rfl) ⟨Nat.le_of_ble_eq_true rfl, Nat.le_of_ble_eq_true rfl⟩ ?_ rfl rfl rfl rfl
      obtain ⟨g25, e26, hf⟩ := ob1_s hf
      refine r_lastore K dX5_tellPrices_61 e26 ?_
      obtain ⟨y27, ey27, hf⟩ := bnd_g hf
      refine r_iinc (lv1 := [(4, .int y27), (0, .ref a0), (1, .ref a1), (2, .int x2), (3, .int x3)]) K 4 dX5_tellPrices_62 rfl (by rw [ey27]; rfl) (by decide) rfl ?_
      refine r_goto (tgt := 3) K dX5_tellPrices_65 (by decide) ?_
      refine r_lv [1, 2, 3, 4, 0] rfl ?_
      exact ih y27 g25 hf
set_option maxHeartbeats 4000000 in
set_option maxRecDepth 100000 in
theorem mX5_tellPrices (l : Launch) {G : GG} {b0 : Nat} {h : AH} {a0 : Nat} {a1 : Nat} {x2 : Int32} {x3 : Int32} {hh : AH} (ht : isO h a0 5) (hf : fX5_tellPrices a0 a1 x2 x3 h = some hh) : MM l yX5_tellPrices cX5_tellPrices 5 (none) rmX5_tellPrices G b0 h [.ref a0, .ref a1, .int x2, .int x3] none hh := by
  refine MM.of (own := RX5) (lv0 := [(0, .ref a0), (1, .ref a1), (2, .int x2), (3, .int x3)]) (by decide) rfl (Nat.le_of_ble_eq_true rfl) rfl ?_
  intro p e s m args below meth c K hnm
  unfold fX5_tellPrices at hf
  refine r_iconst (v := (0 : Int32)) K dX5_tellPrices_0 (by decide) ?_
  refine r_istore (lv1 := [(4, .int (0 : Int32)), (0, .ref a0), (1, .ref a1), (2, .int x2), (3, .int x3)]) K dX5_tellPrices_1 (by decide) rfl ?_
  refine r_lv [1, 2, 3, 4, 0] rfl ?_
  refine wX5_tellPrices_L3 K ht _ (fun g29 hf => ?_) lf (0 : Int32) h hf
  exact r_vret K dX5_tellPrices_68 hf (Nat.le_of_ble_eq_true rfl) (Nat.le_of_ble_eq_true rfl)
theorem ceX5_arrive : CE yX5_arrive 4 := ⟨by decide, by decide, by decide +kernel⟩
abbrev rmX5_arrive : Room := { frames := 3, cells := 0, slots := 0, locals := 75 }
def fX5_arrive_L3 (a0 : Nat) (a1 : Nat) (a2 : Nat) (x3 : Int32) (x4 : Int32) (k : AH → Option AH) : Nat → Int32 → AH → Option AH
  | 0, _, _ => none
  | n + 1, x5, h =>
    ob1 (gR h a1 1 4) fun b1 =>
    ob1 (aR h b1 3 x4) fun b3 =>
    ob1 (aI h b3 0 (1 : Int32)) fun v5 =>
    if v5 ≤ x5 then
      k h
    else
      ob1 (fX5_tellPrices a0 a1 x3 x4 h) fun g7 =>
      ob1 (gR g7 a1 1 4) fun b9 =>
      ob1 (aR g7 b9 3 x4) fun b11 =>
      ob1 (aI g7 b11 0 (0 : Int32)) fun v13 =>
      ob2 (fX5_leastRow a0 a2 v13 (0 : Int32) g7) fun r15 g16 =>
      ob1 (fX5_move a0 a2 x4 r15 (1 : Int32) g16) fun g18 =>
      bnd (x5 + (1 : Int32)) fun y20 =>
      fX5_arrive_L3 a0 a1 a2 x3 x4 k n y20 g18
def fX5_arrive (a0 : Nat) (a1 : Nat) (a2 : Nat) (x3 : Int32) (x4 : Int32) (h : AH) : Option AH :=
  fX5_arrive_L3 a0 a1 a2 x3 x4 (fun (g22 : AH) =>
    some g22
  ) lf (0 : Int32) h
set_option maxHeartbeats 4000000 in
set_option maxRecDepth 100000 in
theorem wX5_arrive_L3 {p : Program} {l : Launch} {e : Env} {s : State} {m : MethodId} {args : Array Value} {below : List Frame} {meth : Method} {c : Code} {G : GG} {b0 : Nat} {h0 : AH} {a0 : Nat} {a1 : Nat} {a2 : Nat} {x3 : Int32} {x4 : Int32} {hh : AH} (K : CX p s m args meth c cX5_arrive 6 RX5 (none) G b0) (ht : isO h0 a0 5) (k : AH → Option AH) (hk : ∀ (h : AH), k h = some hh → WA p l e rmX5_arrive s m args below meth c (MQ below (QG G b0 h0 none hh) args s (rmX5_arrive).cells (rmX5_arrive).slots (AB b0)) G b0 6 h0 0 0 h 54 [] []) : ∀ (n : Nat) (x5 : Int32) (h : AH), fX5_arrive_L3 a0 a1 a2 x3 x4 k n x5 h = some hh → WA p l e rmX5_arrive s m args below meth c (MQ below (QG G b0 h0 none hh) args s (rmX5_arrive).cells (rmX5_arrive).slots (AB b0)) G b0 6 h0 0 0 h 3 [(0, .ref a0), (1, .ref a1), (2, .ref a2), (3, .int x3), (4, .int x4), (5, .int x5)] [] := by
  intro n
  induction n with
  | zero =>
    intro x5 h hf
    rw [fX5_arrive_L3] at hf
    cases hf
  | succ n ih =>
    intro x5 h hf
    rw [fX5_arrive_L3] at hf
    refine r_iload K 5 dX5_arrive_3 rfl ?_
    refine r_aload_n K 1 dX5_arrive_5 rfl ?_
    obtain ⟨b1, e2, hf⟩ := ob1_s hf
    refine r_getR (ci := 1) (k := 4) K dX5_arrive_6 inX1 rfl (by decide) rfl q_166 e2 ?_
    refine r_iload K 4 dX5_arrive_9 rfl ?_
    obtain ⟨b3, e4, hf⟩ := ob1_s hf
    refine r_aaload (kd := 3) (ty := .array .int) K dX5_arrive_11 rfl rfl e4 ?_
    refine r_iconst (v := (1 : Int32)) K dX5_arrive_12 (by decide) ?_
    obtain ⟨v5, e6, hf⟩ := ob1_s hf
    refine r_iaload K dX5_arrive_13 e6 ?_
    refine r_icmp_ge (tgt := 54) K dX5_arrive_14 (by decide) (fun c21 => ?_) (fun c21 => ?_)
    · replace hf := ite_t hf c21
      refine r_lv [] rfl ?_
      exact hk h hf
    · replace hf := ite_f hf c21
      refine r_aload_n K 0 dX5_arrive_17 rfl ?_
      refine r_aload_n K 1 dX5_arrive_18 rfl ?_
      refine r_iload_n K 3 dX5_arrive_19 rfl ?_
      refine r_iload K 4 dX5_arrive_20 rfl ?_
      obtain ⟨g7, e8, hf⟩ := ob1_s hf
      refine r_callV (As := [.ref a1, .int x3, .int x4]) (rest := []) (st1 := []) (cells1 := 0) (slots1 := 0) (b := a0) (ci := 5) K (fun z => mX5_tellPrices l z e8) dX5_arrive_22 rfl (fun z => z _ _ ht) rfl ceX5_tellPrices q_624 q_626 q_15 q_81 q_627 ⟨Nat.le_of_ble_eq_true rfl, Nat.le_of_ble_eq_true rfl⟩ (Nat.le_of_ble_eq_true rfl) ⟨Nat.le_of_ble_eq_true rfl, Nat.le_of_ble_eq_true rfl⟩ ?_ rfl rfl rfl rfl
      refine r_aload_n K 0 dX5_arrive_25 rfl ?_
      refine r_aload_n K 2 dX5_arrive_26 rfl ?_
      refine r_iload K 4 dX5_arrive_27 rfl ?_
      refine r_aload_n K 0 dX5_arrive_29 rfl ?_
      refine r_aload_n K 2 dX5_arrive_30 rfl ?_
      refine r_aload_n K 1 dX5_arrive_31 rfl ?_
      obtain ⟨b9, e10, hf⟩ := ob1_s hf
      refine r_getR (ci := 1) (k := 4) K dX5_arrive_32 inX1 rfl (by decide) rfl q_166 e10 ?_
      refine r_iload K 4 dX5_arrive_35 rfl ?_
      obtain ⟨b11, e12, hf⟩ := ob1_s hf
      refine r_aaload (kd := 3) (ty := .array .int) K dX5_arrive_37 rfl rfl e12 ?_
      refine r_iconst (v := (0 : Int32)) K dX5_arrive_38 (by decide) ?_
      obtain ⟨v13, e14, hf⟩ := ob1_s hf
      refine r_iaload K dX5_arrive_39 e14 ?_
      refine r_iconst (v := (0 : Int32)) K dX5_arrive_40 (by decide) ?_
      obtain ⟨r15, g16, e17, hf⟩ := ob2_s hf
      refine r_callV (As := [.ref a2, .int v13, .int (0 : Int32)]) (rest := [.int x4, .ref a2, .ref a0]) (st1 := [.int r15, .int x4, .ref a2, .ref a0]) (cells1 := 0) (slots1 := 0) (b := a0) (ci := 5) K (fun z => mX5_leastRow l z e17) dX5_arrive_41 rfl (fun z => z _ _ ht) rfl ceX5_leastRow q_637 q_639 q_16 q_81 q_640 ⟨Nat.le_of_ble_eq_true rfl, Nat.le_of_ble_eq_true rfl⟩ (Nat.le_of_ble_eq_true rfl) ⟨Nat.le_of_ble_eq_true rfl, Nat.le_of_ble_eq_true rfl⟩ ?_ rfl rfl rfl rfl
      refine r_iconst (v := (1 : Int32)) K dX5_arrive_44 (by decide) ?_
      obtain ⟨g18, e19, hf⟩ := ob1_s hf
      refine r_callV (As := [.ref a2, .int x4, .int r15, .int (1 : Int32)]) (rest := []) (st1 := []) (cells1 := 0) (slots1 := 0) (b := a0) (ci := 5) K (fun z => mX5_move l z e19) dX5_arrive_45 rfl (fun z => z _ _ ht) rfl ceX5_move q_641 q_643 q_17 q_81 q_644 ⟨Nat.le_of_ble_eq_true rfl, Nat.le_of_ble_eq_true rfl⟩ (Nat.le_of_ble_eq_true rfl) ⟨Nat.le_of_ble_eq_true rfl, Nat.le_of_ble_eq_true rfl⟩ ?_ rfl rfl rfl rfl
      obtain ⟨y20, ey20, hf⟩ := bnd_g hf
      refine r_iinc (lv1 := [(5, .int y20), (0, .ref a0), (1, .ref a1), (2, .ref a2), (3, .int x3), (4, .int x4)]) K 5 dX5_arrive_48 rfl (by rw [ey20]; rfl) (by decide) rfl ?_
      refine r_goto (tgt := 3) K dX5_arrive_51 (by decide) ?_
      refine r_lv [1, 2, 3, 4, 5, 0] rfl ?_
      exact ih y20 g18 hf
set_option maxHeartbeats 4000000 in
set_option maxRecDepth 100000 in
theorem mX5_arrive (l : Launch) {G : GG} {b0 : Nat} {h : AH} {a0 : Nat} {a1 : Nat} {a2 : Nat} {x3 : Int32} {x4 : Int32} {hh : AH} (ht : isO h a0 5) (hf : fX5_arrive a0 a1 a2 x3 x4 h = some hh) : MM l yX5_arrive cX5_arrive 6 (none) rmX5_arrive G b0 h [.ref a0, .ref a1, .ref a2, .int x3, .int x4] none hh := by
  refine MM.of (own := RX5) (lv0 := [(0, .ref a0), (1, .ref a1), (2, .ref a2), (3, .int x3), (4, .int x4)]) (by decide) rfl (Nat.le_of_ble_eq_true rfl) rfl ?_
  intro p e s m args below meth c K hnm
  unfold fX5_arrive at hf
  refine r_iconst (v := (0 : Int32)) K dX5_arrive_0 (by decide) ?_
  refine r_istore (lv1 := [(5, .int (0 : Int32)), (0, .ref a0), (1, .ref a1), (2, .ref a2), (3, .int x3), (4, .int x4)]) K dX5_arrive_1 (by decide) rfl ?_
  refine r_lv [1, 2, 3, 4, 5, 0] rfl ?_
  refine wX5_arrive_L3 K ht _ (fun g22 hf => ?_) lf (0 : Int32) h hf
  exact r_vret K dX5_arrive_54 hf (Nat.le_of_ble_eq_true rfl) (Nat.le_of_ble_eq_true rfl)
theorem ceX5_canAllDrive : CE yX5_canAllDrive 2 := ⟨by decide, by decide, by decide +kernel⟩
abbrev rmX5_canAllDrive : Room := { frames := 1, cells := 0, slots := 0, locals := 23 }
def fX5_canAllDrive_L2 (a0 : Nat) (a1 : Nat) (h : AH) (k : Option Int32) : Nat → Int32 → Option Int32
  | 0, _ => none
  | n + 1, x2 =>
    if (3 : Int32) ≤ x2 then
      k
    else
      ob1 (gR h a0 1 4) fun b1 =>
      ob1 (aR h b1 3 x2) fun b3 =>
      ob1 (aI h b3 0 (1 : Int32)) fun v5 =>
      if v5 ≤ (0 : Int32) then
        bnd (x2 + (1 : Int32)) fun y7 =>
        fX5_canAllDrive_L2 a0 a1 h k n y7
      else
        ob1 (aI h b3 0 (0 : Int32)) fun v8 =>
        gd (ckO h a1 2) <|
        ob1 (fX2_countTo a1 v8 h) fun r11 =>
        if r11 = (0 : Int32) then
          some (0 : Int32)
        else
          bnd (x2 + (1 : Int32)) fun y13 =>
          fX5_canAllDrive_L2 a0 a1 h k n y13
def fX5_canAllDrive (a0 : Nat) (a1 : Nat) (h : AH) : Option Int32 :=
  fX5_canAllDrive_L2 a0 a1 h (
    some (1 : Int32)
  ) lf (0 : Int32)
set_option maxHeartbeats 4000000 in
set_option maxRecDepth 100000 in
theorem wX5_canAllDrive_L2 {p : Program} {l : Launch} {e : Env} {s : State} {m : MethodId} {args : Array Value} {below : List Frame} {meth : Method} {c : Code} {G : GG} {b0 : Nat} {h0 : AH} {a0 : Nat} {a1 : Nat} {h : AH} {rr : Int32} (K : CX p s m args meth c cX5_canAllDrive 4 RX5 (some .boolean) G b0) (k : Option Int32) (hk : k = some rr → WA p l e rmX5_canAllDrive s m args below meth c (MQ below (QG G b0 h0 (some (.int rr)) h) args s (rmX5_canAllDrive).cells (rmX5_canAllDrive).slots (AB b0)) G b0 4 h0 0 0 h 38 [] []) : ∀ (n : Nat) (x2 : Int32), fX5_canAllDrive_L2 a0 a1 h k n x2 = some rr → WA p l e rmX5_canAllDrive s m args below meth c (MQ below (QG G b0 h0 (some (.int rr)) h) args s (rmX5_canAllDrive).cells (rmX5_canAllDrive).slots (AB b0)) G b0 4 h0 0 0 h 2 [(0, .ref a0), (1, .ref a1), (2, .int x2)] [] := by
  intro n
  induction n with
  | zero =>
    intro x2 hf
    rw [fX5_canAllDrive_L2] at hf
    cases hf
  | succ n ih =>
    intro x2 hf
    rw [fX5_canAllDrive_L2] at hf
    refine r_iload_n K 2 dX5_canAllDrive_2 rfl ?_
    refine r_iconst (v := (3 : Int32)) K dX5_canAllDrive_3 (by decide) ?_
    refine r_icmp_ge (tgt := 38) K dX5_canAllDrive_4 (by decide) (fun c16 => ?_) (fun c16 => ?_)
    · replace hf := ite_t hf c16
      refine r_lv [] rfl ?_
      exact hk  hf
    · replace hf := ite_f hf c16
      refine r_aload_n K 0 dX5_canAllDrive_7 rfl ?_
      obtain ⟨b1, e2, hf⟩ := ob1_s hf
      refine r_getR (ci := 1) (k := 4) K dX5_canAllDrive_8 inX1 rfl (by decide) rfl q_166 e2 ?_
      refine r_iload_n K 2 dX5_canAllDrive_11 rfl ?_
      obtain ⟨b3, e4, hf⟩ := ob1_s hf
      refine r_aaload (kd := 3) (ty := .array .int) K dX5_canAllDrive_12 rfl rfl e4 ?_
      refine r_astore_n (lv1 := [(3, .ref b3), (0, .ref a0), (1, .ref a1), (2, .int x2)]) K dX5_canAllDrive_13 (by decide) rfl ?_
      refine r_aload_n K 0 dX5_canAllDrive_14 rfl ?_
      refine r_iconst (v := (1 : Int32)) K dX5_canAllDrive_15 (by decide) ?_
      obtain ⟨v5, e6, hf⟩ := ob1_s hf
      refine r_iaload K dX5_canAllDrive_16 e6 ?_
      refine r_if_le (tgt := 32) K dX5_canAllDrive_17 (by decide) (fun c15 => ?_) (fun c15 => ?_)
      · replace hf := ite_t hf c15
        obtain ⟨y7, ey7, hf⟩ := bnd_g hf
        refine r_iinc (lv1 := [(2, .int y7), (3, .ref b3), (0, .ref a0), (1, .ref a1)]) K 3 dX5_canAllDrive_32 rfl (by rw [ey7]; rfl) (by decide) rfl ?_
        refine r_goto (tgt := 2) K dX5_canAllDrive_35 (by decide) ?_
        refine r_lv [2, 3, 0] rfl ?_
        exact ih y7 hf
      · replace hf := ite_f hf c15
        refine r_aload_n K 2 dX5_canAllDrive_20 rfl ?_
        refine r_aload_n K 0 dX5_canAllDrive_21 rfl ?_
        refine r_iconst (v := (0 : Int32)) K dX5_canAllDrive_22 (by decide) ?_
        obtain ⟨v8, e9, hf⟩ := ob1_s hf
        refine r_iaload K dX5_canAllDrive_23 e9 ?_
        obtain ⟨z10, hf⟩ := gd_s hf
        obtain ⟨r11, e12, hf⟩ := ob1_s hf
        refine r_callV (As := [.int v8]) (rest := []) (st1 := [.int r11]) (cells1 := 0) (slots1 := 0) (b := a1) (ci := 2) K (fun z => mX2_countTo l z e12) dX5_canAllDrive_24 rfl (fun _ => isO_of z10) rfl ceX2_countTo q_619 q_574 q_575 q_78 q_576 ⟨Nat.le_of_ble_eq_true rfl, Nat.le_of_ble_eq_true rfl⟩ (Nat.le_of_ble_eq_true rfl) ⟨Nat.le_of_ble_eq_true rfl, Nat.le_of_ble_eq_true rfl⟩ ?_ rfl rfl rfl rfl
        refine r_if_ne (tgt := 32) K dX5_canAllDrive_27 (by decide) (fun c14 => ?_) (fun c14 => ?_)
        · replace hf := ite_f hf c14
          obtain ⟨y13, ey13, hf⟩ := bnd_g hf
          refine r_iinc (lv1 := [(2, .int y13), (3, .ref b3), (0, .ref a0), (1, .ref a1)]) K 3 dX5_canAllDrive_32 rfl (by rw [ey13]; rfl) (by decide) rfl ?_
          refine r_goto (tgt := 2) K dX5_canAllDrive_35 (by decide) ?_
          refine r_lv [2, 3, 0] rfl ?_
          exact ih y13 hf
        · replace hf := ite_t hf c14
          refine r_iconst (v := (0 : Int32)) K dX5_canAllDrive_30 (by decide) ?_
          exact r_zret K dX5_canAllDrive_31 rfl (retp hf) (Nat.le_of_ble_eq_true rfl) (Nat.le_of_ble_eq_true rfl)
set_option maxHeartbeats 4000000 in
set_option maxRecDepth 100000 in
theorem mX5_canAllDrive (l : Launch) {G : GG} {b0 : Nat} {h : AH} {a0 : Nat} {a1 : Nat} {rr : Int32} (hf : fX5_canAllDrive a0 a1 h = some rr) : MM l yX5_canAllDrive cX5_canAllDrive 4 (some .boolean) rmX5_canAllDrive G b0 h [.ref a0, .ref a1] (some (.int rr)) h := by
  refine MM.of (own := RX5) (lv0 := [(0, .ref a0), (1, .ref a1)]) (by decide) rfl (Nat.le_of_ble_eq_true rfl) rfl ?_
  intro p e s m args below meth c K hnm
  unfold fX5_canAllDrive at hf
  refine r_iconst (v := (0 : Int32)) K dX5_canAllDrive_0 (by decide) ?_
  refine r_istore_n (lv1 := [(2, .int (0 : Int32)), (0, .ref a0), (1, .ref a1)]) K dX5_canAllDrive_1 (by decide) rfl ?_
  refine r_lv [1, 2, 0] rfl ?_
  refine wX5_canAllDrive_L2 K _ (fun  hf => ?_) lf (0 : Int32) hf
  refine r_iconst (v := (1 : Int32)) K dX5_canAllDrive_38 (by decide) ?_
  exact r_zret K dX5_canAllDrive_39 rfl (retp hf) (Nat.le_of_ble_eq_true rfl) (Nat.le_of_ble_eq_true rfl)
theorem ceX5_forget : CE yX5_forget 0 := ⟨by decide, by decide, by decide +kernel⟩
abbrev rmX5_forget : Room := { frames := 1, cells := 0, slots := 0, locals := 23 }
def fX5_forget_L22 (a0 : Nat) (k : AH → Option AH) : Nat → Int32 → AH → Option AH
  | 0, _, _ => none
  | n + 1, x1, h =>
    if (3 : Int32) ≤ x1 then
      k h
    else
      ob1 (gR h a0 5 1) fun b12 =>
      ob1 (aR h b12 3 x1) fun b14 =>
      ob1 (fJ7_fill_53178 b14 (0 : Int32) h) fun g16 =>
      bnd (x1 + (1 : Int32)) fun y18 =>
      fX5_forget_L22 a0 k n y18 g16
def fX5_forget (a0 : Nat) (h : AH) : Option AH :=
  ob1 (gR h a0 5 2) fun b1 =>
  gd (ckO h b1 6) <|
  ob1 (fX6_reset b1 h) fun g4 =>
  ob1 (pV g4 a0 5 4 (.int (0 : Int32))) fun g6 =>
  ob1 (gR g6 a0 5 0) fun b8 =>
  ob1 (fJ7_fill_53178 b8 (0 : Int32) g6) fun g10 =>
  fX5_forget_L22 a0 (fun (g20 : AH) =>
    some g20
  ) lf (0 : Int32) g10
set_option maxHeartbeats 4000000 in
set_option maxRecDepth 100000 in
theorem wX5_forget_L22 {p : Program} {l : Launch} {e : Env} {s : State} {m : MethodId} {args : Array Value} {below : List Frame} {meth : Method} {c : Code} {G : GG} {b0 : Nat} {h0 : AH} {a0 : Nat} {hh : AH} (K : CX p s m args meth c cX5_forget 2 RX5 (none) G b0) (ht : isO h0 a0 5) (k : AH → Option AH) (hk : ∀ (h : AH), k h = some hh → WA p l e rmX5_forget s m args below meth c (MQ below (QG G b0 h0 none hh) args s (rmX5_forget).cells (rmX5_forget).slots (AB b0)) G b0 2 h0 0 0 h 43 [] []) : ∀ (n : Nat) (x1 : Int32) (h : AH), fX5_forget_L22 a0 k n x1 h = some hh → WA p l e rmX5_forget s m args below meth c (MQ below (QG G b0 h0 none hh) args s (rmX5_forget).cells (rmX5_forget).slots (AB b0)) G b0 2 h0 0 0 h 22 [(0, .ref a0), (1, .int x1)] [] := by
  intro n
  induction n with
  | zero =>
    intro x1 h hf
    rw [fX5_forget_L22] at hf
    cases hf
  | succ n ih =>
    intro x1 h hf
    rw [fX5_forget_L22] at hf
    refine r_iload_n K 1 dX5_forget_22 rfl ?_
    refine r_iconst (v := (3 : Int32)) K dX5_forget_23 (by decide) ?_
    refine r_icmp_ge (tgt := 43) K dX5_forget_24 (by decide) (fun c19 => ?_) (fun c19 => ?_)
    · replace hf := ite_t hf c19
      refine r_lv [] rfl ?_
      exact hk h hf
    · replace hf := ite_f hf c19
      refine r_aload_n K 0 dX5_forget_27 rfl ?_
      obtain ⟨b12, e13, hf⟩ := ob1_s hf
      refine r_getR (ci := 5) (k := 1) K dX5_forget_28 inX5 rfl (by decide) rfl q_270 e13 ?_
      refine r_iload_n K 1 dX5_forget_31 rfl ?_
      obtain ⟨b14, e15, hf⟩ := ob1_s hf
      refine r_aaload (kd := 3) (ty := .array .int) K dX5_forget_32 rfl rfl e15 ?_
      refine r_iconst (v := (0 : Int32)) K dX5_forget_33 (by decide) ?_
      obtain ⟨g16, e17, hf⟩ := ob1_s hf
      refine r_callS (As := [.ref b14, .int (0 : Int32)]) (rest := []) (st1 := []) (cells1 := 0) (slots1 := 0) K (mJ7_fill_53178 l e17) dX5_forget_34 ceJ7_fill_53178 q_613 q_614 q_87 q_615 ⟨Nat.le_of_ble_eq_true rfl, Nat.le_of_ble_eq_true rfl⟩ (Nat.le_of_ble_eq_true rfl) ⟨Nat.le_of_ble_eq_true rfl, Nat.le_of_ble_eq_true rfl⟩ ?_ rfl rfl rfl rfl
      obtain ⟨y18, ey18, hf⟩ := bnd_g hf
      refine r_iinc (lv1 := [(1, .int y18), (0, .ref a0)]) K 1 dX5_forget_37 rfl (by rw [ey18]; rfl) (by decide) rfl ?_
      refine r_goto (tgt := 22) K dX5_forget_40 (by decide) ?_
      refine r_lv [1, 0] rfl ?_
      exact ih y18 g16 hf
set_option maxHeartbeats 4000000 in
set_option maxRecDepth 100000 in
theorem mX5_forget (l : Launch) {G : GG} {b0 : Nat} {h : AH} {a0 : Nat} {hh : AH} (ht : isO h a0 5) (hf : fX5_forget a0 h = some hh) : MM l yX5_forget cX5_forget 2 (none) rmX5_forget G b0 h [.ref a0] none hh := by
  refine MM.of (own := RX5) (lv0 := [(0, .ref a0)]) (by decide) rfl (Nat.le_of_ble_eq_true rfl) rfl ?_
  intro p e s m args below meth c K hnm
  unfold fX5_forget at hf
  refine r_aload_n K 0 dX5_forget_0 rfl ?_
  obtain ⟨b1, e2, hf⟩ := ob1_s hf
  refine r_getR (ci := 5) (k := 2) K dX5_forget_1 inX5 rfl (by decide) rfl q_272 e2 ?_
  obtain ⟨z3, hf⟩ := gd_s hf
  obtain ⟨g4, e5, hf⟩ := ob1_s hf
  refine r_callV (As := []) (rest := []) (st1 := []) (cells1 := 0) (slots1 := 0) (b := b1) (ci := 6) K (fun z => mX6_reset l z e5) dX5_forget_4 rfl (fun _ => isO_of z3) rfl ceX6_reset q_609 q_610 q_611 q_80 q_612 ⟨Nat.le_of_ble_eq_true rfl, Nat.le_of_ble_eq_true rfl⟩ (Nat.le_of_ble_eq_true rfl) ⟨Nat.le_of_ble_eq_true rfl, Nat.le_of_ble_eq_true rfl⟩ ?_ rfl rfl rfl rfl
  refine r_aload_n K 0 dX5_forget_7 rfl ?_
  refine r_iconst (v := (0 : Int32)) K dX5_forget_8 (by decide) ?_
  obtain ⟨g6, e7, hf⟩ := ob1_s hf
  refine r_putV (ci := 5) (k := 4) (ty0 := tyX5) (ty := tyX5 4) K dX5_forget_9 inX5 rfl (by decide) rfl q_276 tyX5_ok nmX5 rfl rfl rfl rfl e7 ?_
  refine r_aload_n K 0 dX5_forget_12 rfl ?_
  obtain ⟨b8, e9, hf⟩ := ob1_s hf
  refine r_getR (ci := 5) (k := 0) K dX5_forget_13 inX5 rfl (by decide) rfl q_268 e9 ?_
  refine r_iconst (v := (0 : Int32)) K dX5_forget_16 (by decide) ?_
  obtain ⟨g10, e11, hf⟩ := ob1_s hf
  refine r_callS (As := [.ref b8, .int (0 : Int32)]) (rest := []) (st1 := []) (cells1 := 0) (slots1 := 0) K (mJ7_fill_53178 l e11) dX5_forget_17 ceJ7_fill_53178 q_613 q_614 q_87 q_615 ⟨Nat.le_of_ble_eq_true rfl, Nat.le_of_ble_eq_true rfl⟩ (Nat.le_of_ble_eq_true rfl) ⟨Nat.le_of_ble_eq_true rfl, Nat.le_of_ble_eq_true rfl⟩ ?_ rfl rfl rfl rfl
  refine r_iconst (v := (0 : Int32)) K dX5_forget_20 (by decide) ?_
  refine r_istore_n (lv1 := [(1, .int (0 : Int32)), (0, .ref a0)]) K dX5_forget_21 (by decide) rfl ?_
  refine r_lv [1, 0] rfl ?_
  refine wX5_forget_L22 K ht _ (fun g20 hf => ?_) lf (0 : Int32) g10 hf
  exact r_vret K dX5_forget_43 hf (Nat.le_of_ble_eq_true rfl) (Nat.le_of_ble_eq_true rfl)
theorem ceX5_stepOf : CE yX5_stepOf 2 := ⟨by decide, by decide, by decide +kernel⟩
abbrev rmX5_stepOf : Room := { frames := 2, cells := 0, slots := 0, locals := 47 }
def fX5_stepOf_L2 (a0 : Nat) (x1 : Int32) (a2 : Nat) (k : AH → Option (Int32 × AH)) : Nat → Int32 → AH → Option (Int32 × AH)
  | 0, _, _ => none
  | n + 1, x3, h =>
    ob1 (gI h a2 2 0) fun v1 =>
    if v1 ≤ x3 then
      k h
    else
      ob1 (gR h a0 5 1) fun b3 =>
      ob1 (aR h b3 3 x1) fun b5 =>
      ob1 (aI h b5 0 x3) fun v7 =>
      if v7 ≤ (0 : Int32) then
        bnd (x3 + (1 : Int32)) fun y9 =>
        fX5_stepOf_L2 a0 x1 a2 k n y9 h
      else
        ob1 (gR h a2 2 3) fun b10 =>
        ob1 (aI h b10 0 x3) fun v12 =>
        ob1 (gR h a2 2 5) fun b14 =>
        ob1 (aI h b14 0 x3) fun v16 =>
        ob2 (fX5_leastRow a0 a2 v12 v16 h) fun r18 g19 =>
        if r18 ≤ (0 : Int32) then
          bnd (x3 + (1 : Int32)) fun y21 =>
          fX5_stepOf_L2 a0 x1 a2 k n y21 g19
        else
          ob1 (gR g19 a0 5 7) fun b22 =>
          ob1 (aL g19 b22 r18) fun v24 =>
          ob1 (gR g19 a0 5 7) fun b26 =>
          ob1 (aL g19 b26 x3) fun v28 =>
          if v28 ≤ v24 then
            bnd (x3 + (1 : Int32)) fun y30 =>
            fX5_stepOf_L2 a0 x1 a2 k n y30 g19
          else
            ob1 (fX5_move a0 a2 x1 x3 (-1 : Int32) g19) fun g31 =>
            ob1 (fX5_move a0 a2 x1 r18 (1 : Int32) g31) fun g33 =>
            some ((1 : Int32), g33)
def fX5_stepOf (a0 : Nat) (x1 : Int32) (a2 : Nat) (h : AH) : Option (Int32 × AH) :=
  fX5_stepOf_L2 a0 x1 a2 (fun (g39 : AH) =>
    some ((0 : Int32), g39)
  ) lf (1 : Int32) h
set_option maxHeartbeats 4000000 in
set_option maxRecDepth 100000 in
theorem wX5_stepOf_L2 {p : Program} {l : Launch} {e : Env} {s : State} {m : MethodId} {args : Array Value} {below : List Frame} {meth : Method} {c : Code} {G : GG} {b0 : Nat} {h0 : AH} {a0 : Nat} {x1 : Int32} {a2 : Nat} {rr : Int32} {hh : AH} (K : CX p s m args meth c cX5_stepOf 5 RX5 (some .boolean) G b0) (ht : isO h0 a0 5) (k : AH → Option (Int32 × AH)) (hk : ∀ (h : AH), k h = some (rr, hh) → WA p l e rmX5_stepOf s m args below meth c (MQ below (QG G b0 h0 (some (.int rr)) hh) args s (rmX5_stepOf).cells (rmX5_stepOf).slots (AB b0)) G b0 5 h0 0 0 h 87 [] []) : ∀ (n : Nat) (x3 : Int32) (h : AH), fX5_stepOf_L2 a0 x1 a2 k n x3 h = some (rr, hh) → WA p l e rmX5_stepOf s m args below meth c (MQ below (QG G b0 h0 (some (.int rr)) hh) args s (rmX5_stepOf).cells (rmX5_stepOf).slots (AB b0)) G b0 5 h0 0 0 h 2 [(0, .ref a0), (1, .int x1), (2, .ref a2), (3, .int x3)] [] := by
  intro n
  induction n with
  | zero =>
    intro x3 h hf
    rw [fX5_stepOf_L2] at hf
    cases hf
  | succ n ih =>
    intro x3 h hf
    rw [fX5_stepOf_L2] at hf
    refine r_iload_n K 3 dX5_stepOf_2 rfl ?_
    refine r_aload_n K 2 dX5_stepOf_3 rfl ?_
    obtain ⟨v1, e2, hf⟩ := ob1_s hf
    refine r_getI (ci := 2) (k := 0) K dX5_stepOf_4 inX2 rfl (by decide) rfl q_186 e2 ?_
    refine r_icmp_ge (tgt := 87) K dX5_stepOf_7 (by decide) (fun c38 => ?_) (fun c38 => ?_)
    · replace hf := ite_t hf c38
      refine r_lv [] rfl ?_
      exact hk h hf
    · replace hf := ite_f hf c38
      refine r_aload_n K 0 dX5_stepOf_10 rfl ?_
      obtain ⟨b3, e4, hf⟩ := ob1_s hf
      refine r_getR (ci := 5) (k := 1) K dX5_stepOf_11 inX5 rfl (by decide) rfl q_270 e4 ?_
      refine r_iload_n K 1 dX5_stepOf_14 rfl ?_
      obtain ⟨b5, e6, hf⟩ := ob1_s hf
      refine r_aaload (kd := 3) (ty := .array .int) K dX5_stepOf_15 rfl rfl e6 ?_
      refine r_iload_n K 3 dX5_stepOf_16 rfl ?_
      obtain ⟨v7, e8, hf⟩ := ob1_s hf
      refine r_iaload K dX5_stepOf_17 e8 ?_
      refine r_if_le (tgt := 81) K dX5_stepOf_18 (by decide) (fun c37 => ?_) (fun c37 => ?_)
      · replace hf := ite_t hf c37
        obtain ⟨y9, ey9, hf⟩ := bnd_g hf
        refine r_iinc (lv1 := [(3, .int y9), (0, .ref a0), (1, .int x1), (2, .ref a2)]) K 3 dX5_stepOf_81 rfl (by rw [ey9]; rfl) (by decide) rfl ?_
        refine r_goto (tgt := 2) K dX5_stepOf_84 (by decide) ?_
        refine r_lv [1, 2, 3, 0] rfl ?_
        exact ih y9 h hf
      · replace hf := ite_f hf c37
        refine r_aload_n K 0 dX5_stepOf_21 rfl ?_
        refine r_aload_n K 2 dX5_stepOf_22 rfl ?_
        refine r_aload_n K 2 dX5_stepOf_23 rfl ?_
        obtain ⟨b10, e11, hf⟩ := ob1_s hf
        refine r_getR (ci := 2) (k := 3) K dX5_stepOf_24 inX2 rfl (by decide) rfl q_193 e11 ?_
        refine r_iload_n K 3 dX5_stepOf_27 rfl ?_
        obtain ⟨v12, e13, hf⟩ := ob1_s hf
        refine r_iaload K dX5_stepOf_28 e13 ?_
        refine r_aload_n K 2 dX5_stepOf_29 rfl ?_
        obtain ⟨b14, e15, hf⟩ := ob1_s hf
        refine r_getR (ci := 2) (k := 5) K dX5_stepOf_30 inX2 rfl (by decide) rfl q_197 e15 ?_
        refine r_iload_n K 3 dX5_stepOf_33 rfl ?_
        obtain ⟨v16, e17, hf⟩ := ob1_s hf
        refine r_iaload K dX5_stepOf_34 e17 ?_
        obtain ⟨r18, g19, e20, hf⟩ := ob2_s hf
        refine r_callV (As := [.ref a2, .int v12, .int v16]) (rest := []) (st1 := [.int r18]) (cells1 := 0) (slots1 := 0) (b := a0) (ci := 5) K (fun z => mX5_leastRow l z e20) dX5_stepOf_35 rfl (fun z => z _ _ ht) rfl ceX5_leastRow q_637 q_639 q_16 q_81 q_640 ⟨Nat.le_of_ble_eq_true rfl, Nat.le_of_ble_eq_true rfl⟩ (Nat.le_of_ble_eq_true rfl) ⟨Nat.le_of_ble_eq_true rfl, Nat.le_of_ble_eq_true rfl⟩ ?_ rfl rfl rfl rfl
        refine r_istore (lv1 := [(4, .int r18), (0, .ref a0), (1, .int x1), (2, .ref a2), (3, .int x3)]) K dX5_stepOf_38 (by decide) rfl ?_
        refine r_iload K 0 dX5_stepOf_40 rfl ?_
        refine r_if_le (tgt := 81) K dX5_stepOf_42 (by decide) (fun c36 => ?_) (fun c36 => ?_)
        · replace hf := ite_t hf c36
          obtain ⟨y21, ey21, hf⟩ := bnd_g hf
          refine r_iinc (lv1 := [(3, .int y21), (4, .int r18), (0, .ref a0), (1, .int x1), (2, .ref a2)]) K 4 dX5_stepOf_81 rfl (by rw [ey21]; rfl) (by decide) rfl ?_
          refine r_goto (tgt := 2) K dX5_stepOf_84 (by decide) ?_
          refine r_lv [2, 3, 4, 0] rfl ?_
          exact ih y21 g19 hf
        · replace hf := ite_f hf c36
          refine r_aload_n K 1 dX5_stepOf_45 rfl ?_
          obtain ⟨b22, e23, hf⟩ := ob1_s hf
          refine r_getR (ci := 5) (k := 7) K dX5_stepOf_46 inX5 rfl (by decide) rfl q_280 e23 ?_
          refine r_iload K 0 dX5_stepOf_49 rfl ?_
          obtain ⟨v24, e25, hf⟩ := ob1_s hf
          refine r_laload K dX5_stepOf_51 e25 ?_
          refine r_aload_n K 1 dX5_stepOf_52 rfl ?_
          obtain ⟨b26, e27, hf⟩ := ob1_s hf
          refine r_getR (ci := 5) (k := 7) K dX5_stepOf_53 inX5 rfl (by decide) rfl q_280 e27 ?_
          refine r_iload_n K 4 dX5_stepOf_56 rfl ?_
          obtain ⟨v28, e29, hf⟩ := ob1_s hf
          refine r_laload K dX5_stepOf_57 e29 ?_
          refine r_lif_ge (tgt := 81) K dX5_stepOf_58 dX5_stepOf_59 (by decide) (fun c35 => ?_) (fun c35 => ?_)
          · replace hf := ite_t hf c35
            obtain ⟨y30, ey30, hf⟩ := bnd_g hf
            refine r_iinc (lv1 := [(3, .int y30), (4, .int r18), (0, .ref a0), (1, .int x1), (2, .ref a2)]) K 4 dX5_stepOf_81 rfl (by rw [ey30]; rfl) (by decide) rfl ?_
            refine r_goto (tgt := 2) K dX5_stepOf_84 (by decide) ?_
            refine r_lv [2, 3, 4, 0] rfl ?_
            exact ih y30 g19 hf
          · replace hf := ite_f hf c35
            refine r_aload_n K 1 dX5_stepOf_62 rfl ?_
            refine r_aload_n K 3 dX5_stepOf_63 rfl ?_
            refine r_iload_n K 2 dX5_stepOf_64 rfl ?_
            refine r_iload_n K 4 dX5_stepOf_65 rfl ?_
            refine r_iconst (v := (-1 : Int32)) K dX5_stepOf_66 (by decide) ?_
            obtain ⟨g31, e32, hf⟩ := ob1_s hf
            refine r_callV (As := [.ref a2, .int x1, .int x3, .int (-1 : Int32)]) (rest := []) (st1 := []) (cells1 := 0) (slots1 := 0) (b := a0) (ci := 5) K (fun z => mX5_move l z e32) dX5_stepOf_67 rfl (fun z => z _ _ ht) rfl ceX5_move q_641 q_643 q_17 q_81 q_644 ⟨Nat.le_of_ble_eq_true rfl, Nat.le_of_ble_eq_true rfl⟩ (Nat.le_of_ble_eq_true rfl) ⟨Nat.le_of_ble_eq_true rfl, Nat.le_of_ble_eq_true rfl⟩ ?_ rfl rfl rfl rfl
            refine r_aload_n K 1 dX5_stepOf_70 rfl ?_
            refine r_aload_n K 3 dX5_stepOf_71 rfl ?_
            refine r_iload_n K 2 dX5_stepOf_72 rfl ?_
            refine r_iload K 0 dX5_stepOf_73 rfl ?_
            refine r_iconst (v := (1 : Int32)) K dX5_stepOf_75 (by decide) ?_
            obtain ⟨g33, e34, hf⟩ := ob1_s hf
            refine r_callV (As := [.ref a2, .int x1, .int r18, .int (1 : Int32)]) (rest := []) (st1 := []) (cells1 := 0) (slots1 := 0) (b := a0) (ci := 5) K (fun z => mX5_move l z e34) dX5_stepOf_76 rfl (fun z => z _ _ ht) rfl ceX5_move q_641 q_643 q_17 q_81 q_644 ⟨Nat.le_of_ble_eq_true rfl, Nat.le_of_ble_eq_true rfl⟩ (Nat.le_of_ble_eq_true rfl) ⟨Nat.le_of_ble_eq_true rfl, Nat.le_of_ble_eq_true rfl⟩ ?_ rfl rfl rfl rfl
            refine r_iconst (v := (1 : Int32)) K dX5_stepOf_79 (by decide) ?_
            exact r_zret K dX5_stepOf_80 rfl hf (Nat.le_of_ble_eq_true rfl) (Nat.le_of_ble_eq_true rfl)
set_option maxHeartbeats 4000000 in
set_option maxRecDepth 100000 in
theorem mX5_stepOf (l : Launch) {G : GG} {b0 : Nat} {h : AH} {a0 : Nat} {x1 : Int32} {a2 : Nat} {rr : Int32} {hh : AH} (ht : isO h a0 5) (hf : fX5_stepOf a0 x1 a2 h = some (rr, hh)) : MM l yX5_stepOf cX5_stepOf 5 (some .boolean) rmX5_stepOf G b0 h [.ref a0, .int x1, .ref a2] (some (.int rr)) hh := by
  refine MM.of (own := RX5) (lv0 := [(0, .ref a0), (1, .int x1), (2, .ref a2)]) (by decide) rfl (Nat.le_of_ble_eq_true rfl) rfl ?_
  intro p e s m args below meth c K hnm
  unfold fX5_stepOf at hf
  refine r_iconst (v := (1 : Int32)) K dX5_stepOf_0 (by decide) ?_
  refine r_istore_n (lv1 := [(3, .int (1 : Int32)), (0, .ref a0), (1, .int x1), (2, .ref a2)]) K dX5_stepOf_1 (by decide) rfl ?_
  refine r_lv [1, 2, 3, 0] rfl ?_
  refine wX5_stepOf_L2 K ht _ (fun g39 hf => ?_) lf (1 : Int32) h hf
  refine r_iconst (v := (0 : Int32)) K dX5_stepOf_87 (by decide) ?_
  exact r_zret K dX5_stepOf_88 rfl hf (Nat.le_of_ble_eq_true rfl) (Nat.le_of_ble_eq_true rfl)
theorem ceX5_step : CE yX5_step 3 := ⟨by decide, by decide, by decide +kernel⟩
abbrev rmX5_step : Room := { frames := 3, cells := 0, slots := 0, locals := 75 }
def fX5_step_L3 (a0 : Nat) (a1 : Nat) (a2 : Nat) (x3 : Int32) (k : AH → Option (Int32 × AH)) : Nat → Int32 → AH → Option (Int32 × AH)
  | 0, _, _ => none
  | n + 1, x4, h =>
    if (3 : Int32) ≤ x4 then
      k h
    else
      ob1 (gR h a1 1 4) fun b1 =>
      ob1 (aR h b1 3 x4) fun b3 =>
      ob1 (aI h b3 0 (1 : Int32)) fun v5 =>
      if v5 ≤ (0 : Int32) then
        bnd (x4 + (1 : Int32)) fun y7 =>
        fX5_step_L3 a0 a1 a2 x3 k n y7 h
      else
        ob1 (fX5_tellPrices a0 a1 x3 x4 h) fun g8 =>
        ob2 (fX5_stepOf a0 x4 a2 g8) fun r10 g11 =>
        if r10 = (0 : Int32) then
          bnd (x4 + (1 : Int32)) fun y13 =>
          fX5_step_L3 a0 a1 a2 x3 k n y13 g11
        else
          some ((1 : Int32), g11)
def fX5_step (a0 : Nat) (a1 : Nat) (a2 : Nat) (x3 : Int32) (h : AH) : Option (Int32 × AH) :=
  fX5_step_L3 a0 a1 a2 x3 (fun (g17 : AH) =>
    some ((0 : Int32), g17)
  ) lf (0 : Int32) h
set_option maxHeartbeats 4000000 in
set_option maxRecDepth 100000 in
theorem wX5_step_L3 {p : Program} {l : Launch} {e : Env} {s : State} {m : MethodId} {args : Array Value} {below : List Frame} {meth : Method} {c : Code} {G : GG} {b0 : Nat} {h0 : AH} {a0 : Nat} {a1 : Nat} {a2 : Nat} {x3 : Int32} {rr : Int32} {hh : AH} (K : CX p s m args meth c cX5_step 5 RX5 (some .boolean) G b0) (ht : isO h0 a0 5) (k : AH → Option (Int32 × AH)) (hk : ∀ (h : AH), k h = some (rr, hh) → WA p l e rmX5_step s m args below meth c (MQ below (QG G b0 h0 (some (.int rr)) hh) args s (rmX5_step).cells (rmX5_step).slots (AB b0)) G b0 5 h0 0 0 h 47 [] []) : ∀ (n : Nat) (x4 : Int32) (h : AH), fX5_step_L3 a0 a1 a2 x3 k n x4 h = some (rr, hh) → WA p l e rmX5_step s m args below meth c (MQ below (QG G b0 h0 (some (.int rr)) hh) args s (rmX5_step).cells (rmX5_step).slots (AB b0)) G b0 5 h0 0 0 h 3 [(0, .ref a0), (1, .ref a1), (2, .ref a2), (3, .int x3), (4, .int x4)] [] := by
  intro n
  induction n with
  | zero =>
    intro x4 h hf
    rw [fX5_step_L3] at hf
    cases hf
  | succ n ih =>
    intro x4 h hf
    rw [fX5_step_L3] at hf
    refine r_iload K 4 dX5_step_3 rfl ?_
    refine r_iconst (v := (3 : Int32)) K dX5_step_5 (by decide) ?_
    refine r_icmp_ge (tgt := 47) K dX5_step_6 (by decide) (fun c16 => ?_) (fun c16 => ?_)
    · replace hf := ite_t hf c16
      refine r_lv [] rfl ?_
      exact hk h hf
    · replace hf := ite_f hf c16
      refine r_aload_n K 1 dX5_step_9 rfl ?_
      obtain ⟨b1, e2, hf⟩ := ob1_s hf
      refine r_getR (ci := 1) (k := 4) K dX5_step_10 inX1 rfl (by decide) rfl q_166 e2 ?_
      refine r_iload K 4 dX5_step_13 rfl ?_
      obtain ⟨b3, e4, hf⟩ := ob1_s hf
      refine r_aaload (kd := 3) (ty := .array .int) K dX5_step_15 rfl rfl e4 ?_
      refine r_iconst (v := (1 : Int32)) K dX5_step_16 (by decide) ?_
      obtain ⟨v5, e6, hf⟩ := ob1_s hf
      refine r_iaload K dX5_step_17 e6 ?_
      refine r_if_le (tgt := 41) K dX5_step_18 (by decide) (fun c15 => ?_) (fun c15 => ?_)
      · replace hf := ite_t hf c15
        obtain ⟨y7, ey7, hf⟩ := bnd_g hf
        refine r_iinc (lv1 := [(4, .int y7), (0, .ref a0), (1, .ref a1), (2, .ref a2), (3, .int x3)]) K 4 dX5_step_41 rfl (by rw [ey7]; rfl) (by decide) rfl ?_
        refine r_goto (tgt := 3) K dX5_step_44 (by decide) ?_
        refine r_lv [1, 2, 3, 4, 0] rfl ?_
        exact ih y7 h hf
      · replace hf := ite_f hf c15
        refine r_aload_n K 0 dX5_step_21 rfl ?_
        refine r_aload_n K 1 dX5_step_22 rfl ?_
        refine r_iload_n K 3 dX5_step_23 rfl ?_
        refine r_iload K 4 dX5_step_24 rfl ?_
        obtain ⟨g8, e9, hf⟩ := ob1_s hf
        refine r_callV (As := [.ref a1, .int x3, .int x4]) (rest := []) (st1 := []) (cells1 := 0) (slots1 := 0) (b := a0) (ci := 5) K (fun z => mX5_tellPrices l z e9) dX5_step_26 rfl (fun z => z _ _ ht) rfl ceX5_tellPrices q_624 q_626 q_15 q_81 q_627 ⟨Nat.le_of_ble_eq_true rfl, Nat.le_of_ble_eq_true rfl⟩ (Nat.le_of_ble_eq_true rfl) ⟨Nat.le_of_ble_eq_true rfl, Nat.le_of_ble_eq_true rfl⟩ ?_ rfl rfl rfl rfl
        refine r_aload_n K 0 dX5_step_29 rfl ?_
        refine r_iload K 4 dX5_step_30 rfl ?_
        refine r_aload_n K 2 dX5_step_32 rfl ?_
        obtain ⟨r10, g11, e12, hf⟩ := ob2_s hf
        refine r_callV (As := [.int x4, .ref a2]) (rest := []) (st1 := [.int r10]) (cells1 := 0) (slots1 := 0) (b := a0) (ci := 5) K (fun z => mX5_stepOf l z e12) dX5_step_33 rfl (fun z => z _ _ ht) rfl ceX5_stepOf q_653 q_655 q_19 q_81 q_656 ⟨Nat.le_of_ble_eq_true rfl, Nat.le_of_ble_eq_true rfl⟩ (Nat.le_of_ble_eq_true rfl) ⟨Nat.le_of_ble_eq_true rfl, Nat.le_of_ble_eq_true rfl⟩ ?_ rfl rfl rfl rfl
        refine r_if_eq (tgt := 41) K dX5_step_36 (by decide) (fun c14 => ?_) (fun c14 => ?_)
        · replace hf := ite_t hf c14
          obtain ⟨y13, ey13, hf⟩ := bnd_g hf
          refine r_iinc (lv1 := [(4, .int y13), (0, .ref a0), (1, .ref a1), (2, .ref a2), (3, .int x3)]) K 4 dX5_step_41 rfl (by rw [ey13]; rfl) (by decide) rfl ?_
          refine r_goto (tgt := 3) K dX5_step_44 (by decide) ?_
          refine r_lv [1, 2, 3, 4, 0] rfl ?_
          exact ih y13 g11 hf
        · replace hf := ite_f hf c14
          refine r_iconst (v := (1 : Int32)) K dX5_step_39 (by decide) ?_
          exact r_zret K dX5_step_40 rfl hf (Nat.le_of_ble_eq_true rfl) (Nat.le_of_ble_eq_true rfl)
set_option maxHeartbeats 4000000 in
set_option maxRecDepth 100000 in
theorem mX5_step (l : Launch) {G : GG} {b0 : Nat} {h : AH} {a0 : Nat} {a1 : Nat} {a2 : Nat} {x3 : Int32} {rr : Int32} {hh : AH} (ht : isO h a0 5) (hf : fX5_step a0 a1 a2 x3 h = some (rr, hh)) : MM l yX5_step cX5_step 5 (some .boolean) rmX5_step G b0 h [.ref a0, .ref a1, .ref a2, .int x3] (some (.int rr)) hh := by
  refine MM.of (own := RX5) (lv0 := [(0, .ref a0), (1, .ref a1), (2, .ref a2), (3, .int x3)]) (by decide) rfl (Nat.le_of_ble_eq_true rfl) rfl ?_
  intro p e s m args below meth c K hnm
  unfold fX5_step at hf
  refine r_iconst (v := (0 : Int32)) K dX5_step_0 (by decide) ?_
  refine r_istore (lv1 := [(4, .int (0 : Int32)), (0, .ref a0), (1, .ref a1), (2, .ref a2), (3, .int x3)]) K dX5_step_1 (by decide) rfl ?_
  refine r_lv [1, 2, 3, 4, 0] rfl ?_
  refine wX5_step_L3 K ht _ (fun g17 hf => ?_) lf (0 : Int32) h hf
  refine r_iconst (v := (0 : Int32)) K dX5_step_47 (by decide) ?_
  exact r_zret K dX5_step_48 rfl hf (Nat.le_of_ble_eq_true rfl) (Nat.le_of_ble_eq_true rfl)
theorem ceX5_settle : CE yX5_settle 3 := ⟨by decide, by decide, by decide +kernel⟩
abbrev rmX5_settle : Room := { frames := 4, cells := 0, slots := 0, locals := 100 }
def fX5_settle_L24 (a0 : Nat) (a1 : Nat) (a2 : Nat) (x3 : Int32) (k : AH → Option AH) : Nat → Int32 → AH → Option AH
  | 0, _, _ => none
  | n + 1, x4, h =>
    if (3 : Int32) ≤ x4 then
      k h
    else
      ob1 (fX5_arrive a0 a1 a2 x3 x4 h) fun g10 =>
      bnd (x4 + (1 : Int32)) fun y12 =>
      fX5_settle_L24 a0 a1 a2 x3 k n y12 g10
def fX5_settle_L48 (a0 : Nat) (a1 : Nat) (a2 : Nat) (x3 : Int32) (k : AH → Option AH) : Nat → Int32 → AH → Option AH
  | 0, _, _ => none
  | n + 1, x4, h =>
    if (400 : Int32) ≤ x4 then
      k h
    else
      ob2 (fX5_step a0 a1 a2 x3 h) fun r15 g16 =>
      if r15 = (0 : Int32) then
        k g16
      else
        ob1 (gI g16 a0 5 4) fun v18 =>
        ob1 (pV g16 a0 5 4 (.int (v18 + (1 : Int32)))) fun g20 =>
        bnd (x4 + (1 : Int32)) fun y22 =>
        fX5_settle_L48 a0 a1 a2 x3 k n y22 g20
def fX5_settle (a0 : Nat) (a1 : Nat) (a2 : Nat) (x3 : Int32) (h : AH) : Option AH :=
  ob1 (fX5_forget a0 h) fun g1 =>
  ob1 (fX5_canAllDrive a1 a2 g1) fun r3 =>
  gd (zb r3) <|
  ob1 (pV g1 a0 5 3 (.int r3)) fun g6 =>
  ob1 (gI g6 a0 5 3) fun v8 =>
  if v8 = (0 : Int32) then
    some g6
  else
    fX5_settle_L24 a0 a1 a2 x3 (fun (g14 : AH) =>
      fX5_settle_L48 a0 a1 a2 x3 (fun (g25 : AH) =>
        ob1 (gR g25 a0 5 0) fun b26 =>
        ob1 (gR g25 a0 5 2) fun b28 =>
        gd (ckO g25 a1 1) <|
        ob1 (fX1_addUp a1 b26 b28 g25) fun g31 =>
        some g31
      ) lf (0 : Int32) g14
    ) lf (0 : Int32) g6
set_option maxHeartbeats 4000000 in
set_option maxRecDepth 100000 in
theorem wX5_settle_L24 {p : Program} {l : Launch} {e : Env} {s : State} {m : MethodId} {args : Array Value} {below : List Frame} {meth : Method} {c : Code} {G : GG} {b0 : Nat} {h0 : AH} {a0 : Nat} {a1 : Nat} {a2 : Nat} {x3 : Int32} {hh : AH} (K : CX p s m args meth c cX5_settle 5 RX5 (none) G b0) (ht : isO h0 a0 5) (k : AH → Option AH) (hk : ∀ (h : AH), k h = some hh → WA p l e rmX5_settle s m args below meth c (MQ below (QG G b0 h0 none hh) args s (rmX5_settle).cells (rmX5_settle).slots (AB b0)) G b0 5 h0 0 0 h 45 [(0, .ref a0), (1, .ref a1), (2, .ref a2), (3, .int x3)] []) : ∀ (n : Nat) (x4 : Int32) (h : AH), fX5_settle_L24 a0 a1 a2 x3 k n x4 h = some hh → WA p l e rmX5_settle s m args below meth c (MQ below (QG G b0 h0 none hh) args s (rmX5_settle).cells (rmX5_settle).slots (AB b0)) G b0 5 h0 0 0 h 24 [(0, .ref a0), (1, .ref a1), (2, .ref a2), (3, .int x3), (4, .int x4)] [] := by
  intro n
  induction n with
  | zero =>
    intro x4 h hf
    rw [fX5_settle_L24] at hf
    cases hf
  | succ n ih =>
    intro x4 h hf
    rw [fX5_settle_L24] at hf
    refine r_iload K 4 dX5_settle_24 rfl ?_
    refine r_iconst (v := (3 : Int32)) K dX5_settle_26 (by decide) ?_
    refine r_icmp_ge (tgt := 45) K dX5_settle_27 (by decide) (fun c13 => ?_) (fun c13 => ?_)
    · replace hf := ite_t hf c13
      refine r_lv [0, 1, 2, 3] rfl ?_
      exact hk h hf
    · replace hf := ite_f hf c13
      refine r_aload_n K 0 dX5_settle_30 rfl ?_
      refine r_aload_n K 1 dX5_settle_31 rfl ?_
      refine r_aload_n K 2 dX5_settle_32 rfl ?_
      refine r_iload_n K 3 dX5_settle_33 rfl ?_
      refine r_iload K 4 dX5_settle_34 rfl ?_
      obtain ⟨g10, e11, hf⟩ := ob1_s hf
      refine r_callV (As := [.ref a1, .ref a2, .int x3, .int x4]) (rest := []) (st1 := []) (cells1 := 0) (slots1 := 0) (b := a0) (ci := 5) K (fun z => mX5_arrive l z e11) dX5_settle_36 rfl (fun z => z _ _ ht) rfl ceX5_arrive q_620 q_622 q_14 q_81 q_623 ⟨Nat.le_of_ble_eq_true rfl, Nat.le_of_ble_eq_true rfl⟩ (Nat.le_of_ble_eq_true rfl) ⟨Nat.le_of_ble_eq_true rfl, Nat.le_of_ble_eq_true rfl⟩ ?_ rfl rfl rfl rfl
      obtain ⟨y12, ey12, hf⟩ := bnd_g hf
      refine r_iinc (lv1 := [(4, .int y12), (0, .ref a0), (1, .ref a1), (2, .ref a2), (3, .int x3)]) K 4 dX5_settle_39 rfl (by rw [ey12]; rfl) (by decide) rfl ?_
      refine r_goto (tgt := 24) K dX5_settle_42 (by decide) ?_
      refine r_lv [1, 2, 3, 4, 0] rfl ?_
      exact ih y12 g10 hf
set_option maxHeartbeats 4000000 in
set_option maxRecDepth 100000 in
theorem wX5_settle_L48 {p : Program} {l : Launch} {e : Env} {s : State} {m : MethodId} {args : Array Value} {below : List Frame} {meth : Method} {c : Code} {G : GG} {b0 : Nat} {h0 : AH} {a0 : Nat} {a1 : Nat} {a2 : Nat} {x3 : Int32} {hh : AH} (K : CX p s m args meth c cX5_settle 5 RX5 (none) G b0) (ht : isO h0 a0 5) (k : AH → Option AH) (hk : ∀ (h : AH), k h = some hh → WA p l e rmX5_settle s m args below meth c (MQ below (QG G b0 h0 none hh) args s (rmX5_settle).cells (rmX5_settle).slots (AB b0)) G b0 5 h0 0 0 h 82 [(0, .ref a0), (1, .ref a1)] []) : ∀ (n : Nat) (x4 : Int32) (h : AH), fX5_settle_L48 a0 a1 a2 x3 k n x4 h = some hh → WA p l e rmX5_settle s m args below meth c (MQ below (QG G b0 h0 none hh) args s (rmX5_settle).cells (rmX5_settle).slots (AB b0)) G b0 5 h0 0 0 h 48 [(0, .ref a0), (1, .ref a1), (2, .ref a2), (3, .int x3), (4, .int x4)] [] := by
  intro n
  induction n with
  | zero =>
    intro x4 h hf
    rw [fX5_settle_L48] at hf
    cases hf
  | succ n ih =>
    intro x4 h hf
    rw [fX5_settle_L48] at hf
    refine r_iload K 4 dX5_settle_48 rfl ?_
    refine r_sipush (v := (400 : Int32)) K dX5_settle_50 (by decide) ?_
    refine r_icmp_ge (tgt := 82) K dX5_settle_53 (by decide) (fun c24 => ?_) (fun c24 => ?_)
    · replace hf := ite_t hf c24
      refine r_lv [0, 1] rfl ?_
      exact hk h hf
    · replace hf := ite_f hf c24
      refine r_aload_n K 0 dX5_settle_56 rfl ?_
      refine r_aload_n K 1 dX5_settle_57 rfl ?_
      refine r_aload_n K 2 dX5_settle_58 rfl ?_
      refine r_iload_n K 3 dX5_settle_59 rfl ?_
      obtain ⟨r15, g16, e17, hf⟩ := ob2_s hf
      refine r_callV (As := [.ref a1, .ref a2, .int x3]) (rest := []) (st1 := [.int r15]) (cells1 := 0) (slots1 := 0) (b := a0) (ci := 5) K (fun z => mX5_step l z e17) dX5_settle_60 rfl (fun z => z _ _ ht) rfl ceX5_step q_649 q_651 q_18 q_81 q_652 ⟨Nat.le_of_ble_eq_true rfl, Nat.le_of_ble_eq_true rfl⟩ (Nat.le_of_ble_eq_true rfl) ⟨Nat.le_of_ble_eq_true rfl, Nat.le_of_ble_eq_true rfl⟩ ?_ rfl rfl rfl rfl
      refine r_if_eq (tgt := 82) K dX5_settle_63 (by decide) (fun c23 => ?_) (fun c23 => ?_)
      · replace hf := ite_t hf c23
        refine r_lv [0, 1] rfl ?_
        exact hk g16 hf
      · replace hf := ite_f hf c23
        refine r_aload_n K 0 dX5_settle_66 rfl ?_
        refine r_dup K dX5_settle_67 rfl ?_
        obtain ⟨v18, e19, hf⟩ := ob1_s hf
        refine r_getI (ci := 5) (k := 4) K dX5_settle_68 inX5 rfl (by decide) rfl q_276 e19 ?_
        refine r_iconst (v := (1 : Int32)) K dX5_settle_71 (by decide) ?_
        refine r_iadd K dX5_settle_72 ?_
        obtain ⟨g20, e21, hf⟩ := ob1_s hf
        refine r_putV (ci := 5) (k := 4) (ty0 := tyX5) (ty := tyX5 4) K dX5_settle_73 inX5 rfl (by decide) rfl q_276 tyX5_ok nmX5 rfl rfl rfl rfl e21 ?_
        obtain ⟨y22, ey22, hf⟩ := bnd_g hf
        refine r_iinc (lv1 := [(4, .int y22), (0, .ref a0), (1, .ref a1), (2, .ref a2), (3, .int x3)]) K 4 dX5_settle_76 rfl (by rw [ey22]; rfl) (by decide) rfl ?_
        refine r_goto (tgt := 48) K dX5_settle_79 (by decide) ?_
        refine r_lv [1, 2, 3, 4, 0] rfl ?_
        exact ih y22 g20 hf
set_option maxHeartbeats 4000000 in
set_option maxRecDepth 100000 in
theorem mX5_settle (l : Launch) {G : GG} {b0 : Nat} {h : AH} {a0 : Nat} {a1 : Nat} {a2 : Nat} {x3 : Int32} {hh : AH} (ht : isO h a0 5) (hf : fX5_settle a0 a1 a2 x3 h = some hh) : MM l yX5_settle cX5_settle 5 (none) rmX5_settle G b0 h [.ref a0, .ref a1, .ref a2, .int x3] none hh := by
  refine MM.of (own := RX5) (lv0 := [(0, .ref a0), (1, .ref a1), (2, .ref a2), (3, .int x3)]) (by decide) rfl (Nat.le_of_ble_eq_true rfl) rfl ?_
  intro p e s m args below meth c K hnm
  unfold fX5_settle at hf
  refine r_aload_n K 0 dX5_settle_0 rfl ?_
  obtain ⟨g1, e2, hf⟩ := ob1_s hf
  refine r_callV (As := []) (rest := []) (st1 := []) (cells1 := 0) (slots1 := 0) (b := a0) (ci := 5) K (fun z => mX5_forget l z e2) dX5_settle_1 rfl (fun z => z _ _ ht) rfl ceX5_forget q_605 q_607 q_13 q_81 q_608 ⟨Nat.le_of_ble_eq_true rfl, Nat.le_of_ble_eq_true rfl⟩ (Nat.le_of_ble_eq_true rfl) ⟨Nat.le_of_ble_eq_true rfl, Nat.le_of_ble_eq_true rfl⟩ ?_ rfl rfl rfl rfl
  refine r_aload_n K 0 dX5_settle_4 rfl ?_
  refine r_aload_n K 1 dX5_settle_5 rfl ?_
  refine r_aload_n K 2 dX5_settle_6 rfl ?_
  obtain ⟨r3, e4, hf⟩ := ob1_s hf
  refine r_callS (As := [.ref a1, .ref a2]) (rest := [.ref a0]) (st1 := [.int r3, .ref a0]) (cells1 := 0) (slots1 := 0) K (mX5_canAllDrive l e4) dX5_settle_7 ceX5_canAllDrive q_616 q_617 q_81 q_618 ⟨Nat.le_of_ble_eq_true rfl, Nat.le_of_ble_eq_true rfl⟩ (Nat.le_of_ble_eq_true rfl) ⟨Nat.le_of_ble_eq_true rfl, Nat.le_of_ble_eq_true rfl⟩ ?_ rfl rfl rfl rfl
  obtain ⟨z5, hf⟩ := gd_s hf
  obtain ⟨g6, e7, hf⟩ := ob1_s hf
  refine r_putV (ci := 5) (k := 3) (ty0 := tyX5) (ty := tyX5 3) K dX5_settle_10 inX5 rfl (by decide) rfl q_274 tyX5_ok nmX5 rfl rfl (zb_n z5) (zb_f z5) e7 ?_
  refine r_aload_n K 0 dX5_settle_13 rfl ?_
  obtain ⟨v8, e9, hf⟩ := ob1_s hf
  refine r_getI (ci := 5) (k := 3) K dX5_settle_14 inX5 rfl (by decide) rfl q_274 e9 ?_
  refine r_if_ne (tgt := 21) K dX5_settle_17 (by decide) (fun c33 => ?_) (fun c33 => ?_)
  · replace hf := ite_f hf c33
    refine r_iconst (v := (0 : Int32)) K dX5_settle_21 (by decide) ?_
    refine r_istore (lv1 := [(4, .int (0 : Int32)), (0, .ref a0), (1, .ref a1), (2, .ref a2), (3, .int x3)]) K dX5_settle_22 (by decide) rfl ?_
    refine r_lv [1, 2, 3, 4, 0] rfl ?_
    refine wX5_settle_L24 K ht _ (fun g14 hf => ?_) lf (0 : Int32) g6 hf
    refine r_iconst (v := (0 : Int32)) K dX5_settle_45 (by decide) ?_
    refine r_istore (lv1 := [(4, .int (0 : Int32)), (0, .ref a0), (1, .ref a1), (2, .ref a2), (3, .int x3)]) K dX5_settle_46 (by decide) rfl ?_
    refine r_lv [1, 2, 3, 4, 0] rfl ?_
    refine wX5_settle_L48 K ht _ (fun g25 hf => ?_) lf (0 : Int32) g14 hf
    refine r_aload_n K 1 dX5_settle_82 rfl ?_
    refine r_aload_n K 0 dX5_settle_83 rfl ?_
    obtain ⟨b26, e27, hf⟩ := ob1_s hf
    refine r_getR (ci := 5) (k := 0) K dX5_settle_84 inX5 rfl (by decide) rfl q_268 e27 ?_
    refine r_aload_n K 0 dX5_settle_87 rfl ?_
    obtain ⟨b28, e29, hf⟩ := ob1_s hf
    refine r_getR (ci := 5) (k := 2) K dX5_settle_88 inX5 rfl (by decide) rfl q_272 e29 ?_
    obtain ⟨z30, hf⟩ := gd_s hf
    obtain ⟨g31, e32, hf⟩ := ob1_s hf
    refine r_callV (As := [.ref b26, .ref b28]) (rest := []) (st1 := []) (cells1 := 0) (slots1 := 0) (b := a1) (ci := 1) K (fun z => mX1_addUp l z e32) dX5_settle_91 rfl (fun _ => isO_of z30) rfl ceX1_addUp q_657 q_658 q_659 q_76 q_660 ⟨Nat.le_of_ble_eq_true rfl, Nat.le_of_ble_eq_true rfl⟩ (Nat.le_of_ble_eq_true rfl) ⟨Nat.le_of_ble_eq_true rfl, Nat.le_of_ble_eq_true rfl⟩ ?_ rfl rfl rfl rfl
    exact r_vret K dX5_settle_94 hf (Nat.le_of_ble_eq_true rfl) (Nat.le_of_ble_eq_true rfl)
  · replace hf := ite_t hf c33
    exact r_vret K dX5_settle_20 hf (Nat.le_of_ble_eq_true rfl) (Nat.le_of_ble_eq_true rfl)
theorem ceX5_totalOrNo : CE yX5_totalOrNo 0 := ⟨by decide, by decide, by decide +kernel⟩
abbrev rmX5_totalOrNo : Room := { frames := 0, cells := 0, slots := 0, locals := 0 }
def fX5_totalOrNo (a0 : Nat) (h : AH) : Option Int64 :=
  ob1 (gI h a0 5 3) fun v1 =>
  if v1 = (0 : Int32) then
    some (-9223372036854775808 : Int64)
  else
    ob1 (gR h a0 5 2) fun b3 =>
    ob1 (gI h b3 6 1) fun v5 =>
    if v5 = (0 : Int32) then
      ob1 (gR h a0 5 2) fun b7 =>
      ob1 (gL h b7 6 0) fun v9 =>
      some v9
    else
      some (-9223372036854775808 : Int64)
set_option maxHeartbeats 4000000 in
set_option maxRecDepth 100000 in
theorem mX5_totalOrNo (l : Launch) {G : GG} {b0 : Nat} {h : AH} {a0 : Nat} {rr : Int64} (ht : isO h a0 5) (hf : fX5_totalOrNo a0 h = some rr) : MM l yX5_totalOrNo cX5_totalOrNo 1 (some .long) rmX5_totalOrNo G b0 h [.ref a0] (some (.long rr)) h := by
  refine MM.of (own := RX5) (lv0 := [(0, .ref a0)]) (by decide) rfl (Nat.le_of_ble_eq_true rfl) rfl ?_
  intro p e s m args below meth c K hnm
  unfold fX5_totalOrNo at hf
  refine r_aload_n K 0 dX5_totalOrNo_0 rfl ?_
  obtain ⟨v1, e2, hf⟩ := ob1_s hf
  refine r_getI (ci := 5) (k := 3) K dX5_totalOrNo_1 inX5 rfl (by decide) rfl q_274 e2 ?_
  refine r_if_eq (tgt := 27) K dX5_totalOrNo_4 (by decide) (fun c12 => ?_) (fun c12 => ?_)
  · replace hf := ite_t hf c12
    refine r_ldc2 K dX5_totalOrNo_27 q_687 ?_
    exact r_lret K dX5_totalOrNo_30 (retp hf) (Nat.le_of_ble_eq_true rfl) (Nat.le_of_ble_eq_true rfl)
  · replace hf := ite_f hf c12
    refine r_aload_n K 0 dX5_totalOrNo_7 rfl ?_
    obtain ⟨b3, e4, hf⟩ := ob1_s hf
    refine r_getR (ci := 5) (k := 2) K dX5_totalOrNo_8 inX5 rfl (by decide) rfl q_272 e4 ?_
    obtain ⟨v5, e6, hf⟩ := ob1_s hf
    refine r_getI (ci := 6) (k := 1) K dX5_totalOrNo_11 inX6 rfl (by decide) rfl q_232 e6 ?_
    refine r_if_ne (tgt := 27) K dX5_totalOrNo_14 (by decide) (fun c11 => ?_) (fun c11 => ?_)
    · replace hf := ite_f hf c11
      refine r_ldc2 K dX5_totalOrNo_27 q_687 ?_
      exact r_lret K dX5_totalOrNo_30 (retp hf) (Nat.le_of_ble_eq_true rfl) (Nat.le_of_ble_eq_true rfl)
    · replace hf := ite_t hf c11
      refine r_aload_n K 0 dX5_totalOrNo_17 rfl ?_
      obtain ⟨b7, e8, hf⟩ := ob1_s hf
      refine r_getR (ci := 5) (k := 2) K dX5_totalOrNo_18 inX5 rfl (by decide) rfl q_272 e8 ?_
      obtain ⟨v9, e10, hf⟩ := ob1_s hf
      refine r_getL (ci := 6) (k := 0) K dX5_totalOrNo_21 inX6 rfl (by decide) rfl q_229 e10 ?_
      refine r_goto (tgt := 30) K dX5_totalOrNo_24 (by decide) ?_
      exact r_lret K dX5_totalOrNo_30 (retp hf) (Nat.le_of_ble_eq_true rfl) (Nat.le_of_ble_eq_true rfl)
theorem ceX5_busierThan : CE yX5_busierThan 2 := ⟨by decide, by decide, by decide +kernel⟩
abbrev rmX5_busierThan : Room := { frames := 0, cells := 0, slots := 0, locals := 0 }
def fX5_busierThan_L5 (a0 : Nat) (x1 : Int32) (x2 : Int32) (h : AH) (k : Int32 → Option Int32) : Nat → Int32 → Int32 → Option Int32
  | 0, _, _ => none
  | n + 1, x3, x4 =>
    if x2 ≤ x4 then
      k x3
    else
      ob1 (gR h a0 5 0) fun b1 =>
      ob1 (aI h b1 0 x4) fun v3 =>
      ob1 (gR h a0 5 0) fun b5 =>
      ob1 (aI h b5 0 x1) fun v7 =>
      bnd (fun (y10 : Int32) (y11 : Int32) =>
        if (1 : Int32) = (0 : Int32) then
          bnd (y10 + (0 : Int32)) fun y12 =>
          bnd (y11 + (1 : Int32)) fun y13 =>
          fX5_busierThan_L5 a0 x1 x2 h k n y12 y13
        else
          bnd (y10 + (1 : Int32)) fun y14 =>
          bnd (y11 + (1 : Int32)) fun y15 =>
          fX5_busierThan_L5 a0 x1 x2 h k n y14 y15
      ) fun j9 =>
      if v7 < v3 then
        j9 x3 x4
      else
        ob1 (gR h a0 5 0) fun b17 =>
        ob1 (aI h b17 0 x4) fun v19 =>
        ob1 (gR h a0 5 0) fun b21 =>
        ob1 (aI h b21 0 x1) fun v23 =>
        bnd (
          if (0 : Int32) = (0 : Int32) then
            bnd (x3 + (0 : Int32)) fun y26 =>
            bnd (x4 + (1 : Int32)) fun y27 =>
            fX5_busierThan_L5 a0 x1 x2 h k n y26 y27
          else
            bnd (x3 + (1 : Int32)) fun y28 =>
            bnd (x4 + (1 : Int32)) fun y29 =>
            fX5_busierThan_L5 a0 x1 x2 h k n y28 y29
        ) fun j25 =>
        if v19 = v23 then
          if x1 ≤ x4 then
            j25
          else
            j9 x3 x4
        else
          j25
def fX5_busierThan (a0 : Nat) (x1 : Int32) (x2 : Int32) (h : AH) : Option Int32 :=
  fX5_busierThan_L5 a0 x1 x2 h (fun (y35 : Int32) =>
    some y35
  ) lf (0 : Int32) (0 : Int32)
set_option maxHeartbeats 4000000 in
set_option maxRecDepth 100000 in
theorem wX5_busierThan_L5 {p : Program} {l : Launch} {e : Env} {s : State} {m : MethodId} {args : Array Value} {below : List Frame} {meth : Method} {c : Code} {G : GG} {b0 : Nat} {h0 : AH} {a0 : Nat} {x1 : Int32} {x2 : Int32} {h : AH} {rr : Int32} (K : CX p s m args meth c cX5_busierThan 6 RX5 (some .int) G b0) (ht : isO h0 a0 5) (k : Int32 → Option Int32) (hk : ∀ (x3 : Int32), k x3 = some rr → WA p l e rmX5_busierThan s m args below meth c (MQ below (QG G b0 h0 (some (.int rr)) h) args s (rmX5_busierThan).cells (rmX5_busierThan).slots (AB b0)) G b0 6 h0 0 0 h 75 [(3, .int x3)] []) : ∀ (n : Nat) (x3 : Int32) (x4 : Int32), fX5_busierThan_L5 a0 x1 x2 h k n x3 x4 = some rr → WA p l e rmX5_busierThan s m args below meth c (MQ below (QG G b0 h0 (some (.int rr)) h) args s (rmX5_busierThan).cells (rmX5_busierThan).slots (AB b0)) G b0 6 h0 0 0 h 5 [(0, .ref a0), (1, .int x1), (2, .int x2), (3, .int x3), (4, .int x4)] [] := by
  intro n
  induction n with
  | zero =>
    intro x3 x4 hf
    rw [fX5_busierThan_L5] at hf
    cases hf
  | succ n ih =>
    intro x3 x4 hf
    rw [fX5_busierThan_L5] at hf
    refine r_iload K 4 dX5_busierThan_5 rfl ?_
    refine r_iload_n K 2 dX5_busierThan_7 rfl ?_
    refine r_icmp_ge (tgt := 75) K dX5_busierThan_8 (by decide) (fun c34 => ?_) (fun c34 => ?_)
    · replace hf := ite_t hf c34
      refine r_lv [3] rfl ?_
      exact hk x3 hf
    · replace hf := ite_f hf c34
      refine r_aload_n K 0 dX5_busierThan_11 rfl ?_
      obtain ⟨b1, e2, hf⟩ := ob1_s hf
      refine r_getR (ci := 5) (k := 0) K dX5_busierThan_12 inX5 rfl (by decide) rfl q_268 e2 ?_
      refine r_iload K 4 dX5_busierThan_15 rfl ?_
      obtain ⟨v3, e4, hf⟩ := ob1_s hf
      refine r_iaload K dX5_busierThan_17 e4 ?_
      refine r_aload_n K 0 dX5_busierThan_18 rfl ?_
      obtain ⟨b5, e6, hf⟩ := ob1_s hf
      refine r_getR (ci := 5) (k := 0) K dX5_busierThan_19 inX5 rfl (by decide) rfl q_268 e6 ?_
      refine r_iload_n K 1 dX5_busierThan_22 rfl ?_
      obtain ⟨v7, e8, hf⟩ := ob1_s hf
      refine r_iaload K dX5_busierThan_23 e8 ?_
      obtain ⟨j9, ej9, hf⟩ := bnd_g hf
      have Jj9 : ∀ (y10 : Int32) (y11 : Int32), j9 y10 y11 = some rr → WA p l e rmX5_busierThan s m args below meth c (MQ below (QG G b0 h0 (some (.int rr)) h) args s (rmX5_busierThan).cells (rmX5_busierThan).slots (AB b0)) G b0 6 h0 0 0 h 49 [(0, .ref a0), (1, .int x1), (2, .int x2), (3, .int y10), (4, .int y11)] [] := by
        intro y10 y11 hf
        rw [ej9] at hf
        refine r_iconst (v := (1 : Int32)) K dX5_busierThan_49 (by decide) ?_
        refine r_goto (tgt := 54) K dX5_busierThan_50 (by decide) ?_
        refine r_istore (lv1 := [(5, .int (1 : Int32)), (0, .ref a0), (1, .int x1), (2, .int x2), (3, .int y10), (4, .int y11)]) K dX5_busierThan_54 (by decide) rfl ?_
        refine r_iload_n K 4 dX5_busierThan_56 rfl ?_
        refine r_iload K 0 dX5_busierThan_57 rfl ?_
        refine r_if_eq (tgt := 66) K dX5_busierThan_59 (by decide) (fun c16 => ?_) (fun c16 => ?_)
        · replace hf := ite_t hf c16
          refine r_iconst (v := (0 : Int32)) K dX5_busierThan_66 (by decide) ?_
          refine r_iadd K dX5_busierThan_67 ?_
          obtain ⟨y12, ey12, hf⟩ := bnd_g hf
          refine r_nmi ey12 ?_
          refine r_istore_n (lv1 := [(3, .int y12), (5, .int (1 : Int32)), (0, .ref a0), (1, .int x1), (2, .int x2), (4, .int y11)]) K dX5_busierThan_68 (by decide) rfl ?_
          obtain ⟨y13, ey13, hf⟩ := bnd_g hf
          refine r_iinc (lv1 := [(4, .int y13), (3, .int y12), (5, .int (1 : Int32)), (0, .ref a0), (1, .int x1), (2, .int x2)]) K 5 dX5_busierThan_69 rfl (by rw [ey13]; rfl) (by decide) rfl ?_
          refine r_goto (tgt := 5) K dX5_busierThan_72 (by decide) ?_
          refine r_lv [3, 4, 5, 1, 0] rfl ?_
          exact ih y12 y13 hf
        · replace hf := ite_f hf c16
          refine r_iconst (v := (1 : Int32)) K dX5_busierThan_62 (by decide) ?_
          refine r_goto (tgt := 67) K dX5_busierThan_63 (by decide) ?_
          refine r_iadd K dX5_busierThan_67 ?_
          obtain ⟨y14, ey14, hf⟩ := bnd_g hf
          refine r_nmi ey14 ?_
          refine r_istore_n (lv1 := [(3, .int y14), (5, .int (1 : Int32)), (0, .ref a0), (1, .int x1), (2, .int x2), (4, .int y11)]) K dX5_busierThan_68 (by decide) rfl ?_
          obtain ⟨y15, ey15, hf⟩ := bnd_g hf
          refine r_iinc (lv1 := [(4, .int y15), (3, .int y14), (5, .int (1 : Int32)), (0, .ref a0), (1, .int x1), (2, .int x2)]) K 5 dX5_busierThan_69 rfl (by rw [ey15]; rfl) (by decide) rfl ?_
          refine r_goto (tgt := 5) K dX5_busierThan_72 (by decide) ?_
          refine r_lv [3, 4, 5, 1, 0] rfl ?_
          exact ih y14 y15 hf
      refine r_icmp_gt (tgt := 49) K dX5_busierThan_24 (by decide) (fun c33 => ?_) (fun c33 => ?_)
      · replace hf := ite_t hf c33
        exact Jj9 x3 x4 hf
      · replace hf := ite_f hf c33
        refine r_aload_n K 0 dX5_busierThan_27 rfl ?_
        obtain ⟨b17, e18, hf⟩ := ob1_s hf
        refine r_getR (ci := 5) (k := 0) K dX5_busierThan_28 inX5 rfl (by decide) rfl q_268 e18 ?_
        refine r_iload K 4 dX5_busierThan_31 rfl ?_
        obtain ⟨v19, e20, hf⟩ := ob1_s hf
        refine r_iaload K dX5_busierThan_33 e20 ?_
        refine r_aload_n K 0 dX5_busierThan_34 rfl ?_
        obtain ⟨b21, e22, hf⟩ := ob1_s hf
        refine r_getR (ci := 5) (k := 0) K dX5_busierThan_35 inX5 rfl (by decide) rfl q_268 e22 ?_
        refine r_iload_n K 1 dX5_busierThan_38 rfl ?_
        obtain ⟨v23, e24, hf⟩ := ob1_s hf
        refine r_iaload K dX5_busierThan_39 e24 ?_
        obtain ⟨j25, ej25, hf⟩ := bnd_g hf
        have Jj25 : j25 = some rr → WA p l e rmX5_busierThan s m args below meth c (MQ below (QG G b0 h0 (some (.int rr)) h) args s (rmX5_busierThan).cells (rmX5_busierThan).slots (AB b0)) G b0 6 h0 0 0 h 53 [(0, .ref a0), (1, .int x1), (2, .int x2), (3, .int x3), (4, .int x4)] [] := by
          intro  hf
          rw [ej25] at hf
          refine r_iconst (v := (0 : Int32)) K dX5_busierThan_53 (by decide) ?_
          refine r_istore (lv1 := [(5, .int (0 : Int32)), (0, .ref a0), (1, .int x1), (2, .int x2), (3, .int x3), (4, .int x4)]) K dX5_busierThan_54 (by decide) rfl ?_
          refine r_iload_n K 4 dX5_busierThan_56 rfl ?_
          refine r_iload K 0 dX5_busierThan_57 rfl ?_
          refine r_if_eq (tgt := 66) K dX5_busierThan_59 (by decide) (fun c30 => ?_) (fun c30 => ?_)
          · replace hf := ite_t hf c30
            refine r_iconst (v := (0 : Int32)) K dX5_busierThan_66 (by decide) ?_
            refine r_iadd K dX5_busierThan_67 ?_
            obtain ⟨y26, ey26, hf⟩ := bnd_g hf
            refine r_nmi ey26 ?_
            refine r_istore_n (lv1 := [(3, .int y26), (5, .int (0 : Int32)), (0, .ref a0), (1, .int x1), (2, .int x2), (4, .int x4)]) K dX5_busierThan_68 (by decide) rfl ?_
            obtain ⟨y27, ey27, hf⟩ := bnd_g hf
            refine r_iinc (lv1 := [(4, .int y27), (3, .int y26), (5, .int (0 : Int32)), (0, .ref a0), (1, .int x1), (2, .int x2)]) K 5 dX5_busierThan_69 rfl (by rw [ey27]; rfl) (by decide) rfl ?_
            refine r_goto (tgt := 5) K dX5_busierThan_72 (by decide) ?_
            refine r_lv [3, 4, 5, 1, 0] rfl ?_
            exact ih y26 y27 hf
          · replace hf := ite_f hf c30
            refine r_iconst (v := (1 : Int32)) K dX5_busierThan_62 (by decide) ?_
            refine r_goto (tgt := 67) K dX5_busierThan_63 (by decide) ?_
            refine r_iadd K dX5_busierThan_67 ?_
            obtain ⟨y28, ey28, hf⟩ := bnd_g hf
            refine r_nmi ey28 ?_
            refine r_istore_n (lv1 := [(3, .int y28), (5, .int (0 : Int32)), (0, .ref a0), (1, .int x1), (2, .int x2), (4, .int x4)]) K dX5_busierThan_68 (by decide) rfl ?_
            obtain ⟨y29, ey29, hf⟩ := bnd_g hf
            refine r_iinc (lv1 := [(4, .int y29), (3, .int y28), (5, .int (0 : Int32)), (0, .ref a0), (1, .int x1), (2, .int x2)]) K 5 dX5_busierThan_69 rfl (by rw [ey29]; rfl) (by decide) rfl ?_
            refine r_goto (tgt := 5) K dX5_busierThan_72 (by decide) ?_
            refine r_lv [3, 4, 5, 1, 0] rfl ?_
            exact ih y28 y29 hf
        refine r_icmp_ne (tgt := 53) K dX5_busierThan_40 (by decide) (fun c32 => ?_) (fun c32 => ?_)
        · replace hf := ite_f hf c32
          exact Jj25  hf
        · replace hf := ite_t hf c32
          refine r_iload K 4 dX5_busierThan_43 rfl ?_
          refine r_iload_n K 1 dX5_busierThan_45 rfl ?_
          refine r_icmp_ge (tgt := 53) K dX5_busierThan_46 (by decide) (fun c31 => ?_) (fun c31 => ?_)
          · replace hf := ite_t hf c31
            exact Jj25  hf
          · replace hf := ite_f hf c31
            exact Jj9 x3 x4 hf
set_option maxHeartbeats 4000000 in
set_option maxRecDepth 100000 in
theorem mX5_busierThan (l : Launch) {G : GG} {b0 : Nat} {h : AH} {a0 : Nat} {x1 : Int32} {x2 : Int32} {rr : Int32} (ht : isO h a0 5) (hf : fX5_busierThan a0 x1 x2 h = some rr) : MM l yX5_busierThan cX5_busierThan 6 (some .int) rmX5_busierThan G b0 h [.ref a0, .int x1, .int x2] (some (.int rr)) h := by
  refine MM.of (own := RX5) (lv0 := [(0, .ref a0), (1, .int x1), (2, .int x2)]) (by decide) rfl (Nat.le_of_ble_eq_true rfl) rfl ?_
  intro p e s m args below meth c K hnm
  unfold fX5_busierThan at hf
  refine r_iconst (v := (0 : Int32)) K dX5_busierThan_0 (by decide) ?_
  refine r_istore_n (lv1 := [(3, .int (0 : Int32)), (0, .ref a0), (1, .int x1), (2, .int x2)]) K dX5_busierThan_1 (by decide) rfl ?_
  refine r_iconst (v := (0 : Int32)) K dX5_busierThan_2 (by decide) ?_
  refine r_istore (lv1 := [(4, .int (0 : Int32)), (3, .int (0 : Int32)), (0, .ref a0), (1, .int x1), (2, .int x2)]) K dX5_busierThan_3 (by decide) rfl ?_
  refine r_lv [2, 3, 4, 1, 0] rfl ?_
  refine wX5_busierThan_L5 K ht _ (fun y35 hf => ?_) lf (0 : Int32) (0 : Int32) hf
  refine r_iload_n K 0 dX5_busierThan_75 rfl ?_
  exact r_iret K dX5_busierThan_76 (retp hf) (Nat.le_of_ble_eq_true rfl) (Nat.le_of_ble_eq_true rfl)
theorem ceX7_init : CE yX7_init 0 := ⟨by decide, by decide, by decide +kernel⟩
abbrev rmX7_init : Room := { frames := 1, cells := 1, slots := 100, locals := 20 }
def fX7_init (a0 : Nat) (h : AH) : Option AH :=
  ob1 (pV h a0 7 0 (.int (0 : Int32))) fun g1 =>
  bnd g1.1 fun b3 =>
  bnd (hnew g1 (.inl (0, 100, .inl (fun _ => 0)))) fun g4 =>
  ob1 (pV g4 a0 7 1 (.ref b3)) fun g5 =>
  ob1 (pV g5 a0 7 2 (.int (0 : Int32))) fun g7 =>
  ob1 (pV g7 a0 7 3 (.int (0 : Int32))) fun g9 =>
  some g9
set_option maxHeartbeats 4000000 in
set_option maxRecDepth 100000 in
theorem mX7_init (l : Launch) {G : GG} {b0 : Nat} {h : AH} {a0 : Nat} {hh : AH} (ht : isO h a0 7) (hf : fX7_init a0 h = some hh) : MM l yX7_init cX7_init 1 (none) rmX7_init G b0 h [.ref a0] none hh := by
  refine MM.of (own := RX7) (lv0 := [(0, .ref a0)]) (by decide) rfl (Nat.le_of_ble_eq_true rfl) rfl ?_
  intro p e s m args below meth c K hnm
  unfold fX7_init at hf
  refine r_aload_n K 0 dX7_init_0 rfl ?_
  refine r_objInit K dX7_init_1 q_303 q_97 q_98 (Nat.le_of_ble_eq_true rfl) (Nat.le_of_ble_eq_true rfl) ?_
  refine r_aload_n K 0 dX7_init_4 rfl ?_
  refine r_iconst (v := (0 : Int32)) K dX7_init_5 (by decide) ?_
  obtain ⟨g1, e2, hf⟩ := ob1_s hf
  refine r_putV (ci := 7) (k := 0) (ty0 := tyX7) (ty := tyX7 0) K dX7_init_6 inX7 rfl (by decide) rfl q_304 tyX7_ok nmX7 rfl rfl rfl rfl e2 ?_
  refine r_aload_n K 0 dX7_init_9 rfl ?_
  refine r_bipush (v := (100 : Int32)) K dX7_init_10 (by decide) ?_
  obtain ⟨b3, eb3, hf⟩ := bnd_g hf
  obtain ⟨g4, eg4, hf⟩ := bnd_g hf
  refine r_newa0 (cells1 := 1) (slots1 := 100) K dX7_init_12 q_148 (by decide) (by decide) (by decide) eb3 eg4 rfl rfl (Nat.le_of_ble_eq_true rfl) (Nat.le_of_ble_eq_true rfl) ?_
  obtain ⟨g5, e6, hf⟩ := ob1_s hf
  refine r_putF (ci := 7) (k := 1) (ty0 := tyX7) (ty := tyX7 1) K dX7_init_14 inX7 rfl (by decide) rfl q_306 tyX7_ok nmX7 rfl hnm rfl rfl rfl rfl e6 ?_
  refine r_aload_n K 0 dX7_init_17 rfl ?_
  refine r_iconst (v := (0 : Int32)) K dX7_init_18 (by decide) ?_
  obtain ⟨g7, e8, hf⟩ := ob1_s hf
  refine r_putV (ci := 7) (k := 2) (ty0 := tyX7) (ty := tyX7 2) K dX7_init_19 inX7 rfl (by decide) rfl q_307 tyX7_ok nmX7 rfl rfl rfl rfl e8 ?_
  refine r_aload_n K 0 dX7_init_22 rfl ?_
  refine r_iconst (v := (0 : Int32)) K dX7_init_23 (by decide) ?_
  obtain ⟨g9, e10, hf⟩ := ob1_s hf
  refine r_putV (ci := 7) (k := 3) (ty0 := tyX7) (ty := tyX7 3) K dX7_init_24 inX7 rfl (by decide) rfl q_308 tyX7_ok nmX7 rfl rfl rfl rfl e10 ?_
  exact r_vret K dX7_init_27 hf (Nat.le_of_ble_eq_true rfl) (Nat.le_of_ble_eq_true rfl)
theorem ceX7_push : CE yX7_push 1 := ⟨by decide, by decide, by decide +kernel⟩
abbrev rmX7_push : Room := { frames := 0, cells := 0, slots := 0, locals := 0 }
def fX7_push (a0 : Nat) (x1 : Int32) (h : AH) : Option (Int32 × AH) :=
  ob1 (gI h a0 7 0) fun v1 =>
  if v1 < (100 : Int32) then
    ob1 (gR h a0 7 1) fun b3 =>
    ob1 (gI h a0 7 0) fun v5 =>
    ob1 (sI h b3 v5 x1) fun g7 =>
    ob1 (gI g7 a0 7 0) fun v9 =>
    ob1 (pV g7 a0 7 0 (.int (v9 + (1 : Int32)))) fun g11 =>
    some ((1 : Int32), g11)
  else
    some ((0 : Int32), h)
set_option maxHeartbeats 4000000 in
set_option maxRecDepth 100000 in
theorem mX7_push (l : Launch) {G : GG} {b0 : Nat} {h : AH} {a0 : Nat} {x1 : Int32} {rr : Int32} {hh : AH} (ht : isO h a0 7) (hf : fX7_push a0 x1 h = some (rr, hh)) : MM l yX7_push cX7_push 2 (some .boolean) rmX7_push G b0 h [.ref a0, .int x1] (some (.int rr)) hh := by
  refine MM.of (own := RX7) (lv0 := [(0, .ref a0), (1, .int x1)]) (by decide) rfl (Nat.le_of_ble_eq_true rfl) rfl ?_
  intro p e s m args below meth c K hnm
  unfold fX7_push at hf
  refine r_aload_n K 0 dX7_push_0 rfl ?_
  obtain ⟨v1, e2, hf⟩ := ob1_s hf
  refine r_getI (ci := 7) (k := 0) K dX7_push_1 inX7 rfl (by decide) rfl q_304 e2 ?_
  refine r_bipush (v := (100 : Int32)) K dX7_push_4 (by decide) ?_
  refine r_icmp_lt (tgt := 11) K dX7_push_6 (by decide) (fun c13 => ?_) (fun c13 => ?_)
  · replace hf := ite_t hf c13
    refine r_aload_n K 0 dX7_push_11 rfl ?_
    obtain ⟨b3, e4, hf⟩ := ob1_s hf
    refine r_getR (ci := 7) (k := 1) K dX7_push_12 inX7 rfl (by decide) rfl q_306 e4 ?_
    refine r_aload_n K 0 dX7_push_15 rfl ?_
    obtain ⟨v5, e6, hf⟩ := ob1_s hf
    refine r_getI (ci := 7) (k := 0) K dX7_push_16 inX7 rfl (by decide) rfl q_304 e6 ?_
    refine r_iload_n K 1 dX7_push_19 rfl ?_
    obtain ⟨g7, e8, hf⟩ := ob1_s hf
    refine r_iastore K dX7_push_20 e8 ?_
    refine r_aload_n K 0 dX7_push_21 rfl ?_
    refine r_dup K dX7_push_22 rfl ?_
    obtain ⟨v9, e10, hf⟩ := ob1_s hf
    refine r_getI (ci := 7) (k := 0) K dX7_push_23 inX7 rfl (by decide) rfl q_304 e10 ?_
    refine r_iconst (v := (1 : Int32)) K dX7_push_26 (by decide) ?_
    refine r_iadd K dX7_push_27 ?_
    obtain ⟨g11, e12, hf⟩ := ob1_s hf
    refine r_putV (ci := 7) (k := 0) (ty0 := tyX7) (ty := tyX7 0) K dX7_push_28 inX7 rfl (by decide) rfl q_304 tyX7_ok nmX7 rfl rfl rfl rfl e12 ?_
    refine r_iconst (v := (1 : Int32)) K dX7_push_31 (by decide) ?_
    exact r_zret K dX7_push_32 rfl hf (Nat.le_of_ble_eq_true rfl) (Nat.le_of_ble_eq_true rfl)
  · replace hf := ite_f hf c13
    refine r_iconst (v := (0 : Int32)) K dX7_push_9 (by decide) ?_
    exact r_zret K dX7_push_10 rfl hf (Nat.le_of_ble_eq_true rfl) (Nat.le_of_ble_eq_true rfl)
theorem ceX7_eats : CE yX7_eats 1 := ⟨by decide, by decide, by decide +kernel⟩
abbrev rmX7_eats : Room := { frames := 0, cells := 0, slots := 0, locals := 0 }
def fX7_eats (a0 : Nat) (x1 : Int32) (h : AH) : Option (Int32 × AH) :=
  ob1 (gI h a0 7 2) fun v1 =>
  ob1 (gI h a0 7 0) fun v3 =>
  if v3 ≤ v1 then
    some ((0 : Int32), h)
  else
    ob1 (gR h a0 7 1) fun b5 =>
    ob1 (gI h a0 7 2) fun v7 =>
    ob1 (aI h b5 0 v7) fun v9 =>
    if v9 = x1 then
      ob1 (gI h a0 7 2) fun v11 =>
      ob1 (pV h a0 7 2 (.int (v11 + (1 : Int32)))) fun g13 =>
      some ((1 : Int32), g13)
    else
      some ((0 : Int32), h)
set_option maxHeartbeats 4000000 in
set_option maxRecDepth 100000 in
theorem mX7_eats (l : Launch) {G : GG} {b0 : Nat} {h : AH} {a0 : Nat} {x1 : Int32} {rr : Int32} {hh : AH} (ht : isO h a0 7) (hf : fX7_eats a0 x1 h = some (rr, hh)) : MM l yX7_eats cX7_eats 2 (some .boolean) rmX7_eats G b0 h [.ref a0, .int x1] (some (.int rr)) hh := by
  refine MM.of (own := RX7) (lv0 := [(0, .ref a0), (1, .int x1)]) (by decide) rfl (Nat.le_of_ble_eq_true rfl) rfl ?_
  intro p e s m args below meth c K hnm
  unfold fX7_eats at hf
  refine r_aload_n K 0 dX7_eats_0 rfl ?_
  obtain ⟨v1, e2, hf⟩ := ob1_s hf
  refine r_getI (ci := 7) (k := 2) K dX7_eats_1 inX7 rfl (by decide) rfl q_307 e2 ?_
  refine r_aload_n K 0 dX7_eats_4 rfl ?_
  obtain ⟨v3, e4, hf⟩ := ob1_s hf
  refine r_getI (ci := 7) (k := 0) K dX7_eats_5 inX7 rfl (by decide) rfl q_304 e4 ?_
  refine r_icmp_ge (tgt := 24) K dX7_eats_8 (by decide) (fun c16 => ?_) (fun c16 => ?_)
  · replace hf := ite_t hf c16
    refine r_iconst (v := (0 : Int32)) K dX7_eats_24 (by decide) ?_
    exact r_zret K dX7_eats_25 rfl hf (Nat.le_of_ble_eq_true rfl) (Nat.le_of_ble_eq_true rfl)
  · replace hf := ite_f hf c16
    refine r_aload_n K 0 dX7_eats_11 rfl ?_
    obtain ⟨b5, e6, hf⟩ := ob1_s hf
    refine r_getR (ci := 7) (k := 1) K dX7_eats_12 inX7 rfl (by decide) rfl q_306 e6 ?_
    refine r_aload_n K 0 dX7_eats_15 rfl ?_
    obtain ⟨v7, e8, hf⟩ := ob1_s hf
    refine r_getI (ci := 7) (k := 2) K dX7_eats_16 inX7 rfl (by decide) rfl q_307 e8 ?_
    obtain ⟨v9, e10, hf⟩ := ob1_s hf
    refine r_iaload K dX7_eats_19 e10 ?_
    refine r_iload_n K 1 dX7_eats_20 rfl ?_
    refine r_icmp_eq (tgt := 26) K dX7_eats_21 (by decide) (fun c15 => ?_) (fun c15 => ?_)
    · replace hf := ite_t hf c15
      refine r_aload_n K 0 dX7_eats_26 rfl ?_
      refine r_dup K dX7_eats_27 rfl ?_
      obtain ⟨v11, e12, hf⟩ := ob1_s hf
      refine r_getI (ci := 7) (k := 2) K dX7_eats_28 inX7 rfl (by decide) rfl q_307 e12 ?_
      refine r_iconst (v := (1 : Int32)) K dX7_eats_31 (by decide) ?_
      refine r_iadd K dX7_eats_32 ?_
      obtain ⟨g13, e14, hf⟩ := ob1_s hf
      refine r_putV (ci := 7) (k := 2) (ty0 := tyX7) (ty := tyX7 2) K dX7_eats_33 inX7 rfl (by decide) rfl q_307 tyX7_ok nmX7 rfl rfl rfl rfl e14 ?_
      refine r_iconst (v := (1 : Int32)) K dX7_eats_36 (by decide) ?_
      exact r_zret K dX7_eats_37 rfl hf (Nat.le_of_ble_eq_true rfl) (Nat.le_of_ble_eq_true rfl)
    · replace hf := ite_f hf c15
      refine r_iconst (v := (0 : Int32)) K dX7_eats_24 (by decide) ?_
      exact r_zret K dX7_eats_25 rfl hf (Nat.le_of_ble_eq_true rfl) (Nat.le_of_ble_eq_true rfl)
theorem ceX7_failsAt : CE yX7_failsAt 1 := ⟨by decide, by decide, by decide +kernel⟩
abbrev rmX7_failsAt : Room := { frames := 0, cells := 0, slots := 0, locals := 0 }
def fX7_failsAt (a0 : Nat) (x1 : Int32) (h : AH) : Option (Int32 × AH) :=
  ob1 (pV h a0 7 3 (.int x1)) fun g1 =>
  some ((0 : Int32), g1)
set_option maxHeartbeats 4000000 in
set_option maxRecDepth 100000 in
theorem mX7_failsAt (l : Launch) {G : GG} {b0 : Nat} {h : AH} {a0 : Nat} {x1 : Int32} {rr : Int32} {hh : AH} (ht : isO h a0 7) (hf : fX7_failsAt a0 x1 h = some (rr, hh)) : MM l yX7_failsAt cX7_failsAt 2 (some .boolean) rmX7_failsAt G b0 h [.ref a0, .int x1] (some (.int rr)) hh := by
  refine MM.of (own := RX7) (lv0 := [(0, .ref a0), (1, .int x1)]) (by decide) rfl (Nat.le_of_ble_eq_true rfl) rfl ?_
  intro p e s m args below meth c K hnm
  unfold fX7_failsAt at hf
  refine r_aload_n K 0 dX7_failsAt_0 rfl ?_
  refine r_iload_n K 1 dX7_failsAt_1 rfl ?_
  obtain ⟨g1, e2, hf⟩ := ob1_s hf
  refine r_putV (ci := 7) (k := 3) (ty0 := tyX7) (ty := tyX7 3) K dX7_failsAt_2 inX7 rfl (by decide) rfl q_308 tyX7_ok nmX7 rfl rfl rfl rfl e2 ?_
  refine r_iconst (v := (0 : Int32)) K dX7_failsAt_5 (by decide) ?_
  exact r_zret K dX7_failsAt_6 rfl hf (Nat.le_of_ble_eq_true rfl) (Nat.le_of_ble_eq_true rfl)
theorem ceX7_expects : CE yX7_expects 1 := ⟨by decide, by decide, by decide +kernel⟩
abbrev rmX7_expects : Room := { frames := 1, cells := 0, slots := 0, locals := 21 }
def fX7_expects (a0 : Nat) (x1 : Int32) (h : AH) : Option (Int32 × AH) :=
  ob2 (fX7_eats a0 x1 h) fun r1 g2 =>
  if r1 = (0 : Int32) then
    ob1 (gI g2 a0 7 2) fun v4 =>
    ob2 (fX7_failsAt a0 v4 g2) fun r6 g7 =>
    if r6 = (0 : Int32) then
      some ((0 : Int32), g7)
    else
      some ((1 : Int32), g7)
  else
    some ((1 : Int32), g2)
set_option maxHeartbeats 4000000 in
set_option maxRecDepth 100000 in
theorem mX7_expects (l : Launch) {G : GG} {b0 : Nat} {h : AH} {a0 : Nat} {x1 : Int32} {rr : Int32} {hh : AH} (ht : isO h a0 7) (hf : fX7_expects a0 x1 h = some (rr, hh)) : MM l yX7_expects cX7_expects 2 (some .boolean) rmX7_expects G b0 h [.ref a0, .int x1] (some (.int rr)) hh := by
  refine MM.of (own := RX7) (lv0 := [(0, .ref a0), (1, .int x1)]) (by decide) rfl (Nat.le_of_ble_eq_true rfl) rfl ?_
  intro p e s m args below meth c K hnm
  unfold fX7_expects at hf
  refine r_aload_n K 0 dX7_expects_0 rfl ?_
  refine r_iload_n K 1 dX7_expects_1 rfl ?_
  obtain ⟨r1, g2, e3, hf⟩ := ob2_s hf
  refine r_callV (As := [.int x1]) (rest := []) (st1 := [.int r1]) (cells1 := 0) (slots1 := 0) (b := a0) (ci := 7) K (fun z => mX7_eats l z e3) dX7_expects_2 rfl (fun z => z _ _ ht) rfl ceX7_eats q_542 q_544 q_6 q_82 q_545 ⟨Nat.le_of_ble_eq_true rfl, Nat.le_of_ble_eq_true rfl⟩ (Nat.le_of_ble_eq_true rfl) ⟨Nat.le_of_ble_eq_true rfl, Nat.le_of_ble_eq_true rfl⟩ ?_ rfl rfl rfl rfl
  refine r_if_ne (tgt := 19) K dX7_expects_5 (by decide) (fun c10 => ?_) (fun c10 => ?_)
  · replace hf := ite_f hf c10
    refine r_iconst (v := (1 : Int32)) K dX7_expects_19 (by decide) ?_
    refine r_goto (tgt := 24) K dX7_expects_20 (by decide) ?_
    exact r_zret K dX7_expects_24 rfl hf (Nat.le_of_ble_eq_true rfl) (Nat.le_of_ble_eq_true rfl)
  · replace hf := ite_t hf c10
    refine r_aload_n K 0 dX7_expects_8 rfl ?_
    refine r_aload_n K 0 dX7_expects_9 rfl ?_
    obtain ⟨v4, e5, hf⟩ := ob1_s hf
    refine r_getI (ci := 7) (k := 2) K dX7_expects_10 inX7 rfl (by decide) rfl q_307 e5 ?_
    obtain ⟨r6, g7, e8, hf⟩ := ob2_s hf
    refine r_callV (As := [.int v4]) (rest := []) (st1 := [.int r6]) (cells1 := 0) (slots1 := 0) (b := a0) (ci := 7) K (fun z => mX7_failsAt l z e8) dX7_expects_13 rfl (fun z => z _ _ ht) rfl ceX7_failsAt q_526 q_528 q_2 q_82 q_529 ⟨Nat.le_of_ble_eq_true rfl, Nat.le_of_ble_eq_true rfl⟩ (Nat.le_of_ble_eq_true rfl) ⟨Nat.le_of_ble_eq_true rfl, Nat.le_of_ble_eq_true rfl⟩ ?_ rfl rfl rfl rfl
    refine r_if_eq (tgt := 23) K dX7_expects_16 (by decide) (fun c9 => ?_) (fun c9 => ?_)
    · replace hf := ite_t hf c9
      refine r_iconst (v := (0 : Int32)) K dX7_expects_23 (by decide) ?_
      exact r_zret K dX7_expects_24 rfl hf (Nat.le_of_ble_eq_true rfl) (Nat.le_of_ble_eq_true rfl)
    · replace hf := ite_f hf c9
      refine r_iconst (v := (1 : Int32)) K dX7_expects_19 (by decide) ?_
      refine r_goto (tgt := 24) K dX7_expects_20 (by decide) ?_
      exact r_zret K dX7_expects_24 rfl hf (Nat.le_of_ble_eq_true rfl) (Nat.le_of_ble_eq_true rfl)
