theorem ceX0_init : CE yX0_init 0 := ⟨by decide, by decide, by decide +kernel⟩
abbrev rmX0_init : Room := { frames := 2, cells := 6, slots := 39, locals := 40 }
def fX0_init (a0 : Nat) (h : AH) : Option AH :=
  bnd h.1 fun b1 =>
  bnd (hnew h (.inr (6, [.long 0, .int 0]))) fun g2 =>
  ob1 (fX6_init b1 g2) fun g3 =>
  ob1 (pV g3 a0 0 0 (.ref b1)) fun g5 =>
  bnd g5.1 fun b7 =>
  bnd (hnew g5 (.inl (0, 13, .inl (fun _ => 0)))) fun g8 =>
  ob1 (pV g8 a0 0 1 (.ref b7)) fun g9 =>
  bnd g9.1 fun b11 =>
  bnd (hnew g9 (.inl (2, 6, .inl (fun _ => 0)))) fun g12 =>
  ob1 (pV g12 a0 0 2 (.ref b11)) fun g13 =>
  bnd g13.1 fun b15 =>
  bnd (hnew g13 (.inl (1, 6, .inr (.inl (fun _ => 0))))) fun g16 =>
  ob1 (pV g16 a0 0 3 (.ref b15)) fun g17 =>
  bnd g17.1 fun b19 =>
  bnd (hnew g17 (.inl (0, 6, .inl (fun _ => 0)))) fun g20 =>
  ob1 (pV g20 a0 0 4 (.ref b19)) fun g21 =>
  bnd g21.1 fun b23 =>
  bnd (hnew g21 (.inl (0, 6, .inl (fun _ => 0)))) fun g24 =>
  ob1 (pV g24 a0 0 5 (.ref b23)) fun g25 =>
  some g25
set_option maxHeartbeats 4000000 in
set_option maxRecDepth 100000 in
theorem mX0_init (l : Launch) {G : GG} {b0 : Nat} {h : AH} {a0 : Nat} {hh : AH} (ht : isO h a0 0) (hf : fX0_init a0 h = some hh) : MM l yX0_init cX0_init 1 (none) rmX0_init G b0 h [.ref a0] none hh := by
  refine MM.of (own := RX0) (lv0 := [(0, .ref a0)]) (by decide) rfl (Nat.le_of_ble_eq_true rfl) rfl ?_
  intro p e s m args below meth c K hnm
  unfold fX0_init at hf
  refine r_aload_n K 0 dX0_init_0 rfl ?_
  refine r_objInit K dX0_init_1 q_221 q_97 q_98 (Nat.le_of_ble_eq_true rfl) (Nat.le_of_ble_eq_true rfl) ?_
  refine r_aload_n K 0 dX0_init_4 rfl ?_
  obtain ⟨b1, eb1, hf⟩ := bnd_g hf
  obtain ⟨g2, eg2, hf⟩ := bnd_g hf
  have ob1 : isO g2 b1 6 := isO_new eb1 eg2
  refine r_new (ci := 6) (N := 2) (ty0 := tyX6) (cells1 := 1) (slots1 := 2) K dX0_init_5 inX6 rfl tyX6_ok q_222 q_223 q_80 (fun j hj => by match j, hj with | 0, _ => rfl | 1, _ => rfl) eb1 eg2 rfl rfl (Nat.le_of_ble_eq_true rfl) (Nat.le_of_ble_eq_true rfl) ?_
  refine r_dup K dX0_init_8 rfl ?_
  obtain ⟨g3, e4, hf⟩ := ob1_s hf
  refine r_callIN (As := []) (rest := [.ref b1, .ref a0]) (st1 := [.ref b1, .ref a0]) (cells1 := 1) (slots1 := 2) (rt := none) (b := b1) K (mX6_init l ob1 e4) dX0_init_9 rfl ceX6_init nw_1 q_225 q_80 q_226 ⟨Nat.le_of_ble_eq_true rfl, Nat.le_of_ble_eq_true rfl⟩ (Nat.le_of_ble_eq_true rfl) ⟨Nat.le_of_ble_eq_true rfl, Nat.le_of_ble_eq_true rfl⟩ ?_ rfl rfl rfl rfl
  obtain ⟨g5, e6, hf⟩ := ob1_s hf
  refine r_putF (ci := 0) (k := 0) (ty0 := tyX0) (ty := tyX0 0) K dX0_init_12 inX0 rfl (by decide) rfl q_240 tyX0_ok nmX0 rfl hnm rfl rfl rfl rfl e6 ?_
  refine r_aload_n K 0 dX0_init_15 rfl ?_
  refine r_bipush (v := (13 : Int32)) K dX0_init_16 (by decide) ?_
  obtain ⟨b7, eb7, hf⟩ := bnd_g hf
  obtain ⟨g8, eg8, hf⟩ := bnd_g hf
  refine r_newa0 (cells1 := 2) (slots1 := 15) K dX0_init_18 q_148 (by decide) (by decide) (by decide) eb7 eg8 rfl rfl (Nat.le_of_ble_eq_true rfl) (Nat.le_of_ble_eq_true rfl) ?_
  obtain ⟨g9, e10, hf⟩ := ob1_s hf
  refine r_putF (ci := 0) (k := 1) (ty0 := tyX0) (ty := tyX0 1) K dX0_init_20 inX0 rfl (by decide) rfl q_242 tyX0_ok nmX0 rfl hnm rfl rfl rfl rfl e10 ?_
  refine r_aload_n K 0 dX0_init_23 rfl ?_
  refine r_bipush (v := (6 : Int32)) K dX0_init_24 (by decide) ?_
  obtain ⟨b11, eb11, hf⟩ := bnd_g hf
  obtain ⟨g12, eg12, hf⟩ := bnd_g hf
  refine r_newa2 (cells1 := 3) (slots1 := 21) K dX0_init_26 q_239 (by decide) (by decide) (by decide) eb11 eg12 rfl rfl (Nat.le_of_ble_eq_true rfl) (Nat.le_of_ble_eq_true rfl) ?_
  obtain ⟨g13, e14, hf⟩ := ob1_s hf
  refine r_putF (ci := 0) (k := 2) (ty0 := tyX0) (ty := tyX0 2) K dX0_init_28 inX0 rfl (by decide) rfl q_243 tyX0_ok nmX0 rfl hnm rfl rfl rfl rfl e14 ?_
  refine r_aload_n K 0 dX0_init_31 rfl ?_
  refine r_bipush (v := (6 : Int32)) K dX0_init_32 (by decide) ?_
  obtain ⟨b15, eb15, hf⟩ := bnd_g hf
  obtain ⟨g16, eg16, hf⟩ := bnd_g hf
  refine r_newa1 (cells1 := 4) (slots1 := 27) K dX0_init_34 q_147 (by decide) (by decide) (by decide) eb15 eg16 rfl rfl (Nat.le_of_ble_eq_true rfl) (Nat.le_of_ble_eq_true rfl) ?_
  obtain ⟨g17, e18, hf⟩ := ob1_s hf
  refine r_putF (ci := 0) (k := 3) (ty0 := tyX0) (ty := tyX0 3) K dX0_init_36 inX0 rfl (by decide) rfl q_244 tyX0_ok nmX0 rfl hnm rfl rfl rfl rfl e18 ?_
  refine r_aload_n K 0 dX0_init_39 rfl ?_
  refine r_bipush (v := (6 : Int32)) K dX0_init_40 (by decide) ?_
  obtain ⟨b19, eb19, hf⟩ := bnd_g hf
  obtain ⟨g20, eg20, hf⟩ := bnd_g hf
  refine r_newa0 (cells1 := 5) (slots1 := 33) K dX0_init_42 q_148 (by decide) (by decide) (by decide) eb19 eg20 rfl rfl (Nat.le_of_ble_eq_true rfl) (Nat.le_of_ble_eq_true rfl) ?_
  obtain ⟨g21, e22, hf⟩ := ob1_s hf
  refine r_putF (ci := 0) (k := 4) (ty0 := tyX0) (ty := tyX0 4) K dX0_init_44 inX0 rfl (by decide) rfl q_245 tyX0_ok nmX0 rfl hnm rfl rfl rfl rfl e22 ?_
  refine r_aload_n K 0 dX0_init_47 rfl ?_
  refine r_bipush (v := (6 : Int32)) K dX0_init_48 (by decide) ?_
  obtain ⟨b23, eb23, hf⟩ := bnd_g hf
  obtain ⟨g24, eg24, hf⟩ := bnd_g hf
  refine r_newa0 (cells1 := 6) (slots1 := 39) K dX0_init_50 q_148 (by decide) (by decide) (by decide) eb23 eg24 rfl rfl (Nat.le_of_ble_eq_true rfl) (Nat.le_of_ble_eq_true rfl) ?_
  obtain ⟨g25, e26, hf⟩ := ob1_s hf
  refine r_putF (ci := 0) (k := 5) (ty0 := tyX0) (ty := tyX0 5) K dX0_init_52 inX0 rfl (by decide) rfl q_246 tyX0_ok nmX0 rfl hnm rfl rfl rfl rfl e26 ?_
  exact r_vret K dX0_init_55 hf (Nat.le_of_ble_eq_true rfl) (Nat.le_of_ble_eq_true rfl)
theorem ceX0_comeTo : CE yX0_comeTo 4 := ⟨by decide, by decide, by decide +kernel⟩
abbrev rmX0_comeTo : Room := { frames := 0, cells := 0, slots := 0, locals := 0 }
def fX0_comeTo (a0 : Nat) (x1 : Int32) (x2 : Int32) (x3 : Int32) (x4 : Int64) (h : AH) : Option (Int32 × AH) :=
  ob1 (gR h a0 0 2) fun b1 =>
  ob1 (aI h b1 2 x2) fun v3 =>
  if v3 = (0 : Int32) then
    some ((0 : Int32), h)
  else
    ob1 (gR h a0 0 2) fun b5 =>
    ob1 (aI h b5 2 x1) fun v7 =>
    bnd (
      ob1 (gR h a0 0 2) fun b10 =>
      ob1 (sZ h b10 x1 (1 : Int32)) fun g12 =>
      ob1 (gR g12 a0 0 3) fun b14 =>
      ob1 (gR g12 a0 0 3) fun b16 =>
      ob1 (aL g12 b16 x2) fun v18 =>
      ob1 (sL g12 b14 x1 (v18 + x4)) fun g20 =>
      ob1 (gR g20 a0 0 4) fun b22 =>
      ob1 (sI g20 b22 x1 x2) fun g24 =>
      ob1 (gR g24 a0 0 5) fun b26 =>
      ob1 (sI g24 b26 x1 x3) fun g28 =>
      some ((1 : Int32), g28)
    ) fun j9 =>
    if v7 = (0 : Int32) then
      j9
    else
      ob1 (gR h a0 0 3) fun b30 =>
      ob1 (aL h b30 x1) fun v32 =>
      ob1 (gR h a0 0 3) fun b34 =>
      ob1 (aL h b34 x2) fun v36 =>
      if (v36 + x4) < v32 then
        j9
      else
        some ((0 : Int32), h)
set_option maxHeartbeats 4000000 in
set_option maxRecDepth 100000 in
theorem mX0_comeTo (l : Launch) {G : GG} {b0 : Nat} {h : AH} {a0 : Nat} {x1 : Int32} {x2 : Int32} {x3 : Int32} {x4 : Int64} {rr : Int32} {hh : AH} (ht : isO h a0 0) (hf : fX0_comeTo a0 x1 x2 x3 x4 h = some (rr, hh)) : MM l yX0_comeTo cX0_comeTo 6 (some .boolean) rmX0_comeTo G b0 h [.ref a0, .int x1, .int x2, .int x3, .long x4] (some (.int rr)) hh := by
  refine MM.of (own := RX0) (lv0 := [(0, .ref a0), (1, .int x1), (2, .int x2), (3, .int x3), (4, .long x4)]) (by decide) rfl (Nat.le_of_ble_eq_true rfl) rfl ?_
  intro p e s m args below meth c K hnm
  unfold fX0_comeTo at hf
  refine r_aload_n K 0 dX0_comeTo_0 rfl ?_
  obtain ⟨b1, e2, hf⟩ := ob1_s hf
  refine r_getR (ci := 0) (k := 2) K dX0_comeTo_1 inX0 rfl (by decide) rfl q_243 e2 ?_
  refine r_iload_n K 2 dX0_comeTo_4 rfl ?_
  obtain ⟨v3, e4, hf⟩ := ob1_s hf
  refine r_zaload K dX0_comeTo_5 e4 ?_
  refine r_if_eq (tgt := 37) K dX0_comeTo_6 (by decide) (fun c40 => ?_) (fun c40 => ?_)
  · replace hf := ite_t hf c40
    refine r_iconst (v := (0 : Int32)) K dX0_comeTo_37 (by decide) ?_
    exact r_zret K dX0_comeTo_38 rfl hf (Nat.le_of_ble_eq_true rfl) (Nat.le_of_ble_eq_true rfl)
  · replace hf := ite_f hf c40
    refine r_aload_n K 0 dX0_comeTo_9 rfl ?_
    obtain ⟨b5, e6, hf⟩ := ob1_s hf
    refine r_getR (ci := 0) (k := 2) K dX0_comeTo_10 inX0 rfl (by decide) rfl q_243 e6 ?_
    refine r_iload_n K 1 dX0_comeTo_13 rfl ?_
    obtain ⟨v7, e8, hf⟩ := ob1_s hf
    refine r_zaload K dX0_comeTo_14 e8 ?_
    obtain ⟨j9, ej9, hf⟩ := bnd_g hf
    have Jj9 : j9 = some (rr, hh) → WA p l e rmX0_comeTo s m args below meth c (MQ below (QG G b0 h (some (.int rr)) hh) args s (rmX0_comeTo).cells (rmX0_comeTo).slots (AB b0)) G b0 6 h 0 0 h 39 [(0, .ref a0), (1, .int x1), (2, .int x2), (3, .int x3), (4, .long x4)] [] := by
      intro  hf
      rw [ej9] at hf
      refine r_aload_n K 0 dX0_comeTo_39 rfl ?_
      obtain ⟨b10, e11, hf⟩ := ob1_s hf
      refine r_getR (ci := 0) (k := 2) K dX0_comeTo_40 inX0 rfl (by decide) rfl q_243 e11 ?_
      refine r_iload_n K 1 dX0_comeTo_43 rfl ?_
      refine r_iconst (v := (1 : Int32)) K dX0_comeTo_44 (by decide) ?_
      obtain ⟨g12, e13, hf⟩ := ob1_s hf
      refine r_zastore K dX0_comeTo_45 e13 ?_
      refine r_aload_n K 0 dX0_comeTo_46 rfl ?_
      obtain ⟨b14, e15, hf⟩ := ob1_s hf
      refine r_getR (ci := 0) (k := 3) K dX0_comeTo_47 inX0 rfl (by decide) rfl q_244 e15 ?_
      refine r_iload_n K 1 dX0_comeTo_50 rfl ?_
      refine r_aload_n K 0 dX0_comeTo_51 rfl ?_
      obtain ⟨b16, e17, hf⟩ := ob1_s hf
      refine r_getR (ci := 0) (k := 3) K dX0_comeTo_52 inX0 rfl (by decide) rfl q_244 e17 ?_
      refine r_iload_n K 2 dX0_comeTo_55 rfl ?_
      obtain ⟨v18, e19, hf⟩ := ob1_s hf
      refine r_laload K dX0_comeTo_56 e19 ?_
      refine r_lload K 4 dX0_comeTo_57 rfl ?_
      refine r_ladd K dX0_comeTo_59 ?_
      obtain ⟨g20, e21, hf⟩ := ob1_s hf
      refine r_lastore K dX0_comeTo_60 e21 ?_
      refine r_aload_n K 0 dX0_comeTo_61 rfl ?_
      obtain ⟨b22, e23, hf⟩ := ob1_s hf
      refine r_getR (ci := 0) (k := 4) K dX0_comeTo_62 inX0 rfl (by decide) rfl q_245 e23 ?_
      refine r_iload_n K 1 dX0_comeTo_65 rfl ?_
      refine r_iload_n K 2 dX0_comeTo_66 rfl ?_
      obtain ⟨g24, e25, hf⟩ := ob1_s hf
      refine r_iastore K dX0_comeTo_67 e25 ?_
      refine r_aload_n K 0 dX0_comeTo_68 rfl ?_
      obtain ⟨b26, e27, hf⟩ := ob1_s hf
      refine r_getR (ci := 0) (k := 5) K dX0_comeTo_69 inX0 rfl (by decide) rfl q_246 e27 ?_
      refine r_iload_n K 1 dX0_comeTo_72 rfl ?_
      refine r_iload_n K 3 dX0_comeTo_73 rfl ?_
      obtain ⟨g28, e29, hf⟩ := ob1_s hf
      refine r_iastore K dX0_comeTo_74 e29 ?_
      refine r_iconst (v := (1 : Int32)) K dX0_comeTo_75 (by decide) ?_
      exact r_zret K dX0_comeTo_76 rfl hf (Nat.le_of_ble_eq_true rfl) (Nat.le_of_ble_eq_true rfl)
    refine r_if_eq (tgt := 39) K dX0_comeTo_15 (by decide) (fun c39 => ?_) (fun c39 => ?_)
    · replace hf := ite_t hf c39
      exact Jj9  hf
    · replace hf := ite_f hf c39
      refine r_aload_n K 0 dX0_comeTo_18 rfl ?_
      obtain ⟨b30, e31, hf⟩ := ob1_s hf
      refine r_getR (ci := 0) (k := 3) K dX0_comeTo_19 inX0 rfl (by decide) rfl q_244 e31 ?_
      refine r_iload_n K 1 dX0_comeTo_22 rfl ?_
      obtain ⟨v32, e33, hf⟩ := ob1_s hf
      refine r_laload K dX0_comeTo_23 e33 ?_
      refine r_aload_n K 0 dX0_comeTo_24 rfl ?_
      obtain ⟨b34, e35, hf⟩ := ob1_s hf
      refine r_getR (ci := 0) (k := 3) K dX0_comeTo_25 inX0 rfl (by decide) rfl q_244 e35 ?_
      refine r_iload_n K 2 dX0_comeTo_28 rfl ?_
      obtain ⟨v36, e37, hf⟩ := ob1_s hf
      refine r_laload K dX0_comeTo_29 e37 ?_
      refine r_lload K 4 dX0_comeTo_30 rfl ?_
      refine r_ladd K dX0_comeTo_32 ?_
      refine r_lif_gt (tgt := 39) K dX0_comeTo_33 dX0_comeTo_34 (by decide) (fun c38 => ?_) (fun c38 => ?_)
      · replace hf := ite_t hf c38
        exact Jj9  hf
      · replace hf := ite_f hf c38
        refine r_iconst (v := (0 : Int32)) K dX0_comeTo_37 (by decide) ?_
        exact r_zret K dX0_comeTo_38 rfl hf (Nat.le_of_ble_eq_true rfl) (Nat.le_of_ble_eq_true rfl)
theorem ceX0_reach : CE yX0_reach 2 := ⟨by decide, by decide, by decide +kernel⟩
abbrev rmX0_reach : Room := { frames := 1, cells := 0, slots := 0, locals := 25 }
def fX0_reach (a0 : Nat) (a1 : Nat) (x2 : Int32) (h : AH) : Option (Int32 × AH) :=
  ob1 (gR h a1 1 2) fun b1 =>
  ob1 (aR h b1 4 x2) fun b3 =>
  ob1 (gR h a0 0 1) fun b5 =>
  ob1 (aI h b5 0 x2) fun v7 =>
  ob1 (gI h b3 3 1) fun v9 =>
  ob1 (gI h b3 3 0) fun v11 =>
  gd (ckO h b3 3) <|
  ob1 (fX3_costAt b3 (v7 + (1 : Int32)) h) fun r14 =>
  gd (ckO h b3 3) <|
  ob1 (fX3_lossAt b3 (v7 + (1 : Int32)) h) fun r17 =>
  ob2 (fX0_comeTo a0 v9 v11 x2 (r14 + r17) h) fun r19 g20 =>
  if v7 ≤ (0 : Int32) then
    gd (zb r19) <|
    some (r19, g20)
  else
    ob1 (gI g20 b3 3 0) fun v23 =>
    ob1 (gI g20 b3 3 1) fun v25 =>
    gd (ckO g20 b3 3) <|
    ob1 (fX3_costAt b3 v7 g20) fun r28 =>
    gd (ckO g20 b3 3) <|
    ob1 (fX3_lossAt b3 v7 g20) fun r31 =>
    ob2 (fX0_comeTo a0 v23 v25 x2 ((-r28) - r31) g20) fun r33 g34 =>
    bnd (r19 ||| r33) fun y36 =>
    gd (zb y36) <|
    some (y36, g34)
set_option maxHeartbeats 4000000 in
set_option maxRecDepth 100000 in
theorem mX0_reach (l : Launch) {G : GG} {b0 : Nat} {h : AH} {a0 : Nat} {a1 : Nat} {x2 : Int32} {rr : Int32} {hh : AH} (ht : isO h a0 0) (hf : fX0_reach a0 a1 x2 h = some (rr, hh)) : MM l yX0_reach cX0_reach 6 (some .boolean) rmX0_reach G b0 h [.ref a0, .ref a1, .int x2] (some (.int rr)) hh := by
  refine MM.of (own := RX0) (lv0 := [(0, .ref a0), (1, .ref a1), (2, .int x2)]) (by decide) rfl (Nat.le_of_ble_eq_true rfl) rfl ?_
  intro p e s m args below meth c K hnm
  unfold fX0_reach at hf
  refine r_aload_n K 1 dX0_reach_0 rfl ?_
  obtain ⟨b1, e2, hf⟩ := ob1_s hf
  refine r_getR (ci := 1) (k := 2) K dX0_reach_1 inX1 rfl (by decide) rfl q_160 e2 ?_
  refine r_iload_n K 2 dX0_reach_4 rfl ?_
  obtain ⟨b3, e4, hf⟩ := ob1_s hf
  refine r_aaload (kd := 4) (ty := .object RX3) K dX0_reach_5 rfl rfl e4 ?_
  refine r_astore_n (lv1 := [(3, .ref b3), (0, .ref a0), (1, .ref a1), (2, .int x2)]) K dX0_reach_6 (by decide) rfl ?_
  refine r_aload_n K 1 dX0_reach_7 rfl ?_
  obtain ⟨b5, e6, hf⟩ := ob1_s hf
  refine r_getR (ci := 0) (k := 1) K dX0_reach_8 inX0 rfl (by decide) rfl q_242 e6 ?_
  refine r_iload_n K 3 dX0_reach_11 rfl ?_
  obtain ⟨v7, e8, hf⟩ := ob1_s hf
  refine r_iaload K dX0_reach_12 e8 ?_
  refine r_istore (lv1 := [(4, .int v7), (3, .ref b3), (0, .ref a0), (1, .ref a1), (2, .int x2)]) K dX0_reach_13 (by decide) rfl ?_
  refine r_aload_n K 2 dX0_reach_15 rfl ?_
  refine r_aload_n K 1 dX0_reach_16 rfl ?_
  obtain ⟨v9, e10, hf⟩ := ob1_s hf
  refine r_getI (ci := 3) (k := 1) K dX0_reach_17 inX3 rfl (by decide) rfl q_120 e10 ?_
  refine r_aload_n K 1 dX0_reach_20 rfl ?_
  obtain ⟨v11, e12, hf⟩ := ob1_s hf
  refine r_getI (ci := 3) (k := 0) K dX0_reach_21 inX3 rfl (by decide) rfl q_116 e12 ?_
  refine r_iload_n K 4 dX0_reach_24 rfl ?_
  refine r_aload_n K 1 dX0_reach_25 rfl ?_
  refine r_iload K 0 dX0_reach_26 rfl ?_
  refine r_iconst (v := (1 : Int32)) K dX0_reach_28 (by decide) ?_
  refine r_iadd K dX0_reach_29 ?_
  obtain ⟨z13, hf⟩ := gd_s hf
  obtain ⟨r14, e15, hf⟩ := ob1_s hf
  refine r_callV (As := [.int (v7 + (1 : Int32))]) (rest := [.int x2, .int v11, .int v9, .ref a0]) (st1 := [.long r14, .int x2, .int v11, .int v9, .ref a0]) (cells1 := 0) (slots1 := 0) (b := b3) (ci := 3) K (fun z => mX3_costAt l z e15) dX0_reach_30 rfl (fun _ => isO_of z13) rfl ceX3_costAt q_750 q_476 q_477 q_77 q_478 ⟨Nat.le_of_ble_eq_true rfl, Nat.le_of_ble_eq_true rfl⟩ (Nat.le_of_ble_eq_true rfl) ⟨Nat.le_of_ble_eq_true rfl, Nat.le_of_ble_eq_true rfl⟩ ?_ rfl rfl rfl rfl
  refine r_aload_n K 1 dX0_reach_33 rfl ?_
  refine r_iload K 0 dX0_reach_34 rfl ?_
  refine r_iconst (v := (1 : Int32)) K dX0_reach_36 (by decide) ?_
  refine r_iadd K dX0_reach_37 ?_
  obtain ⟨z16, hf⟩ := gd_s hf
  obtain ⟨r17, e18, hf⟩ := ob1_s hf
  refine r_callV (As := [.int (v7 + (1 : Int32))]) (rest := [.long r14, .int x2, .int v11, .int v9, .ref a0]) (st1 := [.long r17, .long r14, .int x2, .int v11, .int v9, .ref a0]) (cells1 := 0) (slots1 := 0) (b := b3) (ci := 3) K (fun z => mX3_lossAt l z e18) dX0_reach_38 rfl (fun _ => isO_of z16) rfl ceX3_lossAt q_751 q_480 q_481 q_77 q_482 ⟨Nat.le_of_ble_eq_true rfl, Nat.le_of_ble_eq_true rfl⟩ (Nat.le_of_ble_eq_true rfl) ⟨Nat.le_of_ble_eq_true rfl, Nat.le_of_ble_eq_true rfl⟩ ?_ rfl rfl rfl rfl
  refine r_ladd K dX0_reach_41 ?_
  obtain ⟨r19, g20, e21, hf⟩ := ob2_s hf
  refine r_callV (As := [.int v9, .int v11, .int x2, .long (r14 + r17)]) (rest := []) (st1 := [.int r19]) (cells1 := 0) (slots1 := 0) (b := a0) (ci := 0) K (fun z => mX0_comeTo l z e21) dX0_reach_42 rfl (fun z => z _ _ ht) rfl ceX0_comeTo q_752 q_754 q_24 q_79 q_755 ⟨Nat.le_of_ble_eq_true rfl, Nat.le_of_ble_eq_true rfl⟩ (Nat.le_of_ble_eq_true rfl) ⟨Nat.le_of_ble_eq_true rfl, Nat.le_of_ble_eq_true rfl⟩ ?_ rfl rfl rfl rfl
  refine r_istore (lv1 := [(5, .int r19), (4, .int v7), (3, .ref b3), (0, .ref a0), (1, .ref a1), (2, .int x2)]) K dX0_reach_45 (by decide) rfl ?_
  refine r_iload K 1 dX0_reach_47 rfl ?_
  refine r_if_le (tgt := 84) K dX0_reach_49 (by decide) (fun c38 => ?_) (fun c38 => ?_)
  · replace hf := ite_t hf c38
    refine r_iload K 0 dX0_reach_84 rfl ?_
    obtain ⟨z22, hf⟩ := gd_s hf
    exact r_zret K dX0_reach_86 (zb_n z22) hf (Nat.le_of_ble_eq_true rfl) (Nat.le_of_ble_eq_true rfl)
  · replace hf := ite_f hf c38
    refine r_iload K 0 dX0_reach_52 rfl ?_
    refine r_aload_n K 3 dX0_reach_54 rfl ?_
    refine r_aload_n K 2 dX0_reach_55 rfl ?_
    obtain ⟨v23, e24, hf⟩ := ob1_s hf
    refine r_getI (ci := 3) (k := 0) K dX0_reach_56 inX3 rfl (by decide) rfl q_116 e24 ?_
    refine r_aload_n K 2 dX0_reach_59 rfl ?_
    obtain ⟨v25, e26, hf⟩ := ob1_s hf
    refine r_getI (ci := 3) (k := 1) K dX0_reach_60 inX3 rfl (by decide) rfl q_120 e26 ?_
    refine r_iload_n K 5 dX0_reach_63 rfl ?_
    refine r_aload_n K 2 dX0_reach_64 rfl ?_
    refine r_iload K 1 dX0_reach_65 rfl ?_
    obtain ⟨z27, hf⟩ := gd_s hf
    obtain ⟨r28, e29, hf⟩ := ob1_s hf
    refine r_callV (As := [.int v7]) (rest := [.int x2, .int v25, .int v23, .ref a0, .int r19]) (st1 := [.long r28, .int x2, .int v25, .int v23, .ref a0, .int r19]) (cells1 := 0) (slots1 := 0) (b := b3) (ci := 3) K (fun z => mX3_costAt l z e29) dX0_reach_67 rfl (fun _ => isO_of z27) rfl ceX3_costAt q_750 q_476 q_477 q_77 q_478 ⟨Nat.le_of_ble_eq_true rfl, Nat.le_of_ble_eq_true rfl⟩ (Nat.le_of_ble_eq_true rfl) ⟨Nat.le_of_ble_eq_true rfl, Nat.le_of_ble_eq_true rfl⟩ ?_ rfl rfl rfl rfl
    refine r_lneg K dX0_reach_70 ?_
    refine r_aload_n K 2 dX0_reach_71 rfl ?_
    refine r_iload K 1 dX0_reach_72 rfl ?_
    obtain ⟨z30, hf⟩ := gd_s hf
    obtain ⟨r31, e32, hf⟩ := ob1_s hf
    refine r_callV (As := [.int v7]) (rest := [.long (-r28), .int x2, .int v25, .int v23, .ref a0, .int r19]) (st1 := [.long r31, .long (-r28), .int x2, .int v25, .int v23, .ref a0, .int r19]) (cells1 := 0) (slots1 := 0) (b := b3) (ci := 3) K (fun z => mX3_lossAt l z e32) dX0_reach_74 rfl (fun _ => isO_of z30) rfl ceX3_lossAt q_751 q_480 q_481 q_77 q_482 ⟨Nat.le_of_ble_eq_true rfl, Nat.le_of_ble_eq_true rfl⟩ (Nat.le_of_ble_eq_true rfl) ⟨Nat.le_of_ble_eq_true rfl, Nat.le_of_ble_eq_true rfl⟩ ?_ rfl rfl rfl rfl
    refine r_lsub K dX0_reach_77 ?_
    obtain ⟨r33, g34, e35, hf⟩ := ob2_s hf
    refine r_callV (As := [.int v23, .int v25, .int x2, .long ((-r28) - r31)]) (rest := [.int r19]) (st1 := [.int r33, .int r19]) (cells1 := 0) (slots1 := 0) (b := a0) (ci := 0) K (fun z => mX0_comeTo l z e35) dX0_reach_78 rfl (fun z => z _ _ ht) rfl ceX0_comeTo q_752 q_754 q_24 q_79 q_755 ⟨Nat.le_of_ble_eq_true rfl, Nat.le_of_ble_eq_true rfl⟩ (Nat.le_of_ble_eq_true rfl) ⟨Nat.le_of_ble_eq_true rfl, Nat.le_of_ble_eq_true rfl⟩ ?_ rfl rfl rfl rfl
    refine r_ior K dX0_reach_81 ?_
    obtain ⟨y36, ey36, hf⟩ := bnd_g hf
    refine r_nmi ey36 ?_
    refine r_istore (lv1 := [(5, .int y36), (4, .int v7), (3, .ref b3), (0, .ref a0), (1, .ref a1), (2, .int x2)]) K dX0_reach_82 (by decide) rfl ?_
    refine r_iload K 0 dX0_reach_84 rfl ?_
    obtain ⟨z37, hf⟩ := gd_s hf
    exact r_zret K dX0_reach_86 (zb_n z37) hf (Nat.le_of_ble_eq_true rfl) (Nat.le_of_ble_eq_true rfl)
theorem ceX0_measure : CE yX0_measure 1 := ⟨by decide, by decide, by decide +kernel⟩
abbrev rmX0_measure : Room := { frames := 2, cells := 0, slots := 0, locals := 50 }
def fX0_measure_L2 (a0 : Nat) (a1 : Nat) (k : AH → Option AH) : Nat → Int32 → AH → Option AH
  | 0, _, _ => none
  | n + 1, x2, h =>
    if (6 : Int32) ≤ x2 then
      k h
    else
      ob1 (gR h a0 0 2) fun b1 =>
      bnd (fun (v4 : Int32) =>
        ob1 (sZ h b1 x2 v4) fun g5 =>
        ob1 (gR g5 a0 0 3) fun b7 =>
        ob1 (sL g5 b7 x2 (0 : Int64)) fun g9 =>
        bnd (x2 + (1 : Int32)) fun y11 =>
        fX0_measure_L2 a0 a1 k n y11 g9
      ) fun j3 =>
      if x2 = (0 : Int32) then
        j3 (1 : Int32)
      else
        j3 (0 : Int32)
def fX0_measure_L55 (a0 : Nat) (a1 : Nat) (x3 : Int32) (k : Int32 → AH → Option AH) : Nat → Int32 → Int32 → AH → Option AH
  | 0, _, _, _ => none
  | n + 1, x2, x4, h =>
    ob1 (gI h a1 1 1) fun v15 =>
    if v15 ≤ x4 then
      k x2 h
    else
      ob2 (fX0_reach a0 a1 x4 h) fun r17 g18 =>
      bnd (x2 ||| r17) fun y20 =>
      bnd (x4 + (1 : Int32)) fun y21 =>
      fX0_measure_L55 a0 a1 x3 k n y20 y21 g18
def fX0_measure_L40 (a0 : Nat) (a1 : Nat) (k : AH → Option AH) : Nat → Int32 → Int32 → AH → Option AH
  | 0, _, _, _ => none
  | n + 1, x2, x3, h =>
    if (6 : Int32) ≤ x3 then
      k h
    else
      if x2 = (0 : Int32) then
        k h
      else
        fX0_measure_L55 a0 a1 x3 (fun (y23 : Int32) (g24 : AH) =>
          bnd (x3 + (1 : Int32)) fun y25 =>
          fX0_measure_L40 a0 a1 k n y23 y25 g24
        ) lf (0 : Int32) (0 : Int32) h
def fX0_measure (a0 : Nat) (a1 : Nat) (h : AH) : Option AH :=
  fX0_measure_L2 a0 a1 (fun (g14 : AH) =>
    fX0_measure_L40 a0 a1 (fun (g28 : AH) =>
      some g28
    ) lf (1 : Int32) (0 : Int32) g14
  ) lf (0 : Int32) h
set_option maxHeartbeats 4000000 in
set_option maxRecDepth 100000 in
theorem wX0_measure_L2 {p : Program} {l : Launch} {e : Env} {s : State} {m : MethodId} {args : Array Value} {below : List Frame} {meth : Method} {c : Code} {G : GG} {b0 : Nat} {h0 : AH} {a0 : Nat} {a1 : Nat} {hh : AH} (K : CX p s m args meth c cX0_measure 5 RX0 (none) G b0) (ht : isO h0 a0 0) (k : AH → Option AH) (hk : ∀ (h : AH), k h = some hh → WA p l e rmX0_measure s m args below meth c (MQ below (QG G b0 h0 none hh) args s (rmX0_measure).cells (rmX0_measure).slots (AB b0)) G b0 5 h0 0 0 h 36 [(0, .ref a0), (1, .ref a1)] []) : ∀ (n : Nat) (x2 : Int32) (h : AH), fX0_measure_L2 a0 a1 k n x2 h = some hh → WA p l e rmX0_measure s m args below meth c (MQ below (QG G b0 h0 none hh) args s (rmX0_measure).cells (rmX0_measure).slots (AB b0)) G b0 5 h0 0 0 h 2 [(0, .ref a0), (1, .ref a1), (2, .int x2)] [] := by
  intro n
  induction n with
  | zero =>
    intro x2 h hf
    rw [fX0_measure_L2] at hf
    cases hf
  | succ n ih =>
    intro x2 h hf
    rw [fX0_measure_L2] at hf
    refine r_iload_n K 2 dX0_measure_2 rfl ?_
    refine r_bipush (v := (6 : Int32)) K dX0_measure_3 (by decide) ?_
    refine r_icmp_ge (tgt := 36) K dX0_measure_5 (by decide) (fun c13 => ?_) (fun c13 => ?_)
    · replace hf := ite_t hf c13
      refine r_lv [0, 1] rfl ?_
      exact hk h hf
    · replace hf := ite_f hf c13
      refine r_aload_n K 0 dX0_measure_8 rfl ?_
      obtain ⟨b1, e2, hf⟩ := ob1_s hf
      refine r_getR (ci := 0) (k := 2) K dX0_measure_9 inX0 rfl (by decide) rfl q_243 e2 ?_
      refine r_iload_n K 2 dX0_measure_12 rfl ?_
      refine r_iload_n K 2 dX0_measure_13 rfl ?_
      obtain ⟨j3, ej3, hf⟩ := bnd_g hf
      have Jj3 : ∀ (v4 : Int32), j3 v4 = some hh → WA p l e rmX0_measure s m args below meth c (MQ below (QG G b0 h0 none hh) args s (rmX0_measure).cells (rmX0_measure).slots (AB b0)) G b0 5 h0 0 0 h 22 [(0, .ref a0), (1, .ref a1), (2, .int x2)] [.int v4, .int x2, .ref b1] := by
        intro v4 hf
        rw [ej3] at hf
        obtain ⟨g5, e6, hf⟩ := ob1_s hf
        refine r_zastore K dX0_measure_22 e6 ?_
        refine r_aload_n K 0 dX0_measure_23 rfl ?_
        obtain ⟨b7, e8, hf⟩ := ob1_s hf
        refine r_getR (ci := 0) (k := 3) K dX0_measure_24 inX0 rfl (by decide) rfl q_244 e8 ?_
        refine r_iload_n K 2 dX0_measure_27 rfl ?_
        refine r_lconst (v := (0 : Int64)) K dX0_measure_28 (by decide) ?_
        obtain ⟨g9, e10, hf⟩ := ob1_s hf
        refine r_lastore K dX0_measure_29 e10 ?_
        obtain ⟨y11, ey11, hf⟩ := bnd_g hf
        refine r_iinc (lv1 := [(2, .int y11), (0, .ref a0), (1, .ref a1)]) K 2 dX0_measure_30 rfl (by rw [ey11]; rfl) (by decide) rfl ?_
        refine r_goto (tgt := 2) K dX0_measure_33 (by decide) ?_
        refine r_lv [1, 2, 0] rfl ?_
        exact ih y11 g9 hf
      refine r_if_ne (tgt := 21) K dX0_measure_14 (by decide) (fun c12 => ?_) (fun c12 => ?_)
      · replace hf := ite_f hf c12
        refine r_iconst (v := (0 : Int32)) K dX0_measure_21 (by decide) ?_
        exact Jj3 (0 : Int32) hf
      · replace hf := ite_t hf c12
        refine r_iconst (v := (1 : Int32)) K dX0_measure_17 (by decide) ?_
        refine r_goto (tgt := 22) K dX0_measure_18 (by decide) ?_
        exact Jj3 (1 : Int32) hf
set_option maxHeartbeats 4000000 in
set_option maxRecDepth 100000 in
theorem wX0_measure_L55 {p : Program} {l : Launch} {e : Env} {s : State} {m : MethodId} {args : Array Value} {below : List Frame} {meth : Method} {c : Code} {G : GG} {b0 : Nat} {h0 : AH} {a0 : Nat} {a1 : Nat} {x3 : Int32} {hh : AH} (K : CX p s m args meth c cX0_measure 5 RX0 (none) G b0) (ht : isO h0 a0 0) (k : Int32 → AH → Option AH) (hk : ∀ (x2 : Int32) (h : AH), k x2 h = some hh → WA p l e rmX0_measure s m args below meth c (MQ below (QG G b0 h0 none hh) args s (rmX0_measure).cells (rmX0_measure).slots (AB b0)) G b0 5 h0 0 0 h 80 [(0, .ref a0), (1, .ref a1), (2, .int x2), (3, .int x3)] []) : ∀ (n : Nat) (x2 : Int32) (x4 : Int32) (h : AH), fX0_measure_L55 a0 a1 x3 k n x2 x4 h = some hh → WA p l e rmX0_measure s m args below meth c (MQ below (QG G b0 h0 none hh) args s (rmX0_measure).cells (rmX0_measure).slots (AB b0)) G b0 5 h0 0 0 h 55 [(0, .ref a0), (1, .ref a1), (2, .int x2), (3, .int x3), (4, .int x4)] [] := by
  intro n
  induction n with
  | zero =>
    intro x2 x4 h hf
    rw [fX0_measure_L55] at hf
    cases hf
  | succ n ih =>
    intro x2 x4 h hf
    rw [fX0_measure_L55] at hf
    refine r_iload K 4 dX0_measure_55 rfl ?_
    refine r_aload_n K 1 dX0_measure_57 rfl ?_
    obtain ⟨v15, e16, hf⟩ := ob1_s hf
    refine r_getI (ci := 1) (k := 1) K dX0_measure_58 inX1 rfl (by decide) rfl q_155 e16 ?_
    refine r_icmp_ge (tgt := 80) K dX0_measure_61 (by decide) (fun c22 => ?_) (fun c22 => ?_)
    · replace hf := ite_t hf c22
      refine r_lv [0, 1, 2, 3] rfl ?_
      exact hk x2 h hf
    · replace hf := ite_f hf c22
      refine r_iload_n K 2 dX0_measure_64 rfl ?_
      refine r_aload_n K 0 dX0_measure_65 rfl ?_
      refine r_aload_n K 1 dX0_measure_66 rfl ?_
      refine r_iload K 4 dX0_measure_67 rfl ?_
      obtain ⟨r17, g18, e19, hf⟩ := ob2_s hf
      refine r_callV (As := [.ref a1, .int x4]) (rest := [.int x2]) (st1 := [.int r17, .int x2]) (cells1 := 0) (slots1 := 0) (b := a0) (ci := 0) K (fun z => mX0_reach l z e19) dX0_measure_69 rfl (fun z => z _ _ ht) rfl ceX0_reach q_746 q_748 q_23 q_79 q_749 ⟨Nat.le_of_ble_eq_true rfl, Nat.le_of_ble_eq_true rfl⟩ (Nat.le_of_ble_eq_true rfl) ⟨Nat.le_of_ble_eq_true rfl, Nat.le_of_ble_eq_true rfl⟩ ?_ rfl rfl rfl rfl
      refine r_ior K dX0_measure_72 ?_
      obtain ⟨y20, ey20, hf⟩ := bnd_g hf
      refine r_nmi ey20 ?_
      refine r_istore_n (lv1 := [(2, .int y20), (0, .ref a0), (1, .ref a1), (3, .int x3), (4, .int x4)]) K dX0_measure_73 (by decide) rfl ?_
      obtain ⟨y21, ey21, hf⟩ := bnd_g hf
      refine r_iinc (lv1 := [(4, .int y21), (2, .int y20), (0, .ref a0), (1, .ref a1), (3, .int x3)]) K 4 dX0_measure_74 rfl (by rw [ey21]; rfl) (by decide) rfl ?_
      refine r_goto (tgt := 55) K dX0_measure_77 (by decide) ?_
      refine r_lv [2, 3, 1, 4, 0] rfl ?_
      exact ih y20 y21 g18 hf
set_option maxHeartbeats 4000000 in
set_option maxRecDepth 100000 in
theorem wX0_measure_L40 {p : Program} {l : Launch} {e : Env} {s : State} {m : MethodId} {args : Array Value} {below : List Frame} {meth : Method} {c : Code} {G : GG} {b0 : Nat} {h0 : AH} {a0 : Nat} {a1 : Nat} {hh : AH} (K : CX p s m args meth c cX0_measure 5 RX0 (none) G b0) (ht : isO h0 a0 0) (k : AH → Option AH) (hk : ∀ (h : AH), k h = some hh → WA p l e rmX0_measure s m args below meth c (MQ below (QG G b0 h0 none hh) args s (rmX0_measure).cells (rmX0_measure).slots (AB b0)) G b0 5 h0 0 0 h 86 [] []) : ∀ (n : Nat) (x2 : Int32) (x3 : Int32) (h : AH), fX0_measure_L40 a0 a1 k n x2 x3 h = some hh → WA p l e rmX0_measure s m args below meth c (MQ below (QG G b0 h0 none hh) args s (rmX0_measure).cells (rmX0_measure).slots (AB b0)) G b0 5 h0 0 0 h 40 [(0, .ref a0), (1, .ref a1), (2, .int x2), (3, .int x3)] [] := by
  intro n
  induction n with
  | zero =>
    intro x2 x3 h hf
    rw [fX0_measure_L40] at hf
    cases hf
  | succ n ih =>
    intro x2 x3 h hf
    rw [fX0_measure_L40] at hf
    refine r_iload_n K 3 dX0_measure_40 rfl ?_
    refine r_bipush (v := (6 : Int32)) K dX0_measure_41 (by decide) ?_
    refine r_icmp_ge (tgt := 86) K dX0_measure_43 (by decide) (fun c27 => ?_) (fun c27 => ?_)
    · replace hf := ite_t hf c27
      refine r_lv [] rfl ?_
      exact hk h hf
    · replace hf := ite_f hf c27
      refine r_iload_n K 2 dX0_measure_46 rfl ?_
      refine r_if_eq (tgt := 86) K dX0_measure_47 (by decide) (fun c26 => ?_) (fun c26 => ?_)
      · replace hf := ite_t hf c26
        refine r_lv [] rfl ?_
        exact hk h hf
      · replace hf := ite_f hf c26
        refine r_iconst (v := (0 : Int32)) K dX0_measure_50 (by decide) ?_
        refine r_istore_n (lv1 := [(2, .int (0 : Int32)), (0, .ref a0), (1, .ref a1), (3, .int x3)]) K dX0_measure_51 (by decide) rfl ?_
        refine r_iconst (v := (0 : Int32)) K dX0_measure_52 (by decide) ?_
        refine r_istore (lv1 := [(4, .int (0 : Int32)), (2, .int (0 : Int32)), (0, .ref a0), (1, .ref a1), (3, .int x3)]) K dX0_measure_53 (by decide) rfl ?_
        refine r_lv [2, 3, 1, 4, 0] rfl ?_
        refine wX0_measure_L55 K ht _ (fun y23 g24 hf => ?_) lf (0 : Int32) (0 : Int32) h hf
        obtain ⟨y25, ey25, hf⟩ := bnd_g hf
        refine r_iinc (lv1 := [(3, .int y25), (0, .ref a0), (1, .ref a1), (2, .int y23)]) K 3 dX0_measure_80 rfl (by rw [ey25]; rfl) (by decide) rfl ?_
        refine r_goto (tgt := 40) K dX0_measure_83 (by decide) ?_
        refine r_lv [1, 2, 3, 0] rfl ?_
        exact ih y23 y25 g24 hf
set_option maxHeartbeats 4000000 in
set_option maxRecDepth 100000 in
theorem mX0_measure (l : Launch) {G : GG} {b0 : Nat} {h : AH} {a0 : Nat} {a1 : Nat} {hh : AH} (ht : isO h a0 0) (hf : fX0_measure a0 a1 h = some hh) : MM l yX0_measure cX0_measure 5 (none) rmX0_measure G b0 h [.ref a0, .ref a1] none hh := by
  refine MM.of (own := RX0) (lv0 := [(0, .ref a0), (1, .ref a1)]) (by decide) rfl (Nat.le_of_ble_eq_true rfl) rfl ?_
  intro p e s m args below meth c K hnm
  unfold fX0_measure at hf
  refine r_iconst (v := (0 : Int32)) K dX0_measure_0 (by decide) ?_
  refine r_istore_n (lv1 := [(2, .int (0 : Int32)), (0, .ref a0), (1, .ref a1)]) K dX0_measure_1 (by decide) rfl ?_
  refine r_lv [1, 2, 0] rfl ?_
  refine wX0_measure_L2 K ht _ (fun g14 hf => ?_) lf (0 : Int32) h hf
  refine r_iconst (v := (1 : Int32)) K dX0_measure_36 (by decide) ?_
  refine r_istore_n (lv1 := [(2, .int (1 : Int32)), (0, .ref a0), (1, .ref a1)]) K dX0_measure_37 (by decide) rfl ?_
  refine r_iconst (v := (0 : Int32)) K dX0_measure_38 (by decide) ?_
  refine r_istore_n (lv1 := [(3, .int (0 : Int32)), (2, .int (1 : Int32)), (0, .ref a0), (1, .ref a1)]) K dX0_measure_39 (by decide) rfl ?_
  refine r_lv [2, 3, 1, 0] rfl ?_
  refine wX0_measure_L40 K ht _ (fun g28 hf => ?_) lf (1 : Int32) (0 : Int32) g14 hf
  exact r_vret K dX0_measure_86 hf (Nat.le_of_ble_eq_true rfl) (Nat.le_of_ble_eq_true rfl)
theorem ceX0_push : CE yX0_push 2 := ⟨by decide, by decide, by decide +kernel⟩
abbrev rmX0_push : Room := { frames := 0, cells := 0, slots := 0, locals := 0 }
def fX0_push_L18 (a0 : Nat) (a1 : Nat) (k : AH → Option AH) : Nat → Int32 → Int32 → AH → Option AH
  | 0, _, _, _ => none
  | n + 1, x3, x4, h =>
    if (6 : Int32) ≤ x4 then
      k h
    else
      if x3 = (0 : Int32) then
        k h
      else
        ob1 (gR h a0 0 5) fun b7 =>
        ob1 (aI h b7 0 x3) fun v9 =>
        ob1 (gR h a0 0 1) fun b11 =>
        ob1 (aI h b11 0 v9) fun v13 =>
        ob1 (gR h a1 1 2) fun b15 =>
        ob1 (aR h b15 4 v9) fun b17 =>
        ob1 (gI h b17 3 1) fun v19 =>
        bnd (fun (v22 : Int32) =>
          ob1 (sI h b11 v9 (v13 + v22)) fun g23 =>
          ob1 (gR g23 a0 0 4) fun b25 =>
          ob1 (aI g23 b25 0 x3) fun v27 =>
          bnd (x4 + (1 : Int32)) fun y29 =>
          fX0_push_L18 a0 a1 k n v27 y29 g23
        ) fun j21 =>
        if v19 = x3 then
          j21 (1 : Int32)
        else
          j21 (-1 : Int32)
def fX0_push (a0 : Nat) (a1 : Nat) (x2 : Int32) (h : AH) : Option AH :=
  ob1 (gR h a0 0 2) fun b1 =>
  ob1 (aI h b1 2 x2) fun v3 =>
  bnd (fun (v6 : Int32) =>
    fX0_push_L18 a0 a1 (fun (g33 : AH) =>
      some g33
    ) lf v6 (0 : Int32) h
  ) fun j5 =>
  if v3 = (0 : Int32) then
    j5 (0 : Int32)
  else
    j5 x2
set_option maxHeartbeats 4000000 in
set_option maxRecDepth 100000 in
theorem wX0_push_L18 {p : Program} {l : Launch} {e : Env} {s : State} {m : MethodId} {args : Array Value} {below : List Frame} {meth : Method} {c : Code} {G : GG} {b0 : Nat} {h0 : AH} {a0 : Nat} {a1 : Nat} {hh : AH} (K : CX p s m args meth c cX0_push 6 RX0 (none) G b0) (ht : isO h0 a0 0) (k : AH → Option AH) (hk : ∀ (h : AH), k h = some hh → WA p l e rmX0_push s m args below meth c (MQ below (QG G b0 h0 none hh) args s (rmX0_push).cells (rmX0_push).slots (AB b0)) G b0 6 h0 0 0 h 79 [] []) : ∀ (n : Nat) (x3 : Int32) (x4 : Int32) (h : AH), fX0_push_L18 a0 a1 k n x3 x4 h = some hh → WA p l e rmX0_push s m args below meth c (MQ below (QG G b0 h0 none hh) args s (rmX0_push).cells (rmX0_push).slots (AB b0)) G b0 6 h0 0 0 h 18 [(0, .ref a0), (1, .ref a1), (3, .int x3), (4, .int x4)] [] := by
  intro n
  induction n with
  | zero =>
    intro x3 x4 h hf
    rw [fX0_push_L18] at hf
    cases hf
  | succ n ih =>
    intro x3 x4 h hf
    rw [fX0_push_L18] at hf
    refine r_iload K 3 dX0_push_18 rfl ?_
    refine r_bipush (v := (6 : Int32)) K dX0_push_20 (by decide) ?_
    refine r_icmp_ge (tgt := 79) K dX0_push_22 (by decide) (fun c32 => ?_) (fun c32 => ?_)
    · replace hf := ite_t hf c32
      refine r_lv [] rfl ?_
      exact hk h hf
    · replace hf := ite_f hf c32
      refine r_iload_n K 2 dX0_push_25 rfl ?_
      refine r_if_eq (tgt := 79) K dX0_push_26 (by decide) (fun c31 => ?_) (fun c31 => ?_)
      · replace hf := ite_t hf c31
        refine r_lv [] rfl ?_
        exact hk h hf
      · replace hf := ite_f hf c31
        refine r_aload_n K 0 dX0_push_29 rfl ?_
        obtain ⟨b7, e8, hf⟩ := ob1_s hf
        refine r_getR (ci := 0) (k := 5) K dX0_push_30 inX0 rfl (by decide) rfl q_246 e8 ?_
        refine r_iload_n K 2 dX0_push_33 rfl ?_
        obtain ⟨v9, e10, hf⟩ := ob1_s hf
        refine r_iaload K dX0_push_34 e10 ?_
        refine r_istore (lv1 := [(5, .int v9), (0, .ref a0), (1, .ref a1), (3, .int x3), (4, .int x4)]) K dX0_push_35 (by decide) rfl ?_
        refine r_aload_n K 1 dX0_push_37 rfl ?_
        obtain ⟨b11, e12, hf⟩ := ob1_s hf
        refine r_getR (ci := 0) (k := 1) K dX0_push_38 inX0 rfl (by decide) rfl q_242 e12 ?_
        refine r_iload K 0 dX0_push_41 rfl ?_
        refine r_dup2_11 K dX0_push_43 rfl rfl ?_
        obtain ⟨v13, e14, hf⟩ := ob1_s hf
        refine r_iaload K dX0_push_44 e14 ?_
        refine r_aload_n K 2 dX0_push_45 rfl ?_
        obtain ⟨b15, e16, hf⟩ := ob1_s hf
        refine r_getR (ci := 1) (k := 2) K dX0_push_46 inX1 rfl (by decide) rfl q_160 e16 ?_
        refine r_iload K 0 dX0_push_49 rfl ?_
        obtain ⟨b17, e18, hf⟩ := ob1_s hf
        refine r_aaload (kd := 4) (ty := .object RX3) K dX0_push_51 rfl rfl e18 ?_
        obtain ⟨v19, e20, hf⟩ := ob1_s hf
        refine r_getI (ci := 3) (k := 1) K dX0_push_52 inX3 rfl (by decide) rfl q_120 e20 ?_
        refine r_iload_n K 3 dX0_push_55 rfl ?_
        obtain ⟨j21, ej21, hf⟩ := bnd_g hf
        have Jj21 : ∀ (v22 : Int32), j21 v22 = some hh → WA p l e rmX0_push s m args below meth c (MQ below (QG G b0 h0 none hh) args s (rmX0_push).cells (rmX0_push).slots (AB b0)) G b0 6 h0 0 0 h 64 [(0, .ref a0), (1, .ref a1), (3, .int x3), (4, .int x4)] [.int v22, .int v13, .int v9, .ref b11] := by
          intro v22 hf
          rw [ej21] at hf
          refine r_iadd K dX0_push_64 ?_
          obtain ⟨g23, e24, hf⟩ := ob1_s hf
          refine r_iastore K dX0_push_65 e24 ?_
          refine r_aload_n K 0 dX0_push_66 rfl ?_
          obtain ⟨b25, e26, hf⟩ := ob1_s hf
          refine r_getR (ci := 0) (k := 4) K dX0_push_67 inX0 rfl (by decide) rfl q_245 e26 ?_
          refine r_iload_n K 2 dX0_push_70 rfl ?_
          obtain ⟨v27, e28, hf⟩ := ob1_s hf
          refine r_iaload K dX0_push_71 e28 ?_
          refine r_istore_n (lv1 := [(3, .int v27), (0, .ref a0), (1, .ref a1), (4, .int x4)]) K dX0_push_72 (by decide) rfl ?_
          obtain ⟨y29, ey29, hf⟩ := bnd_g hf
          refine r_iinc (lv1 := [(4, .int y29), (3, .int v27), (0, .ref a0), (1, .ref a1)]) K 3 dX0_push_73 rfl (by rw [ey29]; rfl) (by decide) rfl ?_
          refine r_goto (tgt := 18) K dX0_push_76 (by decide) ?_
          refine r_lv [2, 3, 1, 0] rfl ?_
          exact ih v27 y29 g23 hf
        refine r_icmp_ne (tgt := 63) K dX0_push_56 (by decide) (fun c30 => ?_) (fun c30 => ?_)
        · replace hf := ite_f hf c30
          refine r_iconst (v := (-1 : Int32)) K dX0_push_63 (by decide) ?_
          refine r_lv [1, 2, 3, 4] rfl ?_
          exact Jj21 (-1 : Int32) hf
        · replace hf := ite_t hf c30
          refine r_iconst (v := (1 : Int32)) K dX0_push_59 (by decide) ?_
          refine r_goto (tgt := 64) K dX0_push_60 (by decide) ?_
          refine r_lv [1, 2, 3, 4] rfl ?_
          exact Jj21 (1 : Int32) hf
set_option maxHeartbeats 4000000 in
set_option maxRecDepth 100000 in
theorem mX0_push (l : Launch) {G : GG} {b0 : Nat} {h : AH} {a0 : Nat} {a1 : Nat} {x2 : Int32} {hh : AH} (ht : isO h a0 0) (hf : fX0_push a0 a1 x2 h = some hh) : MM l yX0_push cX0_push 6 (none) rmX0_push G b0 h [.ref a0, .ref a1, .int x2] none hh := by
  refine MM.of (own := RX0) (lv0 := [(0, .ref a0), (1, .ref a1), (2, .int x2)]) (by decide) rfl (Nat.le_of_ble_eq_true rfl) rfl ?_
  intro p e s m args below meth c K hnm
  unfold fX0_push at hf
  refine r_aload_n K 0 dX0_push_0 rfl ?_
  obtain ⟨b1, e2, hf⟩ := ob1_s hf
  refine r_getR (ci := 0) (k := 2) K dX0_push_1 inX0 rfl (by decide) rfl q_243 e2 ?_
  refine r_iload_n K 2 dX0_push_4 rfl ?_
  obtain ⟨v3, e4, hf⟩ := ob1_s hf
  refine r_zaload K dX0_push_5 e4 ?_
  obtain ⟨j5, ej5, hf⟩ := bnd_g hf
  have Jj5 : ∀ (v6 : Int32), j5 v6 = some hh → WA p l e rmX0_push s m args below meth c (MQ below (QG G b0 h none hh) args s (rmX0_push).cells (rmX0_push).slots (AB b0)) G b0 6 h 0 0 h 14 [(0, .ref a0), (1, .ref a1)] [.int v6] := by
    intro v6 hf
    rw [ej5] at hf
    refine r_istore_n (lv1 := [(3, .int v6), (0, .ref a0), (1, .ref a1)]) K dX0_push_14 (by decide) rfl ?_
    refine r_iconst (v := (0 : Int32)) K dX0_push_15 (by decide) ?_
    refine r_istore (lv1 := [(4, .int (0 : Int32)), (3, .int v6), (0, .ref a0), (1, .ref a1)]) K dX0_push_16 (by decide) rfl ?_
    refine r_lv [2, 3, 1, 0] rfl ?_
    refine wX0_push_L18 K ht _ (fun g33 hf => ?_) lf v6 (0 : Int32) h hf
    exact r_vret K dX0_push_79 hf (Nat.le_of_ble_eq_true rfl) (Nat.le_of_ble_eq_true rfl)
  refine r_if_eq (tgt := 13) K dX0_push_6 (by decide) (fun c34 => ?_) (fun c34 => ?_)
  · replace hf := ite_t hf c34
    refine r_iconst (v := (0 : Int32)) K dX0_push_13 (by decide) ?_
    refine r_lv [0, 1] rfl ?_
    exact Jj5 (0 : Int32) hf
  · replace hf := ite_f hf c34
    refine r_iload_n K 2 dX0_push_9 rfl ?_
    refine r_goto (tgt := 14) K dX0_push_10 (by decide) ?_
    refine r_lv [0, 1] rfl ?_
    exact Jj5 x2 hf
theorem ceX1_addUp : CE yX1_addUp 2 := ⟨by decide, by decide, by decide +kernel⟩
abbrev rmX1_addUp : Room := { frames := 1, cells := 0, slots := 0, locals := 24 }
def fX1_addUp_L6 (a0 : Nat) (a1 : Nat) (a2 : Nat) (k : AH → Option AH) : Nat → Int32 → AH → Option AH
  | 0, _, _ => none
  | n + 1, x3, h =>
    ob1 (gI h a0 1 1) fun v4 =>
    if v4 ≤ x3 then
      k h
    else
      ob1 (aI h a1 0 x3) fun v6 =>
      if v6 ≤ (0 : Int32) then
        bnd (x3 + (1 : Int32)) fun y8 =>
        fX1_addUp_L6 a0 a1 a2 k n y8 h
      else
        ob1 (aI h a1 0 x3) fun v9 =>
        ob1 (gR h a0 1 2) fun b11 =>
        ob1 (aR h b11 4 x3) fun b13 =>
        ob1 (aI h a1 0 x3) fun v15 =>
        gd (ckO h b13 3) <|
        ob1 (fX3_costAt b13 v15 h) fun r18 =>
        gd (ckO h a2 6) <|
        ob1 (fX6_add a2 (Int32.toInt64 v9) r18 h) fun g21 =>
        bnd (x3 + (1 : Int32)) fun y23 =>
        fX1_addUp_L6 a0 a1 a2 k n y23 g21
def fX1_addUp (a0 : Nat) (a1 : Nat) (a2 : Nat) (h : AH) : Option AH :=
  gd (ckO h a2 6) <|
  ob1 (fX6_reset a2 h) fun g2 =>
  fX1_addUp_L6 a0 a1 a2 (fun (g26 : AH) =>
    some g26
  ) lf (0 : Int32) g2
set_option maxHeartbeats 4000000 in
set_option maxRecDepth 100000 in
theorem wX1_addUp_L6 {p : Program} {l : Launch} {e : Env} {s : State} {m : MethodId} {args : Array Value} {below : List Frame} {meth : Method} {c : Code} {G : GG} {b0 : Nat} {h0 : AH} {a0 : Nat} {a1 : Nat} {a2 : Nat} {hh : AH} (K : CX p s m args meth c cX1_addUp 4 RX1 (none) G b0) (ht : isO h0 a0 1) (k : AH → Option AH) (hk : ∀ (h : AH), k h = some hh → WA p l e rmX1_addUp s m args below meth c (MQ below (QG G b0 h0 none hh) args s (rmX1_addUp).cells (rmX1_addUp).slots (AB b0)) G b0 4 h0 0 0 h 46 [] []) : ∀ (n : Nat) (x3 : Int32) (h : AH), fX1_addUp_L6 a0 a1 a2 k n x3 h = some hh → WA p l e rmX1_addUp s m args below meth c (MQ below (QG G b0 h0 none hh) args s (rmX1_addUp).cells (rmX1_addUp).slots (AB b0)) G b0 4 h0 0 0 h 6 [(0, .ref a0), (1, .ref a1), (2, .ref a2), (3, .int x3)] [] := by
  intro n
  induction n with
  | zero =>
    intro x3 h hf
    rw [fX1_addUp_L6] at hf
    cases hf
  | succ n ih =>
    intro x3 h hf
    rw [fX1_addUp_L6] at hf
    refine r_iload_n K 3 dX1_addUp_6 rfl ?_
    refine r_aload_n K 0 dX1_addUp_7 rfl ?_
    obtain ⟨v4, e5, hf⟩ := ob1_s hf
    refine r_getI (ci := 1) (k := 1) K dX1_addUp_8 inX1 rfl (by decide) rfl q_152 e5 ?_
    refine r_icmp_ge (tgt := 46) K dX1_addUp_11 (by decide) (fun c25 => ?_) (fun c25 => ?_)
    · replace hf := ite_t hf c25
      refine r_lv [] rfl ?_
      exact hk h hf
    · replace hf := ite_f hf c25
      refine r_aload_n K 1 dX1_addUp_14 rfl ?_
      refine r_iload_n K 3 dX1_addUp_15 rfl ?_
      obtain ⟨v6, e7, hf⟩ := ob1_s hf
      refine r_iaload K dX1_addUp_16 e7 ?_
      refine r_if_le (tgt := 40) K dX1_addUp_17 (by decide) (fun c24 => ?_) (fun c24 => ?_)
      · replace hf := ite_t hf c24
        obtain ⟨y8, ey8, hf⟩ := bnd_g hf
        refine r_iinc (lv1 := [(3, .int y8), (0, .ref a0), (1, .ref a1), (2, .ref a2)]) K 3 dX1_addUp_40 rfl (by rw [ey8]; rfl) (by decide) rfl ?_
        refine r_goto (tgt := 6) K dX1_addUp_43 (by decide) ?_
        refine r_lv [1, 2, 3, 0] rfl ?_
        exact ih y8 h hf
      · replace hf := ite_f hf c24
        refine r_aload_n K 2 dX1_addUp_20 rfl ?_
        refine r_aload_n K 1 dX1_addUp_21 rfl ?_
        refine r_iload_n K 3 dX1_addUp_22 rfl ?_
        obtain ⟨v9, e10, hf⟩ := ob1_s hf
        refine r_iaload K dX1_addUp_23 e10 ?_
        refine r_i2l K dX1_addUp_24 ?_
        refine r_aload_n K 0 dX1_addUp_25 rfl ?_
        obtain ⟨b11, e12, hf⟩ := ob1_s hf
        refine r_getR (ci := 1) (k := 2) K dX1_addUp_26 inX1 rfl (by decide) rfl q_158 e12 ?_
        refine r_iload_n K 3 dX1_addUp_29 rfl ?_
        obtain ⟨b13, e14, hf⟩ := ob1_s hf
        refine r_aaload (kd := 4) (ty := .object RX3) K dX1_addUp_30 rfl rfl e14 ?_
        refine r_aload_n K 1 dX1_addUp_31 rfl ?_
        refine r_iload_n K 3 dX1_addUp_32 rfl ?_
        obtain ⟨v15, e16, hf⟩ := ob1_s hf
        refine r_iaload K dX1_addUp_33 e16 ?_
        obtain ⟨z17, hf⟩ := gd_s hf
        obtain ⟨r18, e19, hf⟩ := ob1_s hf
        refine r_callV (As := [.int v15]) (rest := [.long (Int32.toInt64 v9), .ref a2]) (st1 := [.long r18, .long (Int32.toInt64 v9), .ref a2]) (cells1 := 0) (slots1 := 0) (b := b13) (ci := 3) K (fun z => mX3_costAt l z e19) dX1_addUp_34 rfl (fun _ => isO_of z17) rfl ceX3_costAt q_635 q_476 q_477 q_77 q_478 ⟨Nat.le_of_ble_eq_true rfl, Nat.le_of_ble_eq_true rfl⟩ (Nat.le_of_ble_eq_true rfl) ⟨Nat.le_of_ble_eq_true rfl, Nat.le_of_ble_eq_true rfl⟩ ?_ rfl rfl rfl rfl
        obtain ⟨z20, hf⟩ := gd_s hf
        obtain ⟨g21, e22, hf⟩ := ob1_s hf
        refine r_callV (As := [.long (Int32.toInt64 v9), .long r18]) (rest := []) (st1 := []) (cells1 := 0) (slots1 := 0) (b := a2) (ci := 6) K (fun z => mX6_add l z e22) dX1_addUp_37 rfl (fun _ => isO_of z20) rfl ceX6_add q_662 q_663 q_664 q_80 q_665 ⟨Nat.le_of_ble_eq_true rfl, Nat.le_of_ble_eq_true rfl⟩ (Nat.le_of_ble_eq_true rfl) ⟨Nat.le_of_ble_eq_true rfl, Nat.le_of_ble_eq_true rfl⟩ ?_ rfl rfl rfl rfl
        obtain ⟨y23, ey23, hf⟩ := bnd_g hf
        refine r_iinc (lv1 := [(3, .int y23), (0, .ref a0), (1, .ref a1), (2, .ref a2)]) K 3 dX1_addUp_40 rfl (by rw [ey23]; rfl) (by decide) rfl ?_
        refine r_goto (tgt := 6) K dX1_addUp_43 (by decide) ?_
        refine r_lv [1, 2, 3, 0] rfl ?_
        exact ih y23 g21 hf
set_option maxHeartbeats 4000000 in
set_option maxRecDepth 100000 in
theorem mX1_addUp (l : Launch) {G : GG} {b0 : Nat} {h : AH} {a0 : Nat} {a1 : Nat} {a2 : Nat} {hh : AH} (ht : isO h a0 1) (hf : fX1_addUp a0 a1 a2 h = some hh) : MM l yX1_addUp cX1_addUp 4 (none) rmX1_addUp G b0 h [.ref a0, .ref a1, .ref a2] none hh := by
  refine MM.of (own := RX1) (lv0 := [(0, .ref a0), (1, .ref a1), (2, .ref a2)]) (by decide) rfl (Nat.le_of_ble_eq_true rfl) rfl ?_
  intro p e s m args below meth c K hnm
  unfold fX1_addUp at hf
  refine r_aload_n K 2 dX1_addUp_0 rfl ?_
  obtain ⟨z1, hf⟩ := gd_s hf
  obtain ⟨g2, e3, hf⟩ := ob1_s hf
  refine r_callV (As := []) (rest := []) (st1 := []) (cells1 := 0) (slots1 := 0) (b := a2) (ci := 6) K (fun z => mX6_reset l z e3) dX1_addUp_1 rfl (fun _ => isO_of z1) rfl ceX6_reset q_661 q_610 q_611 q_80 q_612 ⟨Nat.le_of_ble_eq_true rfl, Nat.le_of_ble_eq_true rfl⟩ (Nat.le_of_ble_eq_true rfl) ⟨Nat.le_of_ble_eq_true rfl, Nat.le_of_ble_eq_true rfl⟩ ?_ rfl rfl rfl rfl
  refine r_iconst (v := (0 : Int32)) K dX1_addUp_4 (by decide) ?_
  refine r_istore_n (lv1 := [(3, .int (0 : Int32)), (0, .ref a0), (1, .ref a1), (2, .ref a2)]) K dX1_addUp_5 (by decide) rfl ?_
  refine r_lv [1, 2, 3, 0] rfl ?_
  refine wX1_addUp_L6 K ht _ (fun g26 hf => ?_) lf (0 : Int32) g2 hf
  exact r_vret K dX1_addUp_46 hf (Nat.le_of_ble_eq_true rfl) (Nat.le_of_ble_eq_true rfl)
theorem ceX0_seek : CE yX0_seek 1 := ⟨by decide, by decide, by decide +kernel⟩
abbrev rmX0_seek : Room := { frames := 3, cells := 0, slots := 0, locals := 74 }
def fX0_seek_L17 (a0 : Nat) (a1 : Nat) (x2 : Int32) (k : AH → Option AH) : Nat → Int32 → AH → Option AH
  | 0, _, _ => none
  | n + 1, x3, h =>
    ob1 (gR h a1 1 4) fun b5 =>
    ob1 (aR h b5 3 x2) fun b7 =>
    ob1 (aI h b7 0 (1 : Int32)) fun v9 =>
    if v9 ≤ x3 then
      k h
    else
      ob1 (fX0_measure a0 a1 h) fun g11 =>
      ob1 (gR g11 a1 1 4) fun b13 =>
      ob1 (aR g11 b13 3 x2) fun b15 =>
      ob1 (aI g11 b15 0 (0 : Int32)) fun v17 =>
      ob1 (fX0_push a0 a1 v17 g11) fun g19 =>
      bnd (x3 + (1 : Int32)) fun y21 =>
      fX0_seek_L17 a0 a1 x2 k n y21 g19
def fX0_seek_L10 (a0 : Nat) (a1 : Nat) (k : AH → Option AH) : Nat → Int32 → AH → Option AH
  | 0, _, _ => none
  | n + 1, x2, h =>
    if (3 : Int32) ≤ x2 then
      k h
    else
      fX0_seek_L17 a0 a1 x2 (fun (g23 : AH) =>
        bnd (x2 + (1 : Int32)) fun y24 =>
        fX0_seek_L10 a0 a1 k n y24 g23
      ) lf (0 : Int32) h
def fX0_seek (a0 : Nat) (a1 : Nat) (h : AH) : Option AH :=
  ob1 (gR h a0 0 1) fun b1 =>
  ob1 (fJ7_fill_53178 b1 (0 : Int32) h) fun g3 =>
  fX0_seek_L10 a0 a1 (fun (g26 : AH) =>
    ob1 (gR g26 a0 0 1) fun b27 =>
    ob1 (gR g26 a0 0 0) fun b29 =>
    gd (ckO g26 a1 1) <|
    ob1 (fX1_addUp a1 b27 b29 g26) fun g32 =>
    some g32
  ) lf (0 : Int32) g3
set_option maxHeartbeats 4000000 in
set_option maxRecDepth 100000 in
theorem wX0_seek_L17 {p : Program} {l : Launch} {e : Env} {s : State} {m : MethodId} {args : Array Value} {below : List Frame} {meth : Method} {c : Code} {G : GG} {b0 : Nat} {h0 : AH} {a0 : Nat} {a1 : Nat} {x2 : Int32} {hh : AH} (K : CX p s m args meth c cX0_seek 4 RX0 (none) G b0) (ht : isO h0 a0 0) (k : AH → Option AH) (hk : ∀ (h : AH), k h = some hh → WA p l e rmX0_seek s m args below meth c (MQ below (QG G b0 h0 none hh) args s (rmX0_seek).cells (rmX0_seek).slots (AB b0)) G b0 4 h0 0 0 h 53 [(0, .ref a0), (1, .ref a1), (2, .int x2)] []) : ∀ (n : Nat) (x3 : Int32) (h : AH), fX0_seek_L17 a0 a1 x2 k n x3 h = some hh → WA p l e rmX0_seek s m args below meth c (MQ below (QG G b0 h0 none hh) args s (rmX0_seek).cells (rmX0_seek).slots (AB b0)) G b0 4 h0 0 0 h 17 [(0, .ref a0), (1, .ref a1), (2, .int x2), (3, .int x3)] [] := by
  intro n
  induction n with
  | zero =>
    intro x3 h hf
    rw [fX0_seek_L17] at hf
    cases hf
  | succ n ih =>
    intro x3 h hf
    rw [fX0_seek_L17] at hf
    refine r_iload_n K 3 dX0_seek_17 rfl ?_
    refine r_aload_n K 1 dX0_seek_18 rfl ?_
    obtain ⟨b5, e6, hf⟩ := ob1_s hf
    refine r_getR (ci := 1) (k := 4) K dX0_seek_19 inX1 rfl (by decide) rfl q_165 e6 ?_
    refine r_iload_n K 2 dX0_seek_22 rfl ?_
    obtain ⟨b7, e8, hf⟩ := ob1_s hf
    refine r_aaload (kd := 3) (ty := .array .int) K dX0_seek_23 rfl rfl e8 ?_
    refine r_iconst (v := (1 : Int32)) K dX0_seek_24 (by decide) ?_
    obtain ⟨v9, e10, hf⟩ := ob1_s hf
    refine r_iaload K dX0_seek_25 e10 ?_
    refine r_icmp_ge (tgt := 53) K dX0_seek_26 (by decide) (fun c22 => ?_) (fun c22 => ?_)
    · replace hf := ite_t hf c22
      refine r_lv [0, 1, 2] rfl ?_
      exact hk h hf
    · replace hf := ite_f hf c22
      refine r_aload_n K 0 dX0_seek_29 rfl ?_
      refine r_aload_n K 1 dX0_seek_30 rfl ?_
      obtain ⟨g11, e12, hf⟩ := ob1_s hf
      refine r_callV (As := [.ref a1]) (rest := []) (st1 := []) (cells1 := 0) (slots1 := 0) (b := a0) (ci := 0) K (fun z => mX0_measure l z e12) dX0_seek_31 rfl (fun z => z _ _ ht) rfl ceX0_measure q_742 q_744 q_22 q_79 q_745 ⟨Nat.le_of_ble_eq_true rfl, Nat.le_of_ble_eq_true rfl⟩ (Nat.le_of_ble_eq_true rfl) ⟨Nat.le_of_ble_eq_true rfl, Nat.le_of_ble_eq_true rfl⟩ ?_ rfl rfl rfl rfl
      refine r_aload_n K 0 dX0_seek_34 rfl ?_
      refine r_aload_n K 1 dX0_seek_35 rfl ?_
      refine r_aload_n K 1 dX0_seek_36 rfl ?_
      obtain ⟨b13, e14, hf⟩ := ob1_s hf
      refine r_getR (ci := 1) (k := 4) K dX0_seek_37 inX1 rfl (by decide) rfl q_165 e14 ?_
      refine r_iload_n K 2 dX0_seek_40 rfl ?_
      obtain ⟨b15, e16, hf⟩ := ob1_s hf
      refine r_aaload (kd := 3) (ty := .array .int) K dX0_seek_41 rfl rfl e16 ?_
      refine r_iconst (v := (0 : Int32)) K dX0_seek_42 (by decide) ?_
      obtain ⟨v17, e18, hf⟩ := ob1_s hf
      refine r_iaload K dX0_seek_43 e18 ?_
      obtain ⟨g19, e20, hf⟩ := ob1_s hf
      refine r_callV (As := [.ref a1, .int v17]) (rest := []) (st1 := []) (cells1 := 0) (slots1 := 0) (b := a0) (ci := 0) K (fun z => mX0_push l z e20) dX0_seek_44 rfl (fun z => z _ _ ht) rfl ceX0_push q_756 q_758 q_25 q_79 q_759 ⟨Nat.le_of_ble_eq_true rfl, Nat.le_of_ble_eq_true rfl⟩ (Nat.le_of_ble_eq_true rfl) ⟨Nat.le_of_ble_eq_true rfl, Nat.le_of_ble_eq_true rfl⟩ ?_ rfl rfl rfl rfl
      obtain ⟨y21, ey21, hf⟩ := bnd_g hf
      refine r_iinc (lv1 := [(3, .int y21), (0, .ref a0), (1, .ref a1), (2, .int x2)]) K 3 dX0_seek_47 rfl (by rw [ey21]; rfl) (by decide) rfl ?_
      refine r_goto (tgt := 17) K dX0_seek_50 (by decide) ?_
      refine r_lv [1, 2, 3, 0] rfl ?_
      exact ih y21 g19 hf
set_option maxHeartbeats 4000000 in
set_option maxRecDepth 100000 in
theorem wX0_seek_L10 {p : Program} {l : Launch} {e : Env} {s : State} {m : MethodId} {args : Array Value} {below : List Frame} {meth : Method} {c : Code} {G : GG} {b0 : Nat} {h0 : AH} {a0 : Nat} {a1 : Nat} {hh : AH} (K : CX p s m args meth c cX0_seek 4 RX0 (none) G b0) (ht : isO h0 a0 0) (k : AH → Option AH) (hk : ∀ (h : AH), k h = some hh → WA p l e rmX0_seek s m args below meth c (MQ below (QG G b0 h0 none hh) args s (rmX0_seek).cells (rmX0_seek).slots (AB b0)) G b0 4 h0 0 0 h 59 [(0, .ref a0), (1, .ref a1)] []) : ∀ (n : Nat) (x2 : Int32) (h : AH), fX0_seek_L10 a0 a1 k n x2 h = some hh → WA p l e rmX0_seek s m args below meth c (MQ below (QG G b0 h0 none hh) args s (rmX0_seek).cells (rmX0_seek).slots (AB b0)) G b0 4 h0 0 0 h 10 [(0, .ref a0), (1, .ref a1), (2, .int x2)] [] := by
  intro n
  induction n with
  | zero =>
    intro x2 h hf
    rw [fX0_seek_L10] at hf
    cases hf
  | succ n ih =>
    intro x2 h hf
    rw [fX0_seek_L10] at hf
    refine r_iload_n K 2 dX0_seek_10 rfl ?_
    refine r_iconst (v := (3 : Int32)) K dX0_seek_11 (by decide) ?_
    refine r_icmp_ge (tgt := 59) K dX0_seek_12 (by decide) (fun c25 => ?_) (fun c25 => ?_)
    · replace hf := ite_t hf c25
      refine r_lv [0, 1] rfl ?_
      exact hk h hf
    · replace hf := ite_f hf c25
      refine r_iconst (v := (0 : Int32)) K dX0_seek_15 (by decide) ?_
      refine r_istore_n (lv1 := [(3, .int (0 : Int32)), (0, .ref a0), (1, .ref a1), (2, .int x2)]) K dX0_seek_16 (by decide) rfl ?_
      refine r_lv [1, 2, 3, 0] rfl ?_
      refine wX0_seek_L17 K ht _ (fun g23 hf => ?_) lf (0 : Int32) h hf
      obtain ⟨y24, ey24, hf⟩ := bnd_g hf
      refine r_iinc (lv1 := [(2, .int y24), (0, .ref a0), (1, .ref a1)]) K 2 dX0_seek_53 rfl (by rw [ey24]; rfl) (by decide) rfl ?_
      refine r_goto (tgt := 10) K dX0_seek_56 (by decide) ?_
      refine r_lv [1, 2, 0] rfl ?_
      exact ih y24 g23 hf
set_option maxHeartbeats 4000000 in
set_option maxRecDepth 100000 in
theorem mX0_seek (l : Launch) {G : GG} {b0 : Nat} {h : AH} {a0 : Nat} {a1 : Nat} {hh : AH} (ht : isO h a0 0) (hf : fX0_seek a0 a1 h = some hh) : MM l yX0_seek cX0_seek 4 (none) rmX0_seek G b0 h [.ref a0, .ref a1] none hh := by
  refine MM.of (own := RX0) (lv0 := [(0, .ref a0), (1, .ref a1)]) (by decide) rfl (Nat.le_of_ble_eq_true rfl) rfl ?_
  intro p e s m args below meth c K hnm
  unfold fX0_seek at hf
  refine r_aload_n K 0 dX0_seek_0 rfl ?_
  obtain ⟨b1, e2, hf⟩ := ob1_s hf
  refine r_getR (ci := 0) (k := 1) K dX0_seek_1 inX0 rfl (by decide) rfl q_242 e2 ?_
  refine r_iconst (v := (0 : Int32)) K dX0_seek_4 (by decide) ?_
  obtain ⟨g3, e4, hf⟩ := ob1_s hf
  refine r_callS (As := [.ref b1, .int (0 : Int32)]) (rest := []) (st1 := []) (cells1 := 0) (slots1 := 0) K (mJ7_fill_53178 l e4) dX0_seek_5 ceJ7_fill_53178 q_741 q_614 q_87 q_615 ⟨Nat.le_of_ble_eq_true rfl, Nat.le_of_ble_eq_true rfl⟩ (Nat.le_of_ble_eq_true rfl) ⟨Nat.le_of_ble_eq_true rfl, Nat.le_of_ble_eq_true rfl⟩ ?_ rfl rfl rfl rfl
  refine r_iconst (v := (0 : Int32)) K dX0_seek_8 (by decide) ?_
  refine r_istore_n (lv1 := [(2, .int (0 : Int32)), (0, .ref a0), (1, .ref a1)]) K dX0_seek_9 (by decide) rfl ?_
  refine r_lv [1, 2, 0] rfl ?_
  refine wX0_seek_L10 K ht _ (fun g26 hf => ?_) lf (0 : Int32) g3 hf
  refine r_aload_n K 1 dX0_seek_59 rfl ?_
  refine r_aload_n K 0 dX0_seek_60 rfl ?_
  obtain ⟨b27, e28, hf⟩ := ob1_s hf
  refine r_getR (ci := 0) (k := 1) K dX0_seek_61 inX0 rfl (by decide) rfl q_242 e28 ?_
  refine r_aload_n K 0 dX0_seek_64 rfl ?_
  obtain ⟨b29, e30, hf⟩ := ob1_s hf
  refine r_getR (ci := 0) (k := 0) K dX0_seek_65 inX0 rfl (by decide) rfl q_240 e30 ?_
  obtain ⟨z31, hf⟩ := gd_s hf
  obtain ⟨g32, e33, hf⟩ := ob1_s hf
  refine r_callV (As := [.ref b27, .ref b29]) (rest := []) (st1 := []) (cells1 := 0) (slots1 := 0) (b := a1) (ci := 1) K (fun z => mX1_addUp l z e33) dX0_seek_68 rfl (fun _ => isO_of z31) rfl ceX1_addUp q_760 q_658 q_659 q_76 q_660 ⟨Nat.le_of_ble_eq_true rfl, Nat.le_of_ble_eq_true rfl⟩ (Nat.le_of_ble_eq_true rfl) ⟨Nat.le_of_ble_eq_true rfl, Nat.le_of_ble_eq_true rfl⟩ ?_ rfl rfl rfl rfl
  exact r_vret K dX0_seek_71 hf (Nat.le_of_ble_eq_true rfl) (Nat.le_of_ble_eq_true rfl)
theorem ceX1_init : CE yX1_init 0 := ⟨by decide, by decide, by decide +kernel⟩
abbrev rmX1_init : Room := { frames := 2, cells := 7, slots := 48, locals := 50 }
def fX1_init_L58 (a0 : Nat) (a1 : Nat) (k : AH → Option AH) : Nat → Int32 → AH → Option AH
  | 0, _, _ => none
  | n + 1, x2, h =>
    if (13 : Int32) ≤ x2 then
      k h
    else
      ob1 (gR h a0 1 2) fun b21 =>
      ob1 (sQ h b21 4 x2 (some a1)) fun g23 =>
      bnd (x2 + (1 : Int32)) fun y25 =>
      fX1_init_L58 a0 a1 k n y25 g23
def fX1_init_L79 (a0 : Nat) (k : AH → Option AH) : Nat → Int32 → AH → Option AH
  | 0, _, _ => none
  | n + 1, x2, h =>
    if (3 : Int32) ≤ x2 then
      k h
    else
      ob1 (gR h a0 1 4) fun b28 =>
      ob1 (aR h b28 3 x2) fun b30 =>
      ob1 (sI h b30 (0 : Int32) (1 : Int32)) fun g32 =>
      ob1 (gR g32 a0 1 4) fun b34 =>
      ob1 (aR g32 b34 3 x2) fun b36 =>
      ob1 (sI g32 b36 (2 : Int32) (1 : Int32)) fun g38 =>
      ob1 (gR g38 a0 1 4) fun b40 =>
      ob1 (aR g38 b40 3 x2) fun b42 =>
      ob1 (sI g38 b42 (3 : Int32) (1 : Int32)) fun g44 =>
      bnd (x2 + (1 : Int32)) fun y46 =>
      fX1_init_L79 a0 k n y46 g44
def fX1_init (a0 : Nat) (h : AH) : Option AH :=
  ob1 (pV h a0 1 0 (.int (2 : Int32))) fun g1 =>
  ob1 (pV g1 a0 1 1 (.int (0 : Int32))) fun g3 =>
  bnd g3.1 fun b5 =>
  bnd (hnew g3 (.inl (4, 13, .inr (.inr (.inr (.inr (fun _ => none))))))) fun g6 =>
  ob1 (pV g6 a0 1 2 (.ref b5)) fun g7 =>
  bnd g7.1 fun b9 =>
  bnd (hnew g7 (.inl (1, 13, .inr (.inl (fun _ => 0))))) fun g10 =>
  ob1 (pV g10 a0 1 3 (.ref b9)) fun g11 =>
  bnd g11.1 fun b13 =>
  bnd (hgrid g11 3 4) fun g14 =>
  ob1 (pV g14 a0 1 4 (.ref b13)) fun g15 =>
  bnd g15.1 fun b17 =>
  bnd (hnew g15 (.inr (3, [.int 0, .int 0, .int 0, .long 0, .long 0, .long 0, .int 0]))) fun g18 =>
  ob1 (fX3_init b17 (0 : Int32) (1 : Int32) (0 : Int32) (0 : Int64) (0 : Int64) (0 : Int64) (0 : Int32) g18) fun g19 =>
  fX1_init_L58 a0 b17 (fun (g27 : AH) =>
    fX1_init_L79 a0 (fun (g48 : AH) =>
      some g48
    ) lf (0 : Int32) g27
  ) lf (0 : Int32) g19
set_option maxHeartbeats 4000000 in
set_option maxRecDepth 100000 in
theorem wX1_init_L58 {p : Program} {l : Launch} {e : Env} {s : State} {m : MethodId} {args : Array Value} {below : List Frame} {meth : Method} {c : Code} {G : GG} {b0 : Nat} {h0 : AH} {a0 : Nat} {a1 : Nat} {hh : AH} (K : CX p s m args meth c cX1_init 3 RX1 (none) G b0) (ht : isO h0 a0 1) (k : AH → Option AH) (hk : ∀ (h : AH), k h = some hh → WA p l e rmX1_init s m args below meth c (MQ below (QG G b0 h0 none hh) args s (rmX1_init).cells (rmX1_init).slots (AB b0)) G b0 3 h0 7 48 h 77 [(0, .ref a0)] []) : ∀ (n : Nat) (x2 : Int32) (h : AH), fX1_init_L58 a0 a1 k n x2 h = some hh → WA p l e rmX1_init s m args below meth c (MQ below (QG G b0 h0 none hh) args s (rmX1_init).cells (rmX1_init).slots (AB b0)) G b0 3 h0 7 48 h 58 [(0, .ref a0), (1, .ref a1), (2, .int x2)] [] := by
  intro n
  induction n with
  | zero =>
    intro x2 h hf
    rw [fX1_init_L58] at hf
    cases hf
  | succ n ih =>
    intro x2 h hf
    rw [fX1_init_L58] at hf
    refine r_iload_n K 2 dX1_init_58 rfl ?_
    refine r_bipush (v := (13 : Int32)) K dX1_init_59 (by decide) ?_
    refine r_icmp_ge (tgt := 77) K dX1_init_61 (by decide) (fun c26 => ?_) (fun c26 => ?_)
    · replace hf := ite_t hf c26
      refine r_lv [0] rfl ?_
      exact hk h hf
    · replace hf := ite_f hf c26
      refine r_aload_n K 0 dX1_init_64 rfl ?_
      obtain ⟨b21, e22, hf⟩ := ob1_s hf
      refine r_getR (ci := 1) (k := 2) K dX1_init_65 inX1 rfl (by decide) rfl q_158 e22 ?_
      refine r_iload_n K 2 dX1_init_68 rfl ?_
      refine r_aload_n K 1 dX1_init_69 rfl ?_
      obtain ⟨g23, e24, hf⟩ := ob1_s hf
      refine r_aastore (kd := 4) (x := (some a1)) K dX1_init_70 rfl rfl e24 ?_
      obtain ⟨y25, ey25, hf⟩ := bnd_g hf
      refine r_iinc (lv1 := [(2, .int y25), (0, .ref a0), (1, .ref a1)]) K 2 dX1_init_71 rfl (by rw [ey25]; rfl) (by decide) rfl ?_
      refine r_goto (tgt := 58) K dX1_init_74 (by decide) ?_
      refine r_lv [1, 2, 0] rfl ?_
      exact ih y25 g23 hf
set_option maxHeartbeats 4000000 in
set_option maxRecDepth 100000 in
theorem wX1_init_L79 {p : Program} {l : Launch} {e : Env} {s : State} {m : MethodId} {args : Array Value} {below : List Frame} {meth : Method} {c : Code} {G : GG} {b0 : Nat} {h0 : AH} {a0 : Nat} {hh : AH} (K : CX p s m args meth c cX1_init 3 RX1 (none) G b0) (ht : isO h0 a0 1) (k : AH → Option AH) (hk : ∀ (h : AH), k h = some hh → WA p l e rmX1_init s m args below meth c (MQ below (QG G b0 h0 none hh) args s (rmX1_init).cells (rmX1_init).slots (AB b0)) G b0 3 h0 7 48 h 117 [] []) : ∀ (n : Nat) (x2 : Int32) (h : AH), fX1_init_L79 a0 k n x2 h = some hh → WA p l e rmX1_init s m args below meth c (MQ below (QG G b0 h0 none hh) args s (rmX1_init).cells (rmX1_init).slots (AB b0)) G b0 3 h0 7 48 h 79 [(0, .ref a0), (2, .int x2)] [] := by
  intro n
  induction n with
  | zero =>
    intro x2 h hf
    rw [fX1_init_L79] at hf
    cases hf
  | succ n ih =>
    intro x2 h hf
    rw [fX1_init_L79] at hf
    refine r_iload_n K 1 dX1_init_79 rfl ?_
    refine r_iconst (v := (3 : Int32)) K dX1_init_80 (by decide) ?_
    refine r_icmp_ge (tgt := 117) K dX1_init_81 (by decide) (fun c47 => ?_) (fun c47 => ?_)
    · replace hf := ite_t hf c47
      refine r_lv [] rfl ?_
      exact hk h hf
    · replace hf := ite_f hf c47
      refine r_aload_n K 0 dX1_init_84 rfl ?_
      obtain ⟨b28, e29, hf⟩ := ob1_s hf
      refine r_getR (ci := 1) (k := 4) K dX1_init_85 inX1 rfl (by decide) rfl q_164 e29 ?_
      refine r_iload_n K 1 dX1_init_88 rfl ?_
      obtain ⟨b30, e31, hf⟩ := ob1_s hf
      refine r_aaload (kd := 3) (ty := .array .int) K dX1_init_89 rfl rfl e31 ?_
      refine r_iconst (v := (0 : Int32)) K dX1_init_90 (by decide) ?_
      refine r_iconst (v := (1 : Int32)) K dX1_init_91 (by decide) ?_
      obtain ⟨g32, e33, hf⟩ := ob1_s hf
      refine r_iastore K dX1_init_92 e33 ?_
      refine r_aload_n K 0 dX1_init_93 rfl ?_
      obtain ⟨b34, e35, hf⟩ := ob1_s hf
      refine r_getR (ci := 1) (k := 4) K dX1_init_94 inX1 rfl (by decide) rfl q_164 e35 ?_
      refine r_iload_n K 1 dX1_init_97 rfl ?_
      obtain ⟨b36, e37, hf⟩ := ob1_s hf
      refine r_aaload (kd := 3) (ty := .array .int) K dX1_init_98 rfl rfl e37 ?_
      refine r_iconst (v := (2 : Int32)) K dX1_init_99 (by decide) ?_
      refine r_iconst (v := (1 : Int32)) K dX1_init_100 (by decide) ?_
      obtain ⟨g38, e39, hf⟩ := ob1_s hf
      refine r_iastore K dX1_init_101 e39 ?_
      refine r_aload_n K 0 dX1_init_102 rfl ?_
      obtain ⟨b40, e41, hf⟩ := ob1_s hf
      refine r_getR (ci := 1) (k := 4) K dX1_init_103 inX1 rfl (by decide) rfl q_164 e41 ?_
      refine r_iload_n K 1 dX1_init_106 rfl ?_
      obtain ⟨b42, e43, hf⟩ := ob1_s hf
      refine r_aaload (kd := 3) (ty := .array .int) K dX1_init_107 rfl rfl e43 ?_
      refine r_iconst (v := (3 : Int32)) K dX1_init_108 (by decide) ?_
      refine r_iconst (v := (1 : Int32)) K dX1_init_109 (by decide) ?_
      obtain ⟨g44, e45, hf⟩ := ob1_s hf
      refine r_iastore K dX1_init_110 e45 ?_
      obtain ⟨y46, ey46, hf⟩ := bnd_g hf
      refine r_iinc (lv1 := [(2, .int y46), (0, .ref a0)]) K 1 dX1_init_111 rfl (by rw [ey46]; rfl) (by decide) rfl ?_
      refine r_goto (tgt := 79) K dX1_init_114 (by decide) ?_
      refine r_lv [1, 0] rfl ?_
      exact ih y46 g44 hf
set_option maxHeartbeats 4000000 in
set_option maxRecDepth 100000 in
theorem mX1_init (l : Launch) {G : GG} {b0 : Nat} {h : AH} {a0 : Nat} {hh : AH} (ht : isO h a0 1) (hf : fX1_init a0 h = some hh) : MM l yX1_init cX1_init 3 (none) rmX1_init G b0 h [.ref a0] none hh := by
  refine MM.of (own := RX1) (lv0 := [(0, .ref a0)]) (by decide) rfl (Nat.le_of_ble_eq_true rfl) rfl ?_
  intro p e s m args below meth c K hnm
  unfold fX1_init at hf
  refine r_aload_n K 0 dX1_init_0 rfl ?_
  refine r_objInit K dX1_init_1 q_104 q_97 q_98 (Nat.le_of_ble_eq_true rfl) (Nat.le_of_ble_eq_true rfl) ?_
  refine r_aload_n K 0 dX1_init_4 rfl ?_
  refine r_iconst (v := (2 : Int32)) K dX1_init_5 (by decide) ?_
  obtain ⟨g1, e2, hf⟩ := ob1_s hf
  refine r_putV (ci := 1) (k := 0) (ty0 := tyX1) (ty := tyX1 0) K dX1_init_6 inX1 rfl (by decide) rfl q_149 tyX1_ok nmX1 rfl rfl rfl rfl e2 ?_
  refine r_aload_n K 0 dX1_init_9 rfl ?_
  refine r_iconst (v := (0 : Int32)) K dX1_init_10 (by decide) ?_
  obtain ⟨g3, e4, hf⟩ := ob1_s hf
  refine r_putV (ci := 1) (k := 1) (ty0 := tyX1) (ty := tyX1 1) K dX1_init_11 inX1 rfl (by decide) rfl q_152 tyX1_ok nmX1 rfl rfl rfl rfl e4 ?_
  refine r_aload_n K 0 dX1_init_14 rfl ?_
  refine r_bipush (v := (13 : Int32)) K dX1_init_15 (by decide) ?_
  obtain ⟨b5, eb5, hf⟩ := bnd_g hf
  obtain ⟨g6, eg6, hf⟩ := bnd_g hf
  refine r_newr4 (cells1 := 1) (slots1 := 13) K dX1_init_17 q_105 (by decide) (by decide) (by decide) eb5 eg6 rfl rfl (Nat.le_of_ble_eq_true rfl) (Nat.le_of_ble_eq_true rfl) ?_
  obtain ⟨g7, e8, hf⟩ := ob1_s hf
  refine r_putF (ci := 1) (k := 2) (ty0 := tyX1) (ty := tyX1 2) K dX1_init_20 inX1 rfl (by decide) rfl q_158 tyX1_ok nmX1 rfl hnm rfl rfl rfl rfl e8 ?_
  refine r_aload_n K 0 dX1_init_23 rfl ?_
  refine r_bipush (v := (13 : Int32)) K dX1_init_24 (by decide) ?_
  obtain ⟨b9, eb9, hf⟩ := bnd_g hf
  obtain ⟨g10, eg10, hf⟩ := bnd_g hf
  refine r_newa1 (cells1 := 2) (slots1 := 26) K dX1_init_26 q_147 (by decide) (by decide) (by decide) eb9 eg10 rfl rfl (Nat.le_of_ble_eq_true rfl) (Nat.le_of_ble_eq_true rfl) ?_
  obtain ⟨g11, e12, hf⟩ := ob1_s hf
  refine r_putF (ci := 1) (k := 3) (ty0 := tyX1) (ty := tyX1 3) K dX1_init_28 inX1 rfl (by decide) rfl q_162 tyX1_ok nmX1 rfl hnm rfl rfl rfl rfl e12 ?_
  refine r_aload_n K 0 dX1_init_31 rfl ?_
  refine r_iconst (v := (3 : Int32)) K dX1_init_32 (by decide) ?_
  refine r_iconst (v := (4 : Int32)) K dX1_init_33 (by decide) ?_
  obtain ⟨b13, eb13, hf⟩ := bnd_g hf
  obtain ⟨g14, eg14, hf⟩ := bnd_g hf
  refine r_grid (N := 3) (M := 4) (cells1 := 6) (slots1 := 41) K dX1_init_34 q_107 q_148 (by decide) (by decide) (by decide) (by decide) (by decide) eb13 eg14 rfl rfl (Nat.le_of_ble_eq_true rfl) (Nat.le_of_ble_eq_true rfl) ?_
  obtain ⟨g15, e16, hf⟩ := ob1_s hf
  refine r_putF (ci := 1) (k := 4) (ty0 := tyX1) (ty := tyX1 4) K dX1_init_38 inX1 rfl (by decide) rfl q_164 tyX1_ok nmX1 rfl hnm rfl rfl rfl rfl e16 ?_
  obtain ⟨b17, eb17, hf⟩ := bnd_g hf
  obtain ⟨g18, eg18, hf⟩ := bnd_g hf
  have ob17 : isO g18 b17 3 := isO_new eb17 eg18
  refine r_new (ci := 3) (N := 7) (ty0 := tyX3) (cells1 := 7) (slots1 := 48) K dX1_init_41 inX3 rfl tyX3_ok q_105 q_109 q_77 (fun j hj => by match j, hj with | 0, _ => rfl | 1, _ => rfl | 2, _ => rfl | 3, _ => rfl | 4, _ => rfl | 5, _ => rfl | 6, _ => rfl) eb17 eg18 rfl rfl (Nat.le_of_ble_eq_true rfl) (Nat.le_of_ble_eq_true rfl) ?_
  refine r_dup K dX1_init_44 rfl ?_
  refine r_iconst (v := (0 : Int32)) K dX1_init_45 (by decide) ?_
  refine r_iconst (v := (1 : Int32)) K dX1_init_46 (by decide) ?_
  refine r_iconst (v := (0 : Int32)) K dX1_init_47 (by decide) ?_
  refine r_lconst (v := (0 : Int64)) K dX1_init_48 (by decide) ?_
  refine r_lconst (v := (0 : Int64)) K dX1_init_49 (by decide) ?_
  refine r_lconst (v := (0 : Int64)) K dX1_init_50 (by decide) ?_
  refine r_iconst (v := (0 : Int32)) K dX1_init_51 (by decide) ?_
  obtain ⟨g19, e20, hf⟩ := ob1_s hf
  refine r_callI (As := [.int (0 : Int32), .int (1 : Int32), .int (0 : Int32), .long (0 : Int64), .long (0 : Int64), .long (0 : Int64), .int (0 : Int32)]) (rest := [.ref b17]) (st1 := [.ref b17]) (cells1 := 7) (slots1 := 48) (rt := none) (b := b17) K (mX3_init l ob17 e20) dX1_init_52 rfl ceX3_init q_110 q_111 q_77 q_112 ⟨Nat.le_of_ble_eq_true rfl, Nat.le_of_ble_eq_true rfl⟩ (Nat.le_of_ble_eq_true rfl) ⟨Nat.le_of_ble_eq_true rfl, Nat.le_of_ble_eq_true rfl⟩ ?_ rfl rfl rfl rfl
  refine r_astore_n (lv1 := [(1, .ref b17), (0, .ref a0)]) K dX1_init_55 (by decide) rfl ?_
  refine r_iconst (v := (0 : Int32)) K dX1_init_56 (by decide) ?_
  refine r_istore_n (lv1 := [(2, .int (0 : Int32)), (1, .ref b17), (0, .ref a0)]) K dX1_init_57 (by decide) rfl ?_
  refine r_lv [2, 1, 0] rfl ?_
  refine wX1_init_L58 K ht _ (fun g27 hf => ?_) lf (0 : Int32) g19 hf
  refine r_iconst (v := (0 : Int32)) K dX1_init_77 (by decide) ?_
  refine r_istore_n (lv1 := [(2, .int (0 : Int32)), (0, .ref a0)]) K dX1_init_78 (by decide) rfl ?_
  refine r_lv [1, 0] rfl ?_
  refine wX1_init_L79 K ht _ (fun g48 hf => ?_) lf (0 : Int32) g27 hf
  exact r_vret K dX1_init_117 hf (Nat.le_of_ble_eq_true rfl) (Nat.le_of_ble_eq_true rfl)
theorem ceX1_copyFrom : CE yX1_copyFrom 1 := ⟨by decide, by decide, by decide +kernel⟩
abbrev rmX1_copyFrom : Room := { frames := 1, cells := 0, slots := 0, locals := 59 }
def fX1_copyFrom_L18 (a0 : Nat) (a1 : Nat) (k : AH → Option AH) : Nat → Int32 → AH → Option AH
  | 0, _, _ => none
  | n + 1, x2, h =>
    if (13 : Int32) ≤ x2 then
      k h
    else
      ob1 (gR h a0 1 2) fun b9 =>
      ob1 (gR h a1 1 2) fun b11 =>
      ob1 (aR h b11 4 x2) fun b13 =>
      ob1 (sQ h b9 4 x2 (some b13)) fun g15 =>
      ob1 (gR g15 a0 1 3) fun b17 =>
      ob1 (gR g15 a1 1 3) fun b19 =>
      ob1 (aL g15 b19 x2) fun v21 =>
      ob1 (sL g15 b17 x2 v21) fun g23 =>
      bnd (x2 + (1 : Int32)) fun y25 =>
      fX1_copyFrom_L18 a0 a1 k n y25 g23
def fX1_copyFrom_L56 (a0 : Nat) (a1 : Nat) (k : AH → Option AH) : Nat → Int32 → AH → Option AH
  | 0, _, _ => none
  | n + 1, x2, h =>
    if (3 : Int32) ≤ x2 then
      k h
    else
      ob1 (gR h a1 1 4) fun b28 =>
      ob1 (aR h b28 3 x2) fun b30 =>
      ob1 (gR h a0 1 4) fun b32 =>
      ob1 (aR h b32 3 x2) fun b34 =>
      ob1 (cpI h b30 (0 : Int32) b34 (0 : Int32) (4 : Int32)) fun g36 =>
      bnd (x2 + (1 : Int32)) fun y38 =>
      fX1_copyFrom_L56 a0 a1 k n y38 g36
def fX1_copyFrom (a0 : Nat) (a1 : Nat) (h : AH) : Option AH :=
  ob1 (gI h a1 1 0) fun v1 =>
  ob1 (pV h a0 1 0 (.int v1)) fun g3 =>
  ob1 (gI g3 a1 1 1) fun v5 =>
  ob1 (pV g3 a0 1 1 (.int v5)) fun g7 =>
  fX1_copyFrom_L18 a0 a1 (fun (g27 : AH) =>
    fX1_copyFrom_L56 a0 a1 (fun (g40 : AH) =>
      some g40
    ) lf (0 : Int32) g27
  ) lf (0 : Int32) g7
set_option maxHeartbeats 4000000 in
set_option maxRecDepth 100000 in
theorem wX1_copyFrom_L18 {p : Program} {l : Launch} {e : Env} {s : State} {m : MethodId} {args : Array Value} {below : List Frame} {meth : Method} {c : Code} {G : GG} {b0 : Nat} {h0 : AH} {a0 : Nat} {a1 : Nat} {hh : AH} (K : CX p s m args meth c cX1_copyFrom 3 RX1 (none) G b0) (ht : isO h0 a0 1) (k : AH → Option AH) (hk : ∀ (h : AH), k h = some hh → WA p l e rmX1_copyFrom s m args below meth c (MQ below (QG G b0 h0 none hh) args s (rmX1_copyFrom).cells (rmX1_copyFrom).slots (AB b0)) G b0 3 h0 0 0 h 54 [(0, .ref a0), (1, .ref a1)] []) : ∀ (n : Nat) (x2 : Int32) (h : AH), fX1_copyFrom_L18 a0 a1 k n x2 h = some hh → WA p l e rmX1_copyFrom s m args below meth c (MQ below (QG G b0 h0 none hh) args s (rmX1_copyFrom).cells (rmX1_copyFrom).slots (AB b0)) G b0 3 h0 0 0 h 18 [(0, .ref a0), (1, .ref a1), (2, .int x2)] [] := by
  intro n
  induction n with
  | zero =>
    intro x2 h hf
    rw [fX1_copyFrom_L18] at hf
    cases hf
  | succ n ih =>
    intro x2 h hf
    rw [fX1_copyFrom_L18] at hf
    refine r_iload_n K 2 dX1_copyFrom_18 rfl ?_
    refine r_bipush (v := (13 : Int32)) K dX1_copyFrom_19 (by decide) ?_
    refine r_icmp_ge (tgt := 54) K dX1_copyFrom_21 (by decide) (fun c26 => ?_) (fun c26 => ?_)
    · replace hf := ite_t hf c26
      refine r_lv [0, 1] rfl ?_
      exact hk h hf
    · replace hf := ite_f hf c26
      refine r_aload_n K 0 dX1_copyFrom_24 rfl ?_
      obtain ⟨b9, e10, hf⟩ := ob1_s hf
      refine r_getR (ci := 1) (k := 2) K dX1_copyFrom_25 inX1 rfl (by decide) rfl q_158 e10 ?_
      refine r_iload_n K 2 dX1_copyFrom_28 rfl ?_
      refine r_aload_n K 1 dX1_copyFrom_29 rfl ?_
      obtain ⟨b11, e12, hf⟩ := ob1_s hf
      refine r_getR (ci := 1) (k := 2) K dX1_copyFrom_30 inX1 rfl (by decide) rfl q_158 e12 ?_
      refine r_iload_n K 2 dX1_copyFrom_33 rfl ?_
      obtain ⟨b13, e14, hf⟩ := ob1_s hf
      refine r_aaload (kd := 4) (ty := .object RX3) K dX1_copyFrom_34 rfl rfl e14 ?_
      obtain ⟨g15, e16, hf⟩ := ob1_s hf
      refine r_aastore (kd := 4) (x := (some b13)) K dX1_copyFrom_35 rfl rfl e16 ?_
      refine r_aload_n K 0 dX1_copyFrom_36 rfl ?_
      obtain ⟨b17, e18, hf⟩ := ob1_s hf
      refine r_getR (ci := 1) (k := 3) K dX1_copyFrom_37 inX1 rfl (by decide) rfl q_162 e18 ?_
      refine r_iload_n K 2 dX1_copyFrom_40 rfl ?_
      refine r_aload_n K 1 dX1_copyFrom_41 rfl ?_
      obtain ⟨b19, e20, hf⟩ := ob1_s hf
      refine r_getR (ci := 1) (k := 3) K dX1_copyFrom_42 inX1 rfl (by decide) rfl q_162 e20 ?_
      refine r_iload_n K 2 dX1_copyFrom_45 rfl ?_
      obtain ⟨v21, e22, hf⟩ := ob1_s hf
      refine r_laload K dX1_copyFrom_46 e22 ?_
      obtain ⟨g23, e24, hf⟩ := ob1_s hf
      refine r_lastore K dX1_copyFrom_47 e24 ?_
      obtain ⟨y25, ey25, hf⟩ := bnd_g hf
      refine r_iinc (lv1 := [(2, .int y25), (0, .ref a0), (1, .ref a1)]) K 2 dX1_copyFrom_48 rfl (by rw [ey25]; rfl) (by decide) rfl ?_
      refine r_goto (tgt := 18) K dX1_copyFrom_51 (by decide) ?_
      refine r_lv [1, 2, 0] rfl ?_
      exact ih y25 g23 hf
set_option maxHeartbeats 4000000 in
set_option maxRecDepth 100000 in
theorem wX1_copyFrom_L56 {p : Program} {l : Launch} {e : Env} {s : State} {m : MethodId} {args : Array Value} {below : List Frame} {meth : Method} {c : Code} {G : GG} {b0 : Nat} {h0 : AH} {a0 : Nat} {a1 : Nat} {hh : AH} (K : CX p s m args meth c cX1_copyFrom 3 RX1 (none) G b0) (ht : isO h0 a0 1) (k : AH → Option AH) (hk : ∀ (h : AH), k h = some hh → WA p l e rmX1_copyFrom s m args below meth c (MQ below (QG G b0 h0 none hh) args s (rmX1_copyFrom).cells (rmX1_copyFrom).slots (AB b0)) G b0 3 h0 0 0 h 85 [] []) : ∀ (n : Nat) (x2 : Int32) (h : AH), fX1_copyFrom_L56 a0 a1 k n x2 h = some hh → WA p l e rmX1_copyFrom s m args below meth c (MQ below (QG G b0 h0 none hh) args s (rmX1_copyFrom).cells (rmX1_copyFrom).slots (AB b0)) G b0 3 h0 0 0 h 56 [(0, .ref a0), (1, .ref a1), (2, .int x2)] [] := by
  intro n
  induction n with
  | zero =>
    intro x2 h hf
    rw [fX1_copyFrom_L56] at hf
    cases hf
  | succ n ih =>
    intro x2 h hf
    rw [fX1_copyFrom_L56] at hf
    refine r_iload_n K 2 dX1_copyFrom_56 rfl ?_
    refine r_iconst (v := (3 : Int32)) K dX1_copyFrom_57 (by decide) ?_
    refine r_icmp_ge (tgt := 85) K dX1_copyFrom_58 (by decide) (fun c39 => ?_) (fun c39 => ?_)
    · replace hf := ite_t hf c39
      refine r_lv [] rfl ?_
      exact hk h hf
    · replace hf := ite_f hf c39
      refine r_aload_n K 1 dX1_copyFrom_61 rfl ?_
      obtain ⟨b28, e29, hf⟩ := ob1_s hf
      refine r_getR (ci := 1) (k := 4) K dX1_copyFrom_62 inX1 rfl (by decide) rfl q_164 e29 ?_
      refine r_iload_n K 2 dX1_copyFrom_65 rfl ?_
      obtain ⟨b30, e31, hf⟩ := ob1_s hf
      refine r_aaload (kd := 3) (ty := .array .int) K dX1_copyFrom_66 rfl rfl e31 ?_
      refine r_iconst (v := (0 : Int32)) K dX1_copyFrom_67 (by decide) ?_
      refine r_aload_n K 0 dX1_copyFrom_68 rfl ?_
      obtain ⟨b32, e33, hf⟩ := ob1_s hf
      refine r_getR (ci := 1) (k := 4) K dX1_copyFrom_69 inX1 rfl (by decide) rfl q_164 e33 ?_
      refine r_iload_n K 2 dX1_copyFrom_72 rfl ?_
      obtain ⟨b34, e35, hf⟩ := ob1_s hf
      refine r_aaload (kd := 3) (ty := .array .int) K dX1_copyFrom_73 rfl rfl e35 ?_
      refine r_iconst (v := (0 : Int32)) K dX1_copyFrom_74 (by decide) ?_
      refine r_iconst (v := (4 : Int32)) K dX1_copyFrom_75 (by decide) ?_
      obtain ⟨g36, e37, hf⟩ := ob1_s hf
      refine r_copyI K dX1_copyFrom_76 q_515 q_517 q_516 q_86 e37 (Nat.le_of_ble_eq_true rfl) (Nat.le_of_ble_eq_true rfl) ?_
      obtain ⟨y38, ey38, hf⟩ := bnd_g hf
      refine r_iinc (lv1 := [(2, .int y38), (0, .ref a0), (1, .ref a1)]) K 2 dX1_copyFrom_79 rfl (by rw [ey38]; rfl) (by decide) rfl ?_
      refine r_goto (tgt := 56) K dX1_copyFrom_82 (by decide) ?_
      refine r_lv [1, 2, 0] rfl ?_
      exact ih y38 g36 hf
set_option maxHeartbeats 4000000 in
set_option maxRecDepth 100000 in
theorem mX1_copyFrom (l : Launch) {G : GG} {b0 : Nat} {h : AH} {a0 : Nat} {a1 : Nat} {hh : AH} (ht : isO h a0 1) (hf : fX1_copyFrom a0 a1 h = some hh) : MM l yX1_copyFrom cX1_copyFrom 3 (none) rmX1_copyFrom G b0 h [.ref a0, .ref a1] none hh := by
  refine MM.of (own := RX1) (lv0 := [(0, .ref a0), (1, .ref a1)]) (by decide) rfl (Nat.le_of_ble_eq_true rfl) rfl ?_
  intro p e s m args below meth c K hnm
  unfold fX1_copyFrom at hf
  refine r_aload_n K 0 dX1_copyFrom_0 rfl ?_
  refine r_aload_n K 1 dX1_copyFrom_1 rfl ?_
  obtain ⟨v1, e2, hf⟩ := ob1_s hf
  refine r_getI (ci := 1) (k := 0) K dX1_copyFrom_2 inX1 rfl (by decide) rfl q_149 e2 ?_
  obtain ⟨g3, e4, hf⟩ := ob1_s hf
  refine r_putV (ci := 1) (k := 0) (ty0 := tyX1) (ty := tyX1 0) K dX1_copyFrom_5 inX1 rfl (by decide) rfl q_149 tyX1_ok nmX1 rfl rfl rfl rfl e4 ?_
  refine r_aload_n K 0 dX1_copyFrom_8 rfl ?_
  refine r_aload_n K 1 dX1_copyFrom_9 rfl ?_
  obtain ⟨v5, e6, hf⟩ := ob1_s hf
  refine r_getI (ci := 1) (k := 1) K dX1_copyFrom_10 inX1 rfl (by decide) rfl q_152 e6 ?_
  obtain ⟨g7, e8, hf⟩ := ob1_s hf
  refine r_putV (ci := 1) (k := 1) (ty0 := tyX1) (ty := tyX1 1) K dX1_copyFrom_13 inX1 rfl (by decide) rfl q_152 tyX1_ok nmX1 rfl rfl rfl rfl e8 ?_
  refine r_iconst (v := (0 : Int32)) K dX1_copyFrom_16 (by decide) ?_
  refine r_istore_n (lv1 := [(2, .int (0 : Int32)), (0, .ref a0), (1, .ref a1)]) K dX1_copyFrom_17 (by decide) rfl ?_
  refine r_lv [1, 2, 0] rfl ?_
  refine wX1_copyFrom_L18 K ht _ (fun g27 hf => ?_) lf (0 : Int32) g7 hf
  refine r_iconst (v := (0 : Int32)) K dX1_copyFrom_54 (by decide) ?_
  refine r_istore_n (lv1 := [(2, .int (0 : Int32)), (0, .ref a0), (1, .ref a1)]) K dX1_copyFrom_55 (by decide) rfl ?_
  refine r_lv [1, 2, 0] rfl ?_
  refine wX1_copyFrom_L56 K ht _ (fun g40 hf => ?_) lf (0 : Int32) g27 hf
  exact r_vret K dX1_copyFrom_85 hf (Nat.le_of_ble_eq_true rfl) (Nat.le_of_ble_eq_true rfl)
theorem ceX9_isOneOf : CE yX9_isOneOf 2 := ⟨by decide, by decide, by decide +kernel⟩
abbrev rmX9_isOneOf : Room := { frames := 0, cells := 0, slots := 0, locals := 0 }
def fX9_isOneOf (x0 : Int32) (x1 : Int32) : Option Int32 :=
  if x0 < (0 : Int32) then
    some (0 : Int32)
  else
    if x1 ≤ x0 then
      some (0 : Int32)
    else
      some (1 : Int32)
set_option maxHeartbeats 4000000 in
set_option maxRecDepth 100000 in
theorem mX9_isOneOf (l : Launch) {G : GG} {b0 : Nat} {h : AH} {x0 : Int32} {x1 : Int32} {rr : Int32} (hf : fX9_isOneOf x0 x1 = some rr) : MM l yX9_isOneOf cX9_isOneOf 2 (some .boolean) rmX9_isOneOf G b0 h [.int x0, .int x1] (some (.int rr)) h := by
  refine MM.of (own := RX9) (lv0 := [(0, .int x0), (1, .int x1)]) (by decide) rfl (Nat.le_of_ble_eq_true rfl) rfl ?_
  intro p e s m args below meth c K hnm
  unfold fX9_isOneOf at hf
  refine r_iload_n K 0 dX9_isOneOf_0 rfl ?_
  refine r_if_lt (tgt := 13) K dX9_isOneOf_1 (by decide) (fun c2 => ?_) (fun c2 => ?_)
  · replace hf := ite_t hf c2
    refine r_iconst (v := (0 : Int32)) K dX9_isOneOf_13 (by decide) ?_
    exact r_zret K dX9_isOneOf_14 rfl (retp hf) (Nat.le_of_ble_eq_true rfl) (Nat.le_of_ble_eq_true rfl)
  · replace hf := ite_f hf c2
    refine r_iload_n K 0 dX9_isOneOf_4 rfl ?_
    refine r_iload_n K 1 dX9_isOneOf_5 rfl ?_
    refine r_icmp_ge (tgt := 13) K dX9_isOneOf_6 (by decide) (fun c1 => ?_) (fun c1 => ?_)
    · replace hf := ite_t hf c1
      refine r_iconst (v := (0 : Int32)) K dX9_isOneOf_13 (by decide) ?_
      exact r_zret K dX9_isOneOf_14 rfl (retp hf) (Nat.le_of_ble_eq_true rfl) (Nat.le_of_ble_eq_true rfl)
    · replace hf := ite_f hf c1
      refine r_iconst (v := (1 : Int32)) K dX9_isOneOf_9 (by decide) ?_
      refine r_goto (tgt := 14) K dX9_isOneOf_10 (by decide) ?_
      exact r_zret K dX9_isOneOf_14 rfl (retp hf) (Nat.le_of_ble_eq_true rfl) (Nat.le_of_ble_eq_true rfl)
theorem ceX1_hasRoad : CE yX1_hasRoad 1 := ⟨by decide, by decide, by decide +kernel⟩
abbrev rmX1_hasRoad : Room := { frames := 1, cells := 0, slots := 0, locals := 21 }
def fX1_hasRoad (a0 : Nat) (x1 : Int32) (h : AH) : Option Int32 :=
  ob1 (gI h a0 1 1) fun v1 =>
  ob1 (fX9_isOneOf x1 v1) fun r3 =>
  gd (zb r3) <|
  some r3
set_option maxHeartbeats 4000000 in
set_option maxRecDepth 100000 in
theorem mX1_hasRoad (l : Launch) {G : GG} {b0 : Nat} {h : AH} {a0 : Nat} {x1 : Int32} {rr : Int32} (ht : isO h a0 1) (hf : fX1_hasRoad a0 x1 h = some rr) : MM l yX1_hasRoad cX1_hasRoad 2 (some .boolean) rmX1_hasRoad G b0 h [.ref a0, .int x1] (some (.int rr)) h := by
  refine MM.of (own := RX1) (lv0 := [(0, .ref a0), (1, .int x1)]) (by decide) rfl (Nat.le_of_ble_eq_true rfl) rfl ?_
  intro p e s m args below meth c K hnm
  unfold fX1_hasRoad at hf
  refine r_iload_n K 1 dX1_hasRoad_0 rfl ?_
  refine r_aload_n K 0 dX1_hasRoad_1 rfl ?_
  obtain ⟨v1, e2, hf⟩ := ob1_s hf
  refine r_getI (ci := 1) (k := 1) K dX1_hasRoad_2 inX1 rfl (by decide) rfl q_152 e2 ?_
  obtain ⟨r3, e4, hf⟩ := ob1_s hf
  refine r_callSN (As := [.int x1, .int v1]) (rest := []) (st1 := [.int r3]) (cells1 := 0) (slots1 := 0) K (mX9_isOneOf l e4) dX1_hasRoad_5 ceX9_isOneOf nw_8 q_426 q_75 q_427 ⟨Nat.le_of_ble_eq_true rfl, Nat.le_of_ble_eq_true rfl⟩ (Nat.le_of_ble_eq_true rfl) ⟨Nat.le_of_ble_eq_true rfl, Nat.le_of_ble_eq_true rfl⟩ ?_ rfl rfl rfl rfl
  obtain ⟨z5, hf⟩ := gd_s hf
  exact r_zret K dX1_hasRoad_8 (zb_n z5) (retp hf) (Nat.le_of_ble_eq_true rfl) (Nat.le_of_ble_eq_true rfl)
theorem ceX1_joins : CE yX1_joins 2 := ⟨by decide, by decide, by decide +kernel⟩
abbrev rmX1_joins : Room := { frames := 1, cells := 0, slots := 0, locals := 21 }
def fX1_joins (a0 : Nat) (x1 : Int32) (x2 : Int32) (h : AH) : Option Int32 :=
  ob1 (gI h a0 1 0) fun v1 =>
  ob1 (fX9_isOneOf x1 v1) fun r3 =>
  if r3 = (0 : Int32) then
    some (0 : Int32)
  else
    ob1 (gI h a0 1 0) fun v5 =>
    ob1 (fX9_isOneOf x2 v5) fun r7 =>
    if r7 = (0 : Int32) then
      some (0 : Int32)
    else
      if x1 = x2 then
        some (0 : Int32)
      else
        some (1 : Int32)
set_option maxHeartbeats 4000000 in
set_option maxRecDepth 100000 in
theorem mX1_joins (l : Launch) {G : GG} {b0 : Nat} {h : AH} {a0 : Nat} {x1 : Int32} {x2 : Int32} {rr : Int32} (ht : isO h a0 1) (hf : fX1_joins a0 x1 x2 h = some rr) : MM l yX1_joins cX1_joins 3 (some .boolean) rmX1_joins G b0 h [.ref a0, .int x1, .int x2] (some (.int rr)) h := by
  refine MM.of (own := RX1) (lv0 := [(0, .ref a0), (1, .int x1), (2, .int x2)]) (by decide) rfl (Nat.le_of_ble_eq_true rfl) rfl ?_
  intro p e s m args below meth c K hnm
  unfold fX1_joins at hf
  refine r_iload_n K 1 dX1_joins_0 rfl ?_
  refine r_aload_n K 0 dX1_joins_1 rfl ?_
  obtain ⟨v1, e2, hf⟩ := ob1_s hf
  refine r_getI (ci := 1) (k := 0) K dX1_joins_2 inX1 rfl (by decide) rfl q_149 e2 ?_
  obtain ⟨r3, e4, hf⟩ := ob1_s hf
  refine r_callSN (As := [.int x1, .int v1]) (rest := []) (st1 := [.int r3]) (cells1 := 0) (slots1 := 0) K (mX9_isOneOf l e4) dX1_joins_5 ceX9_isOneOf nw_8 q_426 q_75 q_427 ⟨Nat.le_of_ble_eq_true rfl, Nat.le_of_ble_eq_true rfl⟩ (Nat.le_of_ble_eq_true rfl) ⟨Nat.le_of_ble_eq_true rfl, Nat.le_of_ble_eq_true rfl⟩ ?_ rfl rfl rfl rfl
  refine r_if_eq (tgt := 31) K dX1_joins_8 (by decide) (fun c11 => ?_) (fun c11 => ?_)
  · replace hf := ite_t hf c11
    refine r_iconst (v := (0 : Int32)) K dX1_joins_31 (by decide) ?_
    exact r_zret K dX1_joins_32 rfl (retp hf) (Nat.le_of_ble_eq_true rfl) (Nat.le_of_ble_eq_true rfl)
  · replace hf := ite_f hf c11
    refine r_iload_n K 2 dX1_joins_11 rfl ?_
    refine r_aload_n K 0 dX1_joins_12 rfl ?_
    obtain ⟨v5, e6, hf⟩ := ob1_s hf
    refine r_getI (ci := 1) (k := 0) K dX1_joins_13 inX1 rfl (by decide) rfl q_149 e6 ?_
    obtain ⟨r7, e8, hf⟩ := ob1_s hf
    refine r_callSN (As := [.int x2, .int v5]) (rest := []) (st1 := [.int r7]) (cells1 := 0) (slots1 := 0) K (mX9_isOneOf l e8) dX1_joins_16 ceX9_isOneOf nw_8 q_426 q_75 q_427 ⟨Nat.le_of_ble_eq_true rfl, Nat.le_of_ble_eq_true rfl⟩ (Nat.le_of_ble_eq_true rfl) ⟨Nat.le_of_ble_eq_true rfl, Nat.le_of_ble_eq_true rfl⟩ ?_ rfl rfl rfl rfl
    refine r_if_eq (tgt := 31) K dX1_joins_19 (by decide) (fun c10 => ?_) (fun c10 => ?_)
    · replace hf := ite_t hf c10
      refine r_iconst (v := (0 : Int32)) K dX1_joins_31 (by decide) ?_
      exact r_zret K dX1_joins_32 rfl (retp hf) (Nat.le_of_ble_eq_true rfl) (Nat.le_of_ble_eq_true rfl)
    · replace hf := ite_f hf c10
      refine r_iload_n K 1 dX1_joins_22 rfl ?_
      refine r_iload_n K 2 dX1_joins_23 rfl ?_
      refine r_icmp_eq (tgt := 31) K dX1_joins_24 (by decide) (fun c9 => ?_) (fun c9 => ?_)
      · replace hf := ite_t hf c9
        refine r_iconst (v := (0 : Int32)) K dX1_joins_31 (by decide) ?_
        exact r_zret K dX1_joins_32 rfl (retp hf) (Nat.le_of_ble_eq_true rfl) (Nat.le_of_ble_eq_true rfl)
      · replace hf := ite_f hf c9
        refine r_iconst (v := (1 : Int32)) K dX1_joins_27 (by decide) ?_
        refine r_goto (tgt := 32) K dX1_joins_28 (by decide) ?_
        exact r_zret K dX1_joins_32 rfl (retp hf) (Nat.le_of_ble_eq_true rfl) (Nat.le_of_ble_eq_true rfl)
theorem ceX1_append : CE yX1_append 1 := ⟨by decide, by decide, by decide +kernel⟩
abbrev rmX1_append : Room := { frames := 0, cells := 0, slots := 0, locals := 0 }
def fX1_append (a0 : Nat) (a1 : Nat) (h : AH) : Option AH :=
  ob1 (gI h a0 1 1) fun v1 =>
  if (13 : Int32) ≤ v1 then
    some h
  else
    ob1 (gR h a0 1 2) fun b3 =>
    ob1 (gI h a0 1 1) fun v5 =>
    ob1 (sQ h b3 4 v5 (some a1)) fun g7 =>
    ob1 (gR g7 a0 1 3) fun b9 =>
    ob1 (gI g7 a0 1 1) fun v11 =>
    ob1 (sL g7 b9 v11 (0 : Int64)) fun g13 =>
    ob1 (gI g13 a0 1 1) fun v15 =>
    ob1 (pV g13 a0 1 1 (.int (v15 + (1 : Int32)))) fun g17 =>
    some g17
set_option maxHeartbeats 4000000 in
set_option maxRecDepth 100000 in
theorem mX1_append (l : Launch) {G : GG} {b0 : Nat} {h : AH} {a0 : Nat} {a1 : Nat} {hh : AH} (ht : isO h a0 1) (hf : fX1_append a0 a1 h = some hh) : MM l yX1_append cX1_append 2 (none) rmX1_append G b0 h [.ref a0, .ref a1] none hh := by
  refine MM.of (own := RX1) (lv0 := [(0, .ref a0), (1, .ref a1)]) (by decide) rfl (Nat.le_of_ble_eq_true rfl) rfl ?_
  intro p e s m args below meth c K hnm
  unfold fX1_append at hf
  refine r_aload_n K 0 dX1_append_0 rfl ?_
  obtain ⟨v1, e2, hf⟩ := ob1_s hf
  refine r_getI (ci := 1) (k := 1) K dX1_append_1 inX1 rfl (by decide) rfl q_152 e2 ?_
  refine r_bipush (v := (13 : Int32)) K dX1_append_4 (by decide) ?_
  refine r_icmp_ge (tgt := 39) K dX1_append_6 (by decide) (fun c19 => ?_) (fun c19 => ?_)
  · replace hf := ite_t hf c19
    exact r_vret K dX1_append_39 hf (Nat.le_of_ble_eq_true rfl) (Nat.le_of_ble_eq_true rfl)
  · replace hf := ite_f hf c19
    refine r_aload_n K 0 dX1_append_9 rfl ?_
    obtain ⟨b3, e4, hf⟩ := ob1_s hf
    refine r_getR (ci := 1) (k := 2) K dX1_append_10 inX1 rfl (by decide) rfl q_158 e4 ?_
    refine r_aload_n K 0 dX1_append_13 rfl ?_
    obtain ⟨v5, e6, hf⟩ := ob1_s hf
    refine r_getI (ci := 1) (k := 1) K dX1_append_14 inX1 rfl (by decide) rfl q_152 e6 ?_
    refine r_aload_n K 1 dX1_append_17 rfl ?_
    obtain ⟨g7, e8, hf⟩ := ob1_s hf
    refine r_aastore (kd := 4) (x := (some a1)) K dX1_append_18 rfl rfl e8 ?_
    refine r_aload_n K 0 dX1_append_19 rfl ?_
    obtain ⟨b9, e10, hf⟩ := ob1_s hf
    refine r_getR (ci := 1) (k := 3) K dX1_append_20 inX1 rfl (by decide) rfl q_162 e10 ?_
    refine r_aload_n K 0 dX1_append_23 rfl ?_
    obtain ⟨v11, e12, hf⟩ := ob1_s hf
    refine r_getI (ci := 1) (k := 1) K dX1_append_24 inX1 rfl (by decide) rfl q_152 e12 ?_
    refine r_lconst (v := (0 : Int64)) K dX1_append_27 (by decide) ?_
    obtain ⟨g13, e14, hf⟩ := ob1_s hf
    refine r_lastore K dX1_append_28 e14 ?_
    refine r_aload_n K 0 dX1_append_29 rfl ?_
    refine r_dup K dX1_append_30 rfl ?_
    obtain ⟨v15, e16, hf⟩ := ob1_s hf
    refine r_getI (ci := 1) (k := 1) K dX1_append_31 inX1 rfl (by decide) rfl q_152 e16 ?_
    refine r_iconst (v := (1 : Int32)) K dX1_append_34 (by decide) ?_
    refine r_iadd K dX1_append_35 ?_
    obtain ⟨g17, e18, hf⟩ := ob1_s hf
    refine r_putV (ci := 1) (k := 1) (ty0 := tyX1) (ty := tyX1 1) K dX1_append_36 inX1 rfl (by decide) rfl q_152 tyX1_ok nmX1 rfl rfl rfl rfl e18 ?_
    exact r_vret K dX1_append_39 hf (Nat.le_of_ble_eq_true rfl) (Nat.le_of_ble_eq_true rfl)
theorem ceX1_drop : CE yX1_drop 1 := ⟨by decide, by decide, by decide +kernel⟩
abbrev rmX1_drop : Room := { frames := 0, cells := 0, slots := 0, locals := 0 }
def fX1_drop_L2 (a0 : Nat) (k : AH → Option AH) : Nat → Int32 → AH → Option AH
  | 0, _, _ => none
  | n + 1, x2, h =>
    ob1 (gI h a0 1 1) fun v1 =>
    if v1 ≤ (x2 + (1 : Int32)) then
      k h
    else
      ob1 (gR h a0 1 2) fun b3 =>
      ob1 (gR h a0 1 2) fun b5 =>
      ob1 (aR h b5 4 (x2 + (1 : Int32))) fun b7 =>
      ob1 (sQ h b3 4 x2 (some b7)) fun g9 =>
      ob1 (gR g9 a0 1 3) fun b11 =>
      ob1 (gR g9 a0 1 3) fun b13 =>
      ob1 (aL g9 b13 (x2 + (1 : Int32))) fun v15 =>
      ob1 (sL g9 b11 x2 v15) fun g17 =>
      bnd (x2 + (1 : Int32)) fun y19 =>
      fX1_drop_L2 a0 k n y19 g17
def fX1_drop (a0 : Nat) (x1 : Int32) (h : AH) : Option AH :=
  fX1_drop_L2 a0 (fun (g21 : AH) =>
    ob1 (gI g21 a0 1 1) fun v22 =>
    ob1 (pV g21 a0 1 1 (.int (v22 - (1 : Int32)))) fun g24 =>
    some g24
  ) lf x1 h
set_option maxHeartbeats 4000000 in
set_option maxRecDepth 100000 in
theorem wX1_drop_L2 {p : Program} {l : Launch} {e : Env} {s : State} {m : MethodId} {args : Array Value} {below : List Frame} {meth : Method} {c : Code} {G : GG} {b0 : Nat} {h0 : AH} {a0 : Nat} {hh : AH} (K : CX p s m args meth c cX1_drop 3 RX1 (none) G b0) (ht : isO h0 a0 1) (k : AH → Option AH) (hk : ∀ (h : AH), k h = some hh → WA p l e rmX1_drop s m args below meth c (MQ below (QG G b0 h0 none hh) args s (rmX1_drop).cells (rmX1_drop).slots (AB b0)) G b0 3 h0 0 0 h 46 [(0, .ref a0)] []) : ∀ (n : Nat) (x2 : Int32) (h : AH), fX1_drop_L2 a0 k n x2 h = some hh → WA p l e rmX1_drop s m args below meth c (MQ below (QG G b0 h0 none hh) args s (rmX1_drop).cells (rmX1_drop).slots (AB b0)) G b0 3 h0 0 0 h 2 [(0, .ref a0), (2, .int x2)] [] := by
  intro n
  induction n with
  | zero =>
    intro x2 h hf
    rw [fX1_drop_L2] at hf
    cases hf
  | succ n ih =>
    intro x2 h hf
    rw [fX1_drop_L2] at hf
    refine r_iload_n K 1 dX1_drop_2 rfl ?_
    refine r_iconst (v := (1 : Int32)) K dX1_drop_3 (by decide) ?_
    refine r_iadd K dX1_drop_4 ?_
    refine r_aload_n K 0 dX1_drop_5 rfl ?_
    obtain ⟨v1, e2, hf⟩ := ob1_s hf
    refine r_getI (ci := 1) (k := 1) K dX1_drop_6 inX1 rfl (by decide) rfl q_152 e2 ?_
    refine r_icmp_ge (tgt := 46) K dX1_drop_9 (by decide) (fun c20 => ?_) (fun c20 => ?_)
    · replace hf := ite_t hf c20
      refine r_lv [0] rfl ?_
      exact hk h hf
    · replace hf := ite_f hf c20
      refine r_aload_n K 0 dX1_drop_12 rfl ?_
      obtain ⟨b3, e4, hf⟩ := ob1_s hf
      refine r_getR (ci := 1) (k := 2) K dX1_drop_13 inX1 rfl (by decide) rfl q_158 e4 ?_
      refine r_iload_n K 1 dX1_drop_16 rfl ?_
      refine r_aload_n K 0 dX1_drop_17 rfl ?_
      obtain ⟨b5, e6, hf⟩ := ob1_s hf
      refine r_getR (ci := 1) (k := 2) K dX1_drop_18 inX1 rfl (by decide) rfl q_158 e6 ?_
      refine r_iload_n K 1 dX1_drop_21 rfl ?_
      refine r_iconst (v := (1 : Int32)) K dX1_drop_22 (by decide) ?_
      refine r_iadd K dX1_drop_23 ?_
      obtain ⟨b7, e8, hf⟩ := ob1_s hf
      refine r_aaload (kd := 4) (ty := .object RX3) K dX1_drop_24 rfl rfl e8 ?_
      obtain ⟨g9, e10, hf⟩ := ob1_s hf
      refine r_aastore (kd := 4) (x := (some b7)) K dX1_drop_25 rfl rfl e10 ?_
      refine r_aload_n K 0 dX1_drop_26 rfl ?_
      obtain ⟨b11, e12, hf⟩ := ob1_s hf
      refine r_getR (ci := 1) (k := 3) K dX1_drop_27 inX1 rfl (by decide) rfl q_162 e12 ?_
      refine r_iload_n K 1 dX1_drop_30 rfl ?_
      refine r_aload_n K 0 dX1_drop_31 rfl ?_
      obtain ⟨b13, e14, hf⟩ := ob1_s hf
      refine r_getR (ci := 1) (k := 3) K dX1_drop_32 inX1 rfl (by decide) rfl q_162 e14 ?_
      refine r_iload_n K 1 dX1_drop_35 rfl ?_
      refine r_iconst (v := (1 : Int32)) K dX1_drop_36 (by decide) ?_
      refine r_iadd K dX1_drop_37 ?_
      obtain ⟨v15, e16, hf⟩ := ob1_s hf
      refine r_laload K dX1_drop_38 e16 ?_
      obtain ⟨g17, e18, hf⟩ := ob1_s hf
      refine r_lastore K dX1_drop_39 e18 ?_
      obtain ⟨y19, ey19, hf⟩ := bnd_g hf
      refine r_iinc (lv1 := [(2, .int y19), (0, .ref a0)]) K 1 dX1_drop_40 rfl (by rw [ey19]; rfl) (by decide) rfl ?_
      refine r_goto (tgt := 2) K dX1_drop_43 (by decide) ?_
      refine r_lv [1, 0] rfl ?_
      exact ih y19 g17 hf
set_option maxHeartbeats 4000000 in
set_option maxRecDepth 100000 in
theorem mX1_drop (l : Launch) {G : GG} {b0 : Nat} {h : AH} {a0 : Nat} {x1 : Int32} {hh : AH} (ht : isO h a0 1) (hf : fX1_drop a0 x1 h = some hh) : MM l yX1_drop cX1_drop 3 (none) rmX1_drop G b0 h [.ref a0, .int x1] none hh := by
  refine MM.of (own := RX1) (lv0 := [(0, .ref a0), (1, .int x1)]) (by decide) rfl (Nat.le_of_ble_eq_true rfl) rfl ?_
  intro p e s m args below meth c K hnm
  unfold fX1_drop at hf
  refine r_iload_n K 1 dX1_drop_0 rfl ?_
  refine r_istore_n (lv1 := [(2, .int x1), (0, .ref a0), (1, .int x1)]) K dX1_drop_1 (by decide) rfl ?_
  refine r_lv [1, 0] rfl ?_
  refine wX1_drop_L2 K ht _ (fun g21 hf => ?_) lf x1 h hf
  refine r_aload_n K 0 dX1_drop_46 rfl ?_
  refine r_dup K dX1_drop_47 rfl ?_
  obtain ⟨v22, e23, hf⟩ := ob1_s hf
  refine r_getI (ci := 1) (k := 1) K dX1_drop_48 inX1 rfl (by decide) rfl q_152 e23 ?_
  refine r_iconst (v := (1 : Int32)) K dX1_drop_51 (by decide) ?_
  refine r_isub K dX1_drop_52 ?_
  obtain ⟨g24, e25, hf⟩ := ob1_s hf
  refine r_putV (ci := 1) (k := 1) (ty0 := tyX1) (ty := tyX1 1) K dX1_drop_53 inX1 rfl (by decide) rfl q_152 tyX1_ok nmX1 rfl rfl rfl rfl e25 ?_
  exact r_vret K dX1_drop_56 hf (Nat.le_of_ble_eq_true rfl) (Nat.le_of_ble_eq_true rfl)
theorem ceX1_countDrivers : CE yX1_countDrivers 0 := ⟨by decide, by decide, by decide +kernel⟩
abbrev rmX1_countDrivers : Room := { frames := 0, cells := 0, slots := 0, locals := 0 }
def fX1_countDrivers_L4 (a0 : Nat) (h : AH) (k : Int32 → Option Int32) : Nat → Int32 → Int32 → Option Int32
  | 0, _, _ => none
  | n + 1, x1, x2 =>
    if (3 : Int32) ≤ x2 then
      k x1
    else
      ob1 (gR h a0 1 4) fun b1 =>
      ob1 (aR h b1 3 x2) fun b3 =>
      ob1 (aI h b3 0 (1 : Int32)) fun v5 =>
      bnd (x1 + v5) fun y7 =>
      bnd (x2 + (1 : Int32)) fun y8 =>
      fX1_countDrivers_L4 a0 h k n y7 y8
def fX1_countDrivers (a0 : Nat) (h : AH) : Option Int32 :=
  fX1_countDrivers_L4 a0 h (fun (y10 : Int32) =>
    some y10
  ) lf (0 : Int32) (0 : Int32)
set_option maxHeartbeats 4000000 in
set_option maxRecDepth 100000 in
theorem wX1_countDrivers_L4 {p : Program} {l : Launch} {e : Env} {s : State} {m : MethodId} {args : Array Value} {below : List Frame} {meth : Method} {c : Code} {G : GG} {b0 : Nat} {h0 : AH} {a0 : Nat} {h : AH} {rr : Int32} (K : CX p s m args meth c cX1_countDrivers 3 RX1 (some .int) G b0) (ht : isO h0 a0 1) (k : Int32 → Option Int32) (hk : ∀ (x1 : Int32), k x1 = some rr → WA p l e rmX1_countDrivers s m args below meth c (MQ below (QG G b0 h0 (some (.int rr)) h) args s (rmX1_countDrivers).cells (rmX1_countDrivers).slots (AB b0)) G b0 3 h0 0 0 h 26 [(1, .int x1)] []) : ∀ (n : Nat) (x1 : Int32) (x2 : Int32), fX1_countDrivers_L4 a0 h k n x1 x2 = some rr → WA p l e rmX1_countDrivers s m args below meth c (MQ below (QG G b0 h0 (some (.int rr)) h) args s (rmX1_countDrivers).cells (rmX1_countDrivers).slots (AB b0)) G b0 3 h0 0 0 h 4 [(0, .ref a0), (1, .int x1), (2, .int x2)] [] := by
  intro n
  induction n with
  | zero =>
    intro x1 x2 hf
    rw [fX1_countDrivers_L4] at hf
    cases hf
  | succ n ih =>
    intro x1 x2 hf
    rw [fX1_countDrivers_L4] at hf
    refine r_iload_n K 2 dX1_countDrivers_4 rfl ?_
    refine r_iconst (v := (3 : Int32)) K dX1_countDrivers_5 (by decide) ?_
    refine r_icmp_ge (tgt := 26) K dX1_countDrivers_6 (by decide) (fun c9 => ?_) (fun c9 => ?_)
    · replace hf := ite_t hf c9
      refine r_lv [1] rfl ?_
      exact hk x1 hf
    · replace hf := ite_f hf c9
      refine r_iload_n K 1 dX1_countDrivers_9 rfl ?_
      refine r_aload_n K 0 dX1_countDrivers_10 rfl ?_
      obtain ⟨b1, e2, hf⟩ := ob1_s hf
      refine r_getR (ci := 1) (k := 4) K dX1_countDrivers_11 inX1 rfl (by decide) rfl q_164 e2 ?_
      refine r_iload_n K 2 dX1_countDrivers_14 rfl ?_
      obtain ⟨b3, e4, hf⟩ := ob1_s hf
      refine r_aaload (kd := 3) (ty := .array .int) K dX1_countDrivers_15 rfl rfl e4 ?_
      refine r_iconst (v := (1 : Int32)) K dX1_countDrivers_16 (by decide) ?_
      obtain ⟨v5, e6, hf⟩ := ob1_s hf
      refine r_iaload K dX1_countDrivers_17 e6 ?_
      refine r_iadd K dX1_countDrivers_18 ?_
      obtain ⟨y7, ey7, hf⟩ := bnd_g hf
      refine r_nmi ey7 ?_
      refine r_istore_n (lv1 := [(1, .int y7), (0, .ref a0), (2, .int x2)]) K dX1_countDrivers_19 (by decide) rfl ?_
      obtain ⟨y8, ey8, hf⟩ := bnd_g hf
      refine r_iinc (lv1 := [(2, .int y8), (1, .int y7), (0, .ref a0)]) K 2 dX1_countDrivers_20 rfl (by rw [ey8]; rfl) (by decide) rfl ?_
      refine r_goto (tgt := 4) K dX1_countDrivers_23 (by decide) ?_
      refine r_lv [2, 1, 0] rfl ?_
      exact ih y7 y8 hf
set_option maxHeartbeats 4000000 in
set_option maxRecDepth 100000 in
theorem mX1_countDrivers (l : Launch) {G : GG} {b0 : Nat} {h : AH} {a0 : Nat} {rr : Int32} (ht : isO h a0 1) (hf : fX1_countDrivers a0 h = some rr) : MM l yX1_countDrivers cX1_countDrivers 3 (some .int) rmX1_countDrivers G b0 h [.ref a0] (some (.int rr)) h := by
  refine MM.of (own := RX1) (lv0 := [(0, .ref a0)]) (by decide) rfl (Nat.le_of_ble_eq_true rfl) rfl ?_
  intro p e s m args below meth c K hnm
  unfold fX1_countDrivers at hf
  refine r_iconst (v := (0 : Int32)) K dX1_countDrivers_0 (by decide) ?_
  refine r_istore_n (lv1 := [(1, .int (0 : Int32)), (0, .ref a0)]) K dX1_countDrivers_1 (by decide) rfl ?_
  refine r_iconst (v := (0 : Int32)) K dX1_countDrivers_2 (by decide) ?_
  refine r_istore_n (lv1 := [(2, .int (0 : Int32)), (1, .int (0 : Int32)), (0, .ref a0)]) K dX1_countDrivers_3 (by decide) rfl ?_
  refine r_lv [2, 1, 0] rfl ?_
  refine wX1_countDrivers_L4 K ht _ (fun y10 hf => ?_) lf (0 : Int32) (0 : Int32) hf
  refine r_iload_n K 0 dX1_countDrivers_26 rfl ?_
  exact r_iret K dX1_countDrivers_27 (retp hf) (Nat.le_of_ble_eq_true rfl) (Nat.le_of_ble_eq_true rfl)
theorem ceX1_driversTo : CE yX1_driversTo 1 := ⟨by decide, by decide, by decide +kernel⟩
abbrev rmX1_driversTo : Room := { frames := 0, cells := 0, slots := 0, locals := 0 }
def fX1_driversTo_L4 (a0 : Nat) (x1 : Int32) (h : AH) (k : Int32 → Option Int32) : Nat → Int32 → Int32 → Option Int32
  | 0, _, _ => none
  | n + 1, x2, x3 =>
    if (3 : Int32) ≤ x3 then
      k x2
    else
      ob1 (gR h a0 1 4) fun b1 =>
      ob1 (aR h b1 3 x3) fun b3 =>
      ob1 (aI h b3 0 (0 : Int32)) fun v5 =>
      if v5 = x1 then
        ob1 (gR h a0 1 4) fun b9 =>
        ob1 (aR h b9 3 x3) fun b11 =>
        ob1 (aI h b11 0 (1 : Int32)) fun v13 =>
        bnd (x2 + v13) fun y15 =>
        bnd (x3 + (1 : Int32)) fun y16 =>
        fX1_driversTo_L4 a0 x1 h k n y15 y16
      else
        bnd (x2 + (0 : Int32)) fun y7 =>
        bnd (x3 + (1 : Int32)) fun y8 =>
        fX1_driversTo_L4 a0 x1 h k n y7 y8
def fX1_driversTo (a0 : Nat) (x1 : Int32) (h : AH) : Option Int32 :=
  fX1_driversTo_L4 a0 x1 h (fun (y19 : Int32) =>
    some y19
  ) lf (0 : Int32) (0 : Int32)
set_option maxHeartbeats 4000000 in
set_option maxRecDepth 100000 in
theorem wX1_driversTo_L4 {p : Program} {l : Launch} {e : Env} {s : State} {m : MethodId} {args : Array Value} {below : List Frame} {meth : Method} {c : Code} {G : GG} {b0 : Nat} {h0 : AH} {a0 : Nat} {x1 : Int32} {h : AH} {rr : Int32} (K : CX p s m args meth c cX1_driversTo 4 RX1 (some .int) G b0) (ht : isO h0 a0 1) (k : Int32 → Option Int32) (hk : ∀ (x2 : Int32), k x2 = some rr → WA p l e rmX1_driversTo s m args below meth c (MQ below (QG G b0 h0 (some (.int rr)) h) args s (rmX1_driversTo).cells (rmX1_driversTo).slots (AB b0)) G b0 4 h0 0 0 h 42 [(2, .int x2)] []) : ∀ (n : Nat) (x2 : Int32) (x3 : Int32), fX1_driversTo_L4 a0 x1 h k n x2 x3 = some rr → WA p l e rmX1_driversTo s m args below meth c (MQ below (QG G b0 h0 (some (.int rr)) h) args s (rmX1_driversTo).cells (rmX1_driversTo).slots (AB b0)) G b0 4 h0 0 0 h 4 [(0, .ref a0), (1, .int x1), (2, .int x2), (3, .int x3)] [] := by
  intro n
  induction n with
  | zero =>
    intro x2 x3 hf
    rw [fX1_driversTo_L4] at hf
    cases hf
  | succ n ih =>
    intro x2 x3 hf
    rw [fX1_driversTo_L4] at hf
    refine r_iload_n K 3 dX1_driversTo_4 rfl ?_
    refine r_iconst (v := (3 : Int32)) K dX1_driversTo_5 (by decide) ?_
    refine r_icmp_ge (tgt := 42) K dX1_driversTo_6 (by decide) (fun c18 => ?_) (fun c18 => ?_)
    · replace hf := ite_t hf c18
      refine r_lv [2] rfl ?_
      exact hk x2 hf
    · replace hf := ite_f hf c18
      refine r_iload_n K 2 dX1_driversTo_9 rfl ?_
      refine r_aload_n K 0 dX1_driversTo_10 rfl ?_
      obtain ⟨b1, e2, hf⟩ := ob1_s hf
      refine r_getR (ci := 1) (k := 4) K dX1_driversTo_11 inX1 rfl (by decide) rfl q_164 e2 ?_
      refine r_iload_n K 3 dX1_driversTo_14 rfl ?_
      obtain ⟨b3, e4, hf⟩ := ob1_s hf
      refine r_aaload (kd := 3) (ty := .array .int) K dX1_driversTo_15 rfl rfl e4 ?_
      refine r_iconst (v := (0 : Int32)) K dX1_driversTo_16 (by decide) ?_
      obtain ⟨v5, e6, hf⟩ := ob1_s hf
      refine r_iaload K dX1_driversTo_17 e6 ?_
      refine r_iload_n K 1 dX1_driversTo_18 rfl ?_
      refine r_icmp_ne (tgt := 33) K dX1_driversTo_19 (by decide) (fun c17 => ?_) (fun c17 => ?_)
      · replace hf := ite_f hf c17
        refine r_iconst (v := (0 : Int32)) K dX1_driversTo_33 (by decide) ?_
        refine r_iadd K dX1_driversTo_34 ?_
        obtain ⟨y7, ey7, hf⟩ := bnd_g hf
        refine r_nmi ey7 ?_
        refine r_istore_n (lv1 := [(2, .int y7), (0, .ref a0), (1, .int x1), (3, .int x3)]) K dX1_driversTo_35 (by decide) rfl ?_
        obtain ⟨y8, ey8, hf⟩ := bnd_g hf
        refine r_iinc (lv1 := [(3, .int y8), (2, .int y7), (0, .ref a0), (1, .int x1)]) K 3 dX1_driversTo_36 rfl (by rw [ey8]; rfl) (by decide) rfl ?_
        refine r_goto (tgt := 4) K dX1_driversTo_39 (by decide) ?_
        refine r_lv [2, 3, 1, 0] rfl ?_
        exact ih y7 y8 hf
      · replace hf := ite_t hf c17
        refine r_aload_n K 0 dX1_driversTo_22 rfl ?_
        obtain ⟨b9, e10, hf⟩ := ob1_s hf
        refine r_getR (ci := 1) (k := 4) K dX1_driversTo_23 inX1 rfl (by decide) rfl q_164 e10 ?_
        refine r_iload_n K 3 dX1_driversTo_26 rfl ?_
        obtain ⟨b11, e12, hf⟩ := ob1_s hf
        refine r_aaload (kd := 3) (ty := .array .int) K dX1_driversTo_27 rfl rfl e12 ?_
        refine r_iconst (v := (1 : Int32)) K dX1_driversTo_28 (by decide) ?_
        obtain ⟨v13, e14, hf⟩ := ob1_s hf
        refine r_iaload K dX1_driversTo_29 e14 ?_
        refine r_goto (tgt := 34) K dX1_driversTo_30 (by decide) ?_
        refine r_iadd K dX1_driversTo_34 ?_
        obtain ⟨y15, ey15, hf⟩ := bnd_g hf
        refine r_nmi ey15 ?_
        refine r_istore_n (lv1 := [(2, .int y15), (0, .ref a0), (1, .int x1), (3, .int x3)]) K dX1_driversTo_35 (by decide) rfl ?_
        obtain ⟨y16, ey16, hf⟩ := bnd_g hf
        refine r_iinc (lv1 := [(3, .int y16), (2, .int y15), (0, .ref a0), (1, .int x1)]) K 3 dX1_driversTo_36 rfl (by rw [ey16]; rfl) (by decide) rfl ?_
        refine r_goto (tgt := 4) K dX1_driversTo_39 (by decide) ?_
        refine r_lv [2, 3, 1, 0] rfl ?_
        exact ih y15 y16 hf
set_option maxHeartbeats 4000000 in
set_option maxRecDepth 100000 in
theorem mX1_driversTo (l : Launch) {G : GG} {b0 : Nat} {h : AH} {a0 : Nat} {x1 : Int32} {rr : Int32} (ht : isO h a0 1) (hf : fX1_driversTo a0 x1 h = some rr) : MM l yX1_driversTo cX1_driversTo 4 (some .int) rmX1_driversTo G b0 h [.ref a0, .int x1] (some (.int rr)) h := by
  refine MM.of (own := RX1) (lv0 := [(0, .ref a0), (1, .int x1)]) (by decide) rfl (Nat.le_of_ble_eq_true rfl) rfl ?_
  intro p e s m args below meth c K hnm
  unfold fX1_driversTo at hf
  refine r_iconst (v := (0 : Int32)) K dX1_driversTo_0 (by decide) ?_
  refine r_istore_n (lv1 := [(2, .int (0 : Int32)), (0, .ref a0), (1, .int x1)]) K dX1_driversTo_1 (by decide) rfl ?_
  refine r_iconst (v := (0 : Int32)) K dX1_driversTo_2 (by decide) ?_
  refine r_istore_n (lv1 := [(3, .int (0 : Int32)), (2, .int (0 : Int32)), (0, .ref a0), (1, .int x1)]) K dX1_driversTo_3 (by decide) rfl ?_
  refine r_lv [2, 3, 1, 0] rfl ?_
  refine wX1_driversTo_L4 K ht _ (fun y19 hf => ?_) lf (0 : Int32) (0 : Int32) hf
  refine r_iload_n K 0 dX1_driversTo_42 rfl ?_
  exact r_iret K dX1_driversTo_43 (retp hf) (Nat.le_of_ble_eq_true rfl) (Nat.le_of_ble_eq_true rfl)
theorem ceX1_sumOfTolls : CE yX1_sumOfTolls 0 := ⟨by decide, by decide, by decide +kernel⟩
abbrev rmX1_sumOfTolls : Room := { frames := 0, cells := 0, slots := 0, locals := 0 }
def fX1_sumOfTolls_L4 (a0 : Nat) (h : AH) (k : Int64 → Option Int64) : Nat → Int64 → Int32 → Option Int64
  | 0, _, _ => none
  | n + 1, x1, x3 =>
    ob1 (gI h a0 1 1) fun v1 =>
    if v1 ≤ x3 then
      k x1
    else
      ob1 (gR h a0 1 3) fun b3 =>
      ob1 (aL h b3 x3) fun v5 =>
      bnd (x1 + v5) fun y7 =>
      bnd (x3 + (1 : Int32)) fun y8 =>
      fX1_sumOfTolls_L4 a0 h k n y7 y8
def fX1_sumOfTolls (a0 : Nat) (h : AH) : Option Int64 :=
  fX1_sumOfTolls_L4 a0 h (fun (y10 : Int64) =>
    some y10
  ) lf (0 : Int64) (0 : Int32)
set_option maxHeartbeats 4000000 in
set_option maxRecDepth 100000 in
theorem wX1_sumOfTolls_L4 {p : Program} {l : Launch} {e : Env} {s : State} {m : MethodId} {args : Array Value} {below : List Frame} {meth : Method} {c : Code} {G : GG} {b0 : Nat} {h0 : AH} {a0 : Nat} {h : AH} {rr : Int64} (K : CX p s m args meth c cX1_sumOfTolls 4 RX1 (some .long) G b0) (ht : isO h0 a0 1) (k : Int64 → Option Int64) (hk : ∀ (x1 : Int64), k x1 = some rr → WA p l e rmX1_sumOfTolls s m args below meth c (MQ below (QG G b0 h0 (some (.long rr)) h) args s (rmX1_sumOfTolls).cells (rmX1_sumOfTolls).slots (AB b0)) G b0 4 h0 0 0 h 27 [(1, .long x1)] []) : ∀ (n : Nat) (x1 : Int64) (x3 : Int32), fX1_sumOfTolls_L4 a0 h k n x1 x3 = some rr → WA p l e rmX1_sumOfTolls s m args below meth c (MQ below (QG G b0 h0 (some (.long rr)) h) args s (rmX1_sumOfTolls).cells (rmX1_sumOfTolls).slots (AB b0)) G b0 4 h0 0 0 h 4 [(0, .ref a0), (1, .long x1), (3, .int x3)] [] := by
  intro n
  induction n with
  | zero =>
    intro x1 x3 hf
    rw [fX1_sumOfTolls_L4] at hf
    cases hf
  | succ n ih =>
    intro x1 x3 hf
    rw [fX1_sumOfTolls_L4] at hf
    refine r_iload_n K 2 dX1_sumOfTolls_4 rfl ?_
    refine r_aload_n K 0 dX1_sumOfTolls_5 rfl ?_
    obtain ⟨v1, e2, hf⟩ := ob1_s hf
    refine r_getI (ci := 1) (k := 1) K dX1_sumOfTolls_6 inX1 rfl (by decide) rfl q_152 e2 ?_
    refine r_icmp_ge (tgt := 27) K dX1_sumOfTolls_9 (by decide) (fun c9 => ?_) (fun c9 => ?_)
    · replace hf := ite_t hf c9
      refine r_lv [1] rfl ?_
      exact hk x1 hf
    · replace hf := ite_f hf c9
      refine r_lload_n K 1 dX1_sumOfTolls_12 rfl ?_
      refine r_aload_n K 0 dX1_sumOfTolls_13 rfl ?_
      obtain ⟨b3, e4, hf⟩ := ob1_s hf
      refine r_getR (ci := 1) (k := 3) K dX1_sumOfTolls_14 inX1 rfl (by decide) rfl q_162 e4 ?_
      refine r_iload_n K 2 dX1_sumOfTolls_17 rfl ?_
      obtain ⟨v5, e6, hf⟩ := ob1_s hf
      refine r_laload K dX1_sumOfTolls_18 e6 ?_
      refine r_ladd K dX1_sumOfTolls_19 ?_
      obtain ⟨y7, ey7, hf⟩ := bnd_g hf
      refine r_nml ey7 ?_
      refine r_lstore_n (lv1 := [(1, .long y7), (0, .ref a0), (3, .int x3)]) K dX1_sumOfTolls_20 (by decide) rfl ?_
      obtain ⟨y8, ey8, hf⟩ := bnd_g hf
      refine r_iinc (lv1 := [(3, .int y8), (1, .long y7), (0, .ref a0)]) K 2 dX1_sumOfTolls_21 rfl (by rw [ey8]; rfl) (by decide) rfl ?_
      refine r_goto (tgt := 4) K dX1_sumOfTolls_24 (by decide) ?_
      refine r_lv [2, 1, 0] rfl ?_
      exact ih y7 y8 hf
set_option maxHeartbeats 4000000 in
set_option maxRecDepth 100000 in
theorem mX1_sumOfTolls (l : Launch) {G : GG} {b0 : Nat} {h : AH} {a0 : Nat} {rr : Int64} (ht : isO h a0 1) (hf : fX1_sumOfTolls a0 h = some rr) : MM l yX1_sumOfTolls cX1_sumOfTolls 4 (some .long) rmX1_sumOfTolls G b0 h [.ref a0] (some (.long rr)) h := by
  refine MM.of (own := RX1) (lv0 := [(0, .ref a0)]) (by decide) rfl (Nat.le_of_ble_eq_true rfl) rfl ?_
  intro p e s m args below meth c K hnm
  unfold fX1_sumOfTolls at hf
  refine r_lconst (v := (0 : Int64)) K dX1_sumOfTolls_0 (by decide) ?_
  refine r_lstore_n (lv1 := [(1, .long (0 : Int64)), (0, .ref a0)]) K dX1_sumOfTolls_1 (by decide) rfl ?_
  refine r_iconst (v := (0 : Int32)) K dX1_sumOfTolls_2 (by decide) ?_
  refine r_istore_n (lv1 := [(3, .int (0 : Int32)), (1, .long (0 : Int64)), (0, .ref a0)]) K dX1_sumOfTolls_3 (by decide) rfl ?_
  refine r_lv [2, 1, 0] rfl ?_
  refine wX1_sumOfTolls_L4 K ht _ (fun y10 hf => ?_) lf (0 : Int64) (0 : Int32) hf
  refine r_lload_n K 0 dX1_sumOfTolls_27 rfl ?_
  exact r_lret K dX1_sumOfTolls_28 (retp hf) (Nat.le_of_ble_eq_true rfl) (Nat.le_of_ble_eq_true rfl)
