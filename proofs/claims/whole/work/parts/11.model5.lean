theorem ceX10_areDue : CE yX10_areDue 2 := ⟨by decide, by decide, by decide +kernel⟩
abbrev rmX10_areDue : Room := { frames := 1, cells := 0, slots := 0, locals := 22 }
def fX10_areDue_L8 (a0 : Nat) (x1 : Int32) (x2 : Int32) (h : AH) (k : Int64 → Int64 → Option Int32) : Nat → Int64 → Int64 → Int32 → Option Int32
  | 0, _, _, _ => none
  | n + 1, x3, x5, x7 =>
    ob1 (fX10_roadMany a0 h) fun r1 =>
    if r1 ≤ x7 then
      k x3 x5
    else
      ob1 (gR h a0 10 26) fun b3 =>
      ob1 (aL h b3 (x2 + x7)) fun v5 =>
      ob1 (fX10_ofRoad a0 x7 (1 : Int32) h) fun r7 =>
      bnd (fun (v10 : Int64) =>
        bnd (x3 + (v10 * (v5 >>> (Int32.toInt64 (32 : Int32) &&& 63)))) fun y11 =>
        bnd (x5 + (v10 * (v5 &&& (4294967295 : Int64)))) fun y12 =>
        bnd (x7 + (1 : Int32)) fun y13 =>
        fX10_areDue_L8 a0 x1 x2 h k n y11 y12 y13
      ) fun j9 =>
      if r7 = (Int32.toInt64 x1) then
        j9 (1 : Int64)
      else
        ob1 (fX10_ofRoad a0 x7 (0 : Int32) h) fun r14 =>
        if r14 = (Int32.toInt64 x1) then
          j9 (-1 : Int64)
        else
          j9 (0 : Int64)
def fX10_areDue_L101 (a0 : Nat) (x1 : Int32) (x3 : Int64) (h : AH) (k : Int64 → Option Int32) : Nat → Int64 → Int32 → Option Int32
  | 0, _, _ => none
  | n + 1, x5, x7 =>
    if (3 : Int32) ≤ x7 then
      k x5
    else
      ob1 (fX10_ofClass a0 x7 (0 : Int32) h) fun r21 =>
      if r21 = (Int32.toInt64 x1) then
        ob1 (fX10_ofClass a0 x7 (1 : Int32) h) fun r25 =>
        bnd (x5 - r25) fun y27 =>
        bnd (x7 + (1 : Int32)) fun y28 =>
        fX10_areDue_L101 a0 x1 x3 h k n y27 y28
      else
        bnd (x5 - (0 : Int64)) fun y23 =>
        bnd (x7 + (1 : Int32)) fun y24 =>
        fX10_areDue_L101 a0 x1 x3 h k n y23 y24
def fX10_areDue (a0 : Nat) (x1 : Int32) (x2 : Int32) (h : AH) : Option Int32 :=
  fX10_areDue_L8 a0 x1 x2 h (fun (y19 : Int64) (y20 : Int64) =>
    fX10_areDue_L101 a0 x1 y19 h (fun (y31 : Int64) =>
      if (y31 - y31 / (4294967296 : Int64) * (4294967296 : Int64)) = (0 : Int64) then
        if y19 = (-(y31 / (4294967296 : Int64))) then
          some (1 : Int32)
        else
          some (0 : Int32)
      else
        some (0 : Int32)
    ) lf y20 (0 : Int32)
  ) lf (0 : Int64) (0 : Int64) (0 : Int32)
set_option maxHeartbeats 4000000 in
set_option maxRecDepth 100000 in
theorem wX10_areDue_L8 {p : Program} {l : Launch} {e : Env} {s : State} {m : MethodId} {args : Array Value} {below : List Frame} {meth : Method} {c : Code} {G : GG} {b0 : Nat} {h0 : AH} {a0 : Nat} {x1 : Int32} {x2 : Int32} {h : AH} {rr : Int32} (K : CX p s m args meth c cX10_areDue 12 RX10 (some .boolean) G b0) (ht : isO h0 a0 10) (k : Int64 → Int64 → Option Int32) (hk : ∀ (x3 : Int64) (x5 : Int64), k x3 x5 = some rr → WA p l e rmX10_areDue s m args below meth c (MQ below (QG G b0 h0 (some (.int rr)) h) args s (rmX10_areDue).cells (rmX10_areDue).slots (AB b0)) G b0 12 h0 0 0 h 98 [(0, .ref a0), (1, .int x1), (3, .long x3), (5, .long x5)] []) : ∀ (n : Nat) (x3 : Int64) (x5 : Int64) (x7 : Int32), fX10_areDue_L8 a0 x1 x2 h k n x3 x5 x7 = some rr → WA p l e rmX10_areDue s m args below meth c (MQ below (QG G b0 h0 (some (.int rr)) h) args s (rmX10_areDue).cells (rmX10_areDue).slots (AB b0)) G b0 12 h0 0 0 h 8 [(0, .ref a0), (1, .int x1), (2, .int x2), (3, .long x3), (5, .long x5), (7, .int x7)] [] := by
  intro n
  induction n with
  | zero =>
    intro x3 x5 x7 hf
    rw [fX10_areDue_L8] at hf
    cases hf
  | succ n ih =>
    intro x3 x5 x7 hf
    rw [fX10_areDue_L8] at hf
    refine r_iload K 5 dX10_areDue_8 rfl ?_
    refine r_aload_n K 0 dX10_areDue_10 rfl ?_
    obtain ⟨r1, e2, hf⟩ := ob1_s hf
    refine r_callV (As := []) (rest := [.int x7]) (st1 := [.int r1, .int x7]) (cells1 := 0) (slots1 := 0) (b := a0) (ci := 10) K (fun z => mX10_roadMany l z e2) dX10_areDue_11 rfl (fun z => z _ _ ht) rfl ceX10_roadMany q_1028 q_1030 q_33 q_85 q_1031 ⟨Nat.le_of_ble_eq_true rfl, Nat.le_of_ble_eq_true rfl⟩ (Nat.le_of_ble_eq_true rfl) ⟨Nat.le_of_ble_eq_true rfl, Nat.le_of_ble_eq_true rfl⟩ ?_ rfl rfl rfl rfl
    refine r_icmp_ge (tgt := 98) K dX10_areDue_14 (by decide) (fun c18 => ?_) (fun c18 => ?_)
    · replace hf := ite_t hf c18
      refine r_lv [0, 1, 3, 4] rfl ?_
      exact hk x3 x5 hf
    · replace hf := ite_f hf c18
      refine r_aload_n K 0 dX10_areDue_17 rfl ?_
      obtain ⟨b3, e4, hf⟩ := ob1_s hf
      refine r_getR (ci := 10) (k := 26) K dX10_areDue_18 inX10 rfl (by decide) rfl q_932 e4 ?_
      refine r_iload_n K 2 dX10_areDue_21 rfl ?_
      refine r_iload K 5 dX10_areDue_22 rfl ?_
      refine r_iadd K dX10_areDue_24 ?_
      obtain ⟨v5, e6, hf⟩ := ob1_s hf
      refine r_laload K dX10_areDue_25 e6 ?_
      refine r_lstore (lv1 := [(8, .long v5), (0, .ref a0), (1, .int x1), (2, .int x2), (3, .long x3), (5, .long x5), (7, .int x7)]) K dX10_areDue_26 (by decide) rfl ?_
      refine r_aload_n K 1 dX10_areDue_28 rfl ?_
      refine r_iload K 6 dX10_areDue_29 rfl ?_
      refine r_iconst (v := (1 : Int32)) K dX10_areDue_31 (by decide) ?_
      obtain ⟨r7, e8, hf⟩ := ob1_s hf
      refine r_callV (As := [.int x7, .int (1 : Int32)]) (rest := []) (st1 := [.long r7]) (cells1 := 0) (slots1 := 0) (b := a0) (ci := 10) K (fun z => mX10_ofRoad l z e8) dX10_areDue_32 rfl (fun z => z _ _ ht) rfl ceX10_ofRoad q_1051 q_1053 q_36 q_85 q_1054 ⟨Nat.le_of_ble_eq_true rfl, Nat.le_of_ble_eq_true rfl⟩ (Nat.le_of_ble_eq_true rfl) ⟨Nat.le_of_ble_eq_true rfl, Nat.le_of_ble_eq_true rfl⟩ ?_ rfl rfl rfl rfl
      refine r_iload_n K 2 dX10_areDue_35 rfl ?_
      refine r_i2l K dX10_areDue_36 ?_
      obtain ⟨j9, ej9, hf⟩ := bnd_g hf
      have Jj9 : ∀ (v10 : Int64), j9 v10 = some rr → WA p l e rmX10_areDue s m args below meth c (MQ below (QG G b0 h0 (some (.int rr)) h) args s (rmX10_areDue).cells (rmX10_areDue).slots (AB b0)) G b0 12 h0 0 0 h 65 [(0, .ref a0), (1, .int x1), (2, .int x2), (3, .long x3), (5, .long x5), (7, .int x7), (8, .long v5)] [.long v10] := by
        intro v10 hf
        rw [ej9] at hf
        refine r_lstore (lv1 := [(10, .long v10), (0, .ref a0), (1, .int x1), (2, .int x2), (3, .long x3), (5, .long x5), (7, .int x7), (8, .long v5)]) K dX10_areDue_65 (by decide) rfl ?_
        refine r_lload_n K 4 dX10_areDue_67 rfl ?_
        refine r_lload K 0 dX10_areDue_68 rfl ?_
        refine r_lload K 7 dX10_areDue_70 rfl ?_
        refine r_bipush (v := (32 : Int32)) K dX10_areDue_72 (by decide) ?_
        refine r_lshr K dX10_areDue_74 ?_
        refine r_lmul K dX10_areDue_75 ?_
        refine r_ladd K dX10_areDue_76 ?_
        obtain ⟨y11, ey11, hf⟩ := bnd_g hf
        refine r_nml ey11 ?_
        refine r_lstore_n (lv1 := [(3, .long y11), (10, .long v10), (0, .ref a0), (1, .int x1), (2, .int x2), (5, .long x5), (7, .int x7), (8, .long v5)]) K dX10_areDue_77 (by decide) rfl ?_
        refine r_lload K 5 dX10_areDue_78 rfl ?_
        refine r_lload K 1 dX10_areDue_80 rfl ?_
        refine r_lload K 7 dX10_areDue_82 rfl ?_
        refine r_ldc2 K dX10_areDue_84 q_1374 ?_
        refine r_land K dX10_areDue_87 ?_
        refine r_lmul K dX10_areDue_88 ?_
        refine r_ladd K dX10_areDue_89 ?_
        obtain ⟨y12, ey12, hf⟩ := bnd_g hf
        refine r_nml ey12 ?_
        refine r_lstore (lv1 := [(5, .long y12), (3, .long y11), (10, .long v10), (0, .ref a0), (1, .int x1), (2, .int x2), (7, .int x7), (8, .long v5)]) K dX10_areDue_90 (by decide) rfl ?_
        obtain ⟨y13, ey13, hf⟩ := bnd_g hf
        refine r_iinc (lv1 := [(7, .int y13), (5, .long y12), (3, .long y11), (10, .long v10), (0, .ref a0), (1, .int x1), (2, .int x2), (8, .long v5)]) K 6 dX10_areDue_92 rfl (by rw [ey13]; rfl) (by decide) rfl ?_
        refine r_goto (tgt := 8) K dX10_areDue_95 (by decide) ?_
        refine r_lv [4, 5, 6, 2, 1, 0] rfl ?_
        exact ih y11 y12 y13 hf
      refine r_lif_ne (tgt := 45) K dX10_areDue_37 dX10_areDue_38 (by decide) (fun c17 => ?_) (fun c17 => ?_)
      · replace hf := ite_f hf c17
        refine r_aload_n K 1 dX10_areDue_45 rfl ?_
        refine r_iload K 6 dX10_areDue_46 rfl ?_
        refine r_iconst (v := (0 : Int32)) K dX10_areDue_48 (by decide) ?_
        obtain ⟨r14, e15, hf⟩ := ob1_s hf
        refine r_callV (As := [.int x7, .int (0 : Int32)]) (rest := []) (st1 := [.long r14]) (cells1 := 0) (slots1 := 0) (b := a0) (ci := 10) K (fun z => mX10_ofRoad l z e15) dX10_areDue_49 rfl (fun z => z _ _ ht) rfl ceX10_ofRoad q_1051 q_1053 q_36 q_85 q_1054 ⟨Nat.le_of_ble_eq_true rfl, Nat.le_of_ble_eq_true rfl⟩ (Nat.le_of_ble_eq_true rfl) ⟨Nat.le_of_ble_eq_true rfl, Nat.le_of_ble_eq_true rfl⟩ ?_ rfl rfl rfl rfl
        refine r_iload_n K 2 dX10_areDue_52 rfl ?_
        refine r_i2l K dX10_areDue_53 ?_
        refine r_lif_ne (tgt := 64) K dX10_areDue_54 dX10_areDue_55 (by decide) (fun c16 => ?_) (fun c16 => ?_)
        · replace hf := ite_f hf c16
          refine r_lconst (v := (0 : Int64)) K dX10_areDue_64 (by decide) ?_
          refine r_lv [1, 2, 3, 4, 5, 6, 0] rfl ?_
          exact Jj9 (0 : Int64) hf
        · replace hf := ite_t hf c16
          refine r_ldc2 K dX10_areDue_58 q_1048 ?_
          refine r_goto (tgt := 65) K dX10_areDue_61 (by decide) ?_
          refine r_lv [1, 2, 3, 4, 5, 6, 0] rfl ?_
          exact Jj9 (-1 : Int64) hf
      · replace hf := ite_t hf c17
        refine r_lconst (v := (1 : Int64)) K dX10_areDue_41 (by decide) ?_
        refine r_goto (tgt := 65) K dX10_areDue_42 (by decide) ?_
        refine r_lv [1, 2, 3, 4, 5, 6, 0] rfl ?_
        exact Jj9 (1 : Int64) hf
set_option maxHeartbeats 4000000 in
set_option maxRecDepth 100000 in
theorem wX10_areDue_L101 {p : Program} {l : Launch} {e : Env} {s : State} {m : MethodId} {args : Array Value} {below : List Frame} {meth : Method} {c : Code} {G : GG} {b0 : Nat} {h0 : AH} {a0 : Nat} {x1 : Int32} {x3 : Int64} {h : AH} {rr : Int32} (K : CX p s m args meth c cX10_areDue 12 RX10 (some .boolean) G b0) (ht : isO h0 a0 10) (k : Int64 → Option Int32) (hk : ∀ (x5 : Int64), k x5 = some rr → WA p l e rmX10_areDue s m args below meth c (MQ below (QG G b0 h0 (some (.int rr)) h) args s (rmX10_areDue).cells (rmX10_areDue).slots (AB b0)) G b0 12 h0 0 0 h 142 [(3, .long x3), (5, .long x5)] []) : ∀ (n : Nat) (x5 : Int64) (x7 : Int32), fX10_areDue_L101 a0 x1 x3 h k n x5 x7 = some rr → WA p l e rmX10_areDue s m args below meth c (MQ below (QG G b0 h0 (some (.int rr)) h) args s (rmX10_areDue).cells (rmX10_areDue).slots (AB b0)) G b0 12 h0 0 0 h 101 [(0, .ref a0), (1, .int x1), (3, .long x3), (5, .long x5), (7, .int x7)] [] := by
  intro n
  induction n with
  | zero =>
    intro x5 x7 hf
    rw [fX10_areDue_L101] at hf
    cases hf
  | succ n ih =>
    intro x5 x7 hf
    rw [fX10_areDue_L101] at hf
    refine r_iload K 4 dX10_areDue_101 rfl ?_
    refine r_iconst (v := (3 : Int32)) K dX10_areDue_103 (by decide) ?_
    refine r_icmp_ge (tgt := 142) K dX10_areDue_104 (by decide) (fun c30 => ?_) (fun c30 => ?_)
    · replace hf := ite_t hf c30
      refine r_lv [2, 3] rfl ?_
      exact hk x5 hf
    · replace hf := ite_f hf c30
      refine r_lload K 3 dX10_areDue_107 rfl ?_
      refine r_aload_n K 0 dX10_areDue_109 rfl ?_
      refine r_iload K 4 dX10_areDue_110 rfl ?_
      refine r_iconst (v := (0 : Int32)) K dX10_areDue_112 (by decide) ?_
      obtain ⟨r21, e22, hf⟩ := ob1_s hf
      refine r_callV (As := [.int x7, .int (0 : Int32)]) (rest := [.long x5]) (st1 := [.long r21, .long x5]) (cells1 := 0) (slots1 := 0) (b := a0) (ci := 10) K (fun z => mX10_ofClass l z e22) dX10_areDue_113 rfl (fun z => z _ _ ht) rfl ceX10_ofClass q_1086 q_1088 q_39 q_85 q_1089 ⟨Nat.le_of_ble_eq_true rfl, Nat.le_of_ble_eq_true rfl⟩ (Nat.le_of_ble_eq_true rfl) ⟨Nat.le_of_ble_eq_true rfl, Nat.le_of_ble_eq_true rfl⟩ ?_ rfl rfl rfl rfl
      refine r_iload_n K 1 dX10_areDue_116 rfl ?_
      refine r_i2l K dX10_areDue_117 ?_
      refine r_lif_ne (tgt := 132) K dX10_areDue_118 dX10_areDue_119 (by decide) (fun c29 => ?_) (fun c29 => ?_)
      · replace hf := ite_f hf c29
        refine r_lconst (v := (0 : Int64)) K dX10_areDue_132 (by decide) ?_
        refine r_lsub K dX10_areDue_133 ?_
        obtain ⟨y23, ey23, hf⟩ := bnd_g hf
        refine r_nml ey23 ?_
        refine r_lstore (lv1 := [(5, .long y23), (0, .ref a0), (1, .int x1), (3, .long x3), (7, .int x7)]) K dX10_areDue_134 (by decide) rfl ?_
        obtain ⟨y24, ey24, hf⟩ := bnd_g hf
        refine r_iinc (lv1 := [(7, .int y24), (5, .long y23), (0, .ref a0), (1, .int x1), (3, .long x3)]) K 4 dX10_areDue_136 rfl (by rw [ey24]; rfl) (by decide) rfl ?_
        refine r_goto (tgt := 101) K dX10_areDue_139 (by decide) ?_
        refine r_lv [2, 3, 4, 1, 0] rfl ?_
        exact ih y23 y24 hf
      · replace hf := ite_t hf c29
        refine r_aload_n K 0 dX10_areDue_122 rfl ?_
        refine r_iload K 4 dX10_areDue_123 rfl ?_
        refine r_iconst (v := (1 : Int32)) K dX10_areDue_125 (by decide) ?_
        obtain ⟨r25, e26, hf⟩ := ob1_s hf
        refine r_callV (As := [.int x7, .int (1 : Int32)]) (rest := [.long x5]) (st1 := [.long r25, .long x5]) (cells1 := 0) (slots1 := 0) (b := a0) (ci := 10) K (fun z => mX10_ofClass l z e26) dX10_areDue_126 rfl (fun z => z _ _ ht) rfl ceX10_ofClass q_1086 q_1088 q_39 q_85 q_1089 ⟨Nat.le_of_ble_eq_true rfl, Nat.le_of_ble_eq_true rfl⟩ (Nat.le_of_ble_eq_true rfl) ⟨Nat.le_of_ble_eq_true rfl, Nat.le_of_ble_eq_true rfl⟩ ?_ rfl rfl rfl rfl
        refine r_goto (tgt := 133) K dX10_areDue_129 (by decide) ?_
        refine r_lsub K dX10_areDue_133 ?_
        obtain ⟨y27, ey27, hf⟩ := bnd_g hf
        refine r_nml ey27 ?_
        refine r_lstore (lv1 := [(5, .long y27), (0, .ref a0), (1, .int x1), (3, .long x3), (7, .int x7)]) K dX10_areDue_134 (by decide) rfl ?_
        obtain ⟨y28, ey28, hf⟩ := bnd_g hf
        refine r_iinc (lv1 := [(7, .int y28), (5, .long y27), (0, .ref a0), (1, .int x1), (3, .long x3)]) K 4 dX10_areDue_136 rfl (by rw [ey28]; rfl) (by decide) rfl ?_
        refine r_goto (tgt := 101) K dX10_areDue_139 (by decide) ?_
        refine r_lv [2, 3, 4, 1, 0] rfl ?_
        exact ih y27 y28 hf
set_option maxHeartbeats 4000000 in
set_option maxRecDepth 100000 in
theorem mX10_areDue (l : Launch) {G : GG} {b0 : Nat} {h : AH} {a0 : Nat} {x1 : Int32} {x2 : Int32} {rr : Int32} (ht : isO h a0 10) (hf : fX10_areDue a0 x1 x2 h = some rr) : MM l yX10_areDue cX10_areDue 12 (some .boolean) rmX10_areDue G b0 h [.ref a0, .int x1, .int x2] (some (.int rr)) h := by
  refine MM.of (own := RX10) (lv0 := [(0, .ref a0), (1, .int x1), (2, .int x2)]) (by decide) rfl (Nat.le_of_ble_eq_true rfl) rfl ?_
  intro p e s m args below meth c K hnm
  unfold fX10_areDue at hf
  refine r_lconst (v := (0 : Int64)) K dX10_areDue_0 (by decide) ?_
  refine r_lstore_n (lv1 := [(3, .long (0 : Int64)), (0, .ref a0), (1, .int x1), (2, .int x2)]) K dX10_areDue_1 (by decide) rfl ?_
  refine r_lconst (v := (0 : Int64)) K dX10_areDue_2 (by decide) ?_
  refine r_lstore (lv1 := [(5, .long (0 : Int64)), (3, .long (0 : Int64)), (0, .ref a0), (1, .int x1), (2, .int x2)]) K dX10_areDue_3 (by decide) rfl ?_
  refine r_iconst (v := (0 : Int32)) K dX10_areDue_5 (by decide) ?_
  refine r_istore (lv1 := [(7, .int (0 : Int32)), (5, .long (0 : Int64)), (3, .long (0 : Int64)), (0, .ref a0), (1, .int x1), (2, .int x2)]) K dX10_areDue_6 (by decide) rfl ?_
  refine r_lv [3, 4, 5, 2, 1, 0] rfl ?_
  refine wX10_areDue_L8 K ht _ (fun y19 y20 hf => ?_) lf (0 : Int64) (0 : Int64) (0 : Int32) hf
  refine r_iconst (v := (0 : Int32)) K dX10_areDue_98 (by decide) ?_
  refine r_istore (lv1 := [(7, .int (0 : Int32)), (0, .ref a0), (1, .int x1), (3, .long y19), (5, .long y20)]) K dX10_areDue_99 (by decide) rfl ?_
  refine r_lv [1, 2, 3, 4, 0] rfl ?_
  refine wX10_areDue_L101 K ht _ (fun y31 hf => ?_) lf y20 (0 : Int32) hf
  refine r_lload K 1 dX10_areDue_142 rfl ?_
  refine r_ldc2 K dX10_areDue_144 q_1375 ?_
  refine r_lrem K dX10_areDue_147 (by decide) ?_
  refine r_lconst (v := (0 : Int64)) K dX10_areDue_148 (by decide) ?_
  refine r_lif_ne (tgt := 169) K dX10_areDue_149 dX10_areDue_150 (by decide) (fun c33 => ?_) (fun c33 => ?_)
  · replace hf := ite_f hf c33
    refine r_iconst (v := (0 : Int32)) K dX10_areDue_169 (by decide) ?_
    exact r_zret K dX10_areDue_170 rfl (retp hf) (Nat.le_of_ble_eq_true rfl) (Nat.le_of_ble_eq_true rfl)
  · replace hf := ite_t hf c33
    refine r_lload_n K 0 dX10_areDue_153 rfl ?_
    refine r_lload K 1 dX10_areDue_154 rfl ?_
    refine r_ldc2 K dX10_areDue_156 q_1375 ?_
    refine r_ldiv K dX10_areDue_159 (by decide) ?_
    refine r_lneg K dX10_areDue_160 ?_
    refine r_lif_ne (tgt := 169) K dX10_areDue_161 dX10_areDue_162 (by decide) (fun c32 => ?_) (fun c32 => ?_)
    · replace hf := ite_f hf c32
      refine r_iconst (v := (0 : Int32)) K dX10_areDue_169 (by decide) ?_
      exact r_zret K dX10_areDue_170 rfl (retp hf) (Nat.le_of_ble_eq_true rfl) (Nat.le_of_ble_eq_true rfl)
    · replace hf := ite_t hf c32
      refine r_iconst (v := (1 : Int32)) K dX10_areDue_165 (by decide) ?_
      refine r_goto (tgt := 170) K dX10_areDue_166 (by decide) ?_
      exact r_zret K dX10_areDue_170 rfl (retp hf) (Nat.le_of_ble_eq_true rfl) (Nat.le_of_ble_eq_true rfl)
theorem ceX10_doConserve : CE yX10_doConserve 1 := ⟨by decide, by decide, by decide +kernel⟩
abbrev rmX10_doConserve : Room := { frames := 2, cells := 0, slots := 0, locals := 53 }
def fX10_doConserve_L2 (a0 : Nat) (x1 : Int32) (h : AH) (k : Option Int32) : Nat → Int32 → Option Int32
  | 0, _ => none
  | n + 1, x2 =>
    ob1 (fX10_roadMany a0 h) fun r1 =>
    if r1 ≤ x2 then
      k
    else
      ob1 (gR h a0 10 26) fun b3 =>
      ob1 (aL h b3 (x1 + x2)) fun v5 =>
      if (0 : Int64) ≤ v5 then
        bnd (x2 + (1 : Int32)) fun y7 =>
        fX10_doConserve_L2 a0 x1 h k n y7
      else
        some (0 : Int32)
def fX10_doConserve_L33 (a0 : Nat) (x1 : Int32) (h : AH) (k : Option Int32) : Nat → Int32 → Option Int32
  | 0, _ => none
  | n + 1, x2 =>
    ob1 (gR h a0 10 0) fun b10 =>
    ob1 (aL h b10 (0 : Int32)) fun v12 =>
    if v12 ≤ (Int32.toInt64 x2) then
      k
    else
      ob1 (fX10_areDue a0 x2 x1 h) fun r14 =>
      if r14 = (0 : Int32) then
        some (0 : Int32)
      else
        bnd (x2 + (1 : Int32)) fun y16 =>
        fX10_doConserve_L33 a0 x1 h k n y16
def fX10_doConserve (a0 : Nat) (x1 : Int32) (h : AH) : Option Int32 :=
  fX10_doConserve_L2 a0 x1 h (
    fX10_doConserve_L33 a0 x1 h (
      some (1 : Int32)
    ) lf (1 : Int32)
  ) lf (0 : Int32)
set_option maxHeartbeats 4000000 in
set_option maxRecDepth 100000 in
theorem wX10_doConserve_L2 {p : Program} {l : Launch} {e : Env} {s : State} {m : MethodId} {args : Array Value} {below : List Frame} {meth : Method} {c : Code} {G : GG} {b0 : Nat} {h0 : AH} {a0 : Nat} {x1 : Int32} {h : AH} {rr : Int32} (K : CX p s m args meth c cX10_doConserve 3 RX10 (some .boolean) G b0) (ht : isO h0 a0 10) (k : Option Int32) (hk : k = some rr → WA p l e rmX10_doConserve s m args below meth c (MQ below (QG G b0 h0 (some (.int rr)) h) args s (rmX10_doConserve).cells (rmX10_doConserve).slots (AB b0)) G b0 3 h0 0 0 h 31 [(0, .ref a0), (1, .int x1)] []) : ∀ (n : Nat) (x2 : Int32), fX10_doConserve_L2 a0 x1 h k n x2 = some rr → WA p l e rmX10_doConserve s m args below meth c (MQ below (QG G b0 h0 (some (.int rr)) h) args s (rmX10_doConserve).cells (rmX10_doConserve).slots (AB b0)) G b0 3 h0 0 0 h 2 [(0, .ref a0), (1, .int x1), (2, .int x2)] [] := by
  intro n
  induction n with
  | zero =>
    intro x2 hf
    rw [fX10_doConserve_L2] at hf
    cases hf
  | succ n ih =>
    intro x2 hf
    rw [fX10_doConserve_L2] at hf
    refine r_iload_n K 2 dX10_doConserve_2 rfl ?_
    refine r_aload_n K 0 dX10_doConserve_3 rfl ?_
    obtain ⟨r1, e2, hf⟩ := ob1_s hf
    refine r_callV (As := []) (rest := [.int x2]) (st1 := [.int r1, .int x2]) (cells1 := 0) (slots1 := 0) (b := a0) (ci := 10) K (fun z => mX10_roadMany l z e2) dX10_doConserve_4 rfl (fun z => z _ _ ht) rfl ceX10_roadMany q_1028 q_1030 q_33 q_85 q_1031 ⟨Nat.le_of_ble_eq_true rfl, Nat.le_of_ble_eq_true rfl⟩ (Nat.le_of_ble_eq_true rfl) ⟨Nat.le_of_ble_eq_true rfl, Nat.le_of_ble_eq_true rfl⟩ ?_ rfl rfl rfl rfl
    refine r_icmp_ge (tgt := 31) K dX10_doConserve_7 (by decide) (fun c9 => ?_) (fun c9 => ?_)
    · replace hf := ite_t hf c9
      refine r_lv [0, 1] rfl ?_
      exact hk  hf
    · replace hf := ite_f hf c9
      refine r_aload_n K 0 dX10_doConserve_10 rfl ?_
      obtain ⟨b3, e4, hf⟩ := ob1_s hf
      refine r_getR (ci := 10) (k := 26) K dX10_doConserve_11 inX10 rfl (by decide) rfl q_932 e4 ?_
      refine r_iload_n K 1 dX10_doConserve_14 rfl ?_
      refine r_iload_n K 2 dX10_doConserve_15 rfl ?_
      refine r_iadd K dX10_doConserve_16 ?_
      obtain ⟨v5, e6, hf⟩ := ob1_s hf
      refine r_laload K dX10_doConserve_17 e6 ?_
      refine r_lconst (v := (0 : Int64)) K dX10_doConserve_18 (by decide) ?_
      refine r_lif_ge (tgt := 25) K dX10_doConserve_19 dX10_doConserve_20 (by decide) (fun c8 => ?_) (fun c8 => ?_)
      · replace hf := ite_t hf c8
        obtain ⟨y7, ey7, hf⟩ := bnd_g hf
        refine r_iinc (lv1 := [(2, .int y7), (0, .ref a0), (1, .int x1)]) K 2 dX10_doConserve_25 rfl (by rw [ey7]; rfl) (by decide) rfl ?_
        refine r_goto (tgt := 2) K dX10_doConserve_28 (by decide) ?_
        refine r_lv [1, 2, 0] rfl ?_
        exact ih y7 hf
      · replace hf := ite_f hf c8
        refine r_iconst (v := (0 : Int32)) K dX10_doConserve_23 (by decide) ?_
        exact r_zret K dX10_doConserve_24 rfl (retp hf) (Nat.le_of_ble_eq_true rfl) (Nat.le_of_ble_eq_true rfl)
set_option maxHeartbeats 4000000 in
set_option maxRecDepth 100000 in
theorem wX10_doConserve_L33 {p : Program} {l : Launch} {e : Env} {s : State} {m : MethodId} {args : Array Value} {below : List Frame} {meth : Method} {c : Code} {G : GG} {b0 : Nat} {h0 : AH} {a0 : Nat} {x1 : Int32} {h : AH} {rr : Int32} (K : CX p s m args meth c cX10_doConserve 3 RX10 (some .boolean) G b0) (ht : isO h0 a0 10) (k : Option Int32) (hk : k = some rr → WA p l e rmX10_doConserve s m args below meth c (MQ below (QG G b0 h0 (some (.int rr)) h) args s (rmX10_doConserve).cells (rmX10_doConserve).slots (AB b0)) G b0 3 h0 0 0 h 62 [] []) : ∀ (n : Nat) (x2 : Int32), fX10_doConserve_L33 a0 x1 h k n x2 = some rr → WA p l e rmX10_doConserve s m args below meth c (MQ below (QG G b0 h0 (some (.int rr)) h) args s (rmX10_doConserve).cells (rmX10_doConserve).slots (AB b0)) G b0 3 h0 0 0 h 33 [(0, .ref a0), (1, .int x1), (2, .int x2)] [] := by
  intro n
  induction n with
  | zero =>
    intro x2 hf
    rw [fX10_doConserve_L33] at hf
    cases hf
  | succ n ih =>
    intro x2 hf
    rw [fX10_doConserve_L33] at hf
    refine r_iload_n K 2 dX10_doConserve_33 rfl ?_
    refine r_i2l K dX10_doConserve_34 ?_
    refine r_aload_n K 0 dX10_doConserve_35 rfl ?_
    obtain ⟨b10, e11, hf⟩ := ob1_s hf
    refine r_getR (ci := 10) (k := 0) K dX10_doConserve_36 inX10 rfl (by decide) rfl q_906 e11 ?_
    refine r_iconst (v := (0 : Int32)) K dX10_doConserve_39 (by decide) ?_
    obtain ⟨v12, e13, hf⟩ := ob1_s hf
    refine r_laload K dX10_doConserve_40 e13 ?_
    refine r_lif_ge (tgt := 62) K dX10_doConserve_41 dX10_doConserve_42 (by decide) (fun c18 => ?_) (fun c18 => ?_)
    · replace hf := ite_t hf c18
      refine r_lv [] rfl ?_
      exact hk  hf
    · replace hf := ite_f hf c18
      refine r_aload_n K 0 dX10_doConserve_45 rfl ?_
      refine r_iload_n K 2 dX10_doConserve_46 rfl ?_
      refine r_iload_n K 1 dX10_doConserve_47 rfl ?_
      obtain ⟨r14, e15, hf⟩ := ob1_s hf
      refine r_callV (As := [.int x2, .int x1]) (rest := []) (st1 := [.int r14]) (cells1 := 0) (slots1 := 0) (b := a0) (ci := 10) K (fun z => mX10_areDue l z e15) dX10_doConserve_48 rfl (fun z => z _ _ ht) rfl ceX10_areDue q_1370 q_1372 q_73 q_85 q_1373 ⟨Nat.le_of_ble_eq_true rfl, Nat.le_of_ble_eq_true rfl⟩ (Nat.le_of_ble_eq_true rfl) ⟨Nat.le_of_ble_eq_true rfl, Nat.le_of_ble_eq_true rfl⟩ ?_ rfl rfl rfl rfl
      refine r_if_ne (tgt := 56) K dX10_doConserve_51 (by decide) (fun c17 => ?_) (fun c17 => ?_)
      · replace hf := ite_f hf c17
        obtain ⟨y16, ey16, hf⟩ := bnd_g hf
        refine r_iinc (lv1 := [(2, .int y16), (0, .ref a0), (1, .int x1)]) K 2 dX10_doConserve_56 rfl (by rw [ey16]; rfl) (by decide) rfl ?_
        refine r_goto (tgt := 33) K dX10_doConserve_59 (by decide) ?_
        refine r_lv [1, 2, 0] rfl ?_
        exact ih y16 hf
      · replace hf := ite_t hf c17
        refine r_iconst (v := (0 : Int32)) K dX10_doConserve_54 (by decide) ?_
        exact r_zret K dX10_doConserve_55 rfl (retp hf) (Nat.le_of_ble_eq_true rfl) (Nat.le_of_ble_eq_true rfl)
set_option maxHeartbeats 4000000 in
set_option maxRecDepth 100000 in
theorem mX10_doConserve (l : Launch) {G : GG} {b0 : Nat} {h : AH} {a0 : Nat} {x1 : Int32} {rr : Int32} (ht : isO h a0 10) (hf : fX10_doConserve a0 x1 h = some rr) : MM l yX10_doConserve cX10_doConserve 3 (some .boolean) rmX10_doConserve G b0 h [.ref a0, .int x1] (some (.int rr)) h := by
  refine MM.of (own := RX10) (lv0 := [(0, .ref a0), (1, .int x1)]) (by decide) rfl (Nat.le_of_ble_eq_true rfl) rfl ?_
  intro p e s m args below meth c K hnm
  unfold fX10_doConserve at hf
  refine r_iconst (v := (0 : Int32)) K dX10_doConserve_0 (by decide) ?_
  refine r_istore_n (lv1 := [(2, .int (0 : Int32)), (0, .ref a0), (1, .int x1)]) K dX10_doConserve_1 (by decide) rfl ?_
  refine r_lv [1, 2, 0] rfl ?_
  refine wX10_doConserve_L2 K ht _ (fun  hf => ?_) lf (0 : Int32) hf
  refine r_iconst (v := (1 : Int32)) K dX10_doConserve_31 (by decide) ?_
  refine r_istore_n (lv1 := [(2, .int (1 : Int32)), (0, .ref a0), (1, .int x1)]) K dX10_doConserve_32 (by decide) rfl ?_
  refine r_lv [1, 2, 0] rfl ?_
  refine wX10_doConserve_L33 K ht _ (fun  hf => ?_) lf (1 : Int32) hf
  refine r_iconst (v := (1 : Int32)) K dX10_doConserve_62 (by decide) ?_
  exact r_zret K dX10_doConserve_63 rfl (retp hf) (Nat.le_of_ble_eq_true rfl) (Nat.le_of_ble_eq_true rfl)
theorem ceX10_judge : CE yX10_judge 2 := ⟨by decide, by decide, by decide +kernel⟩
abbrev rmX10_judge : Room := { frames := 5, cells := 0, slots := 0, locals := 123 }
def fX10_judge_L67 (a0 : Nat) (x3 : Int32) (k : AH → Option (Int32 × AH)) : Nat → Int32 → AH → Option (Int32 × AH)
  | 0, _, _ => none
  | n + 1, x4, h =>
    ob1 (fX10_roadMany a0 h) fun r16 =>
    if r16 ≤ x4 then
      k h
    else
      ob1 (gR h a0 10 26) fun b18 =>
      ob1 (aL h b18 (x3 + x4)) fun v20 =>
      if v20 ≤ (36 : Int64) then
        ob1 (gR h a0 10 16) fun b22 =>
        ob1 (gR h a0 10 26) fun b24 =>
        ob1 (aL h b24 (x3 + x4)) fun v26 =>
        ob1 (sI h b22 x4 (Int64.toInt32 v26)) fun g28 =>
        bnd (x4 + (1 : Int32)) fun y30 =>
        fX10_judge_L67 a0 x3 k n y30 g28
      else
        some ((-6 : Int32), h)
def fX10_judge (a0 : Nat) (x1 : Int32) (x2 : Int32) (h : AH) : Option (Int32 × AH) :=
  ob1 (fX10_isList x1) fun r1 =>
  if r1 = (0 : Int32) then
    some ((-1 : Int32), h)
  else
    ob1 (gR h a0 10 25) fun b3 =>
    ob1 (aI h b3 0 x1) fun v5 =>
    if (0 : Int32) ≤ v5 then
      if x2 < (0 : Int32) then
        some ((-13 : Int32), h)
      else
        ob1 (fX10_roadMany a0 h) fun r7 =>
        ob1 (gR h a0 10 25) fun b9 =>
        ob1 (aI h b9 0 x1) fun v11 =>
        if ((Int32.toInt64 x2) + (Int32.toInt64 r7)) ≤ (Int32.toInt64 v11) then
          bnd (((24 : Int32) * x1) + x2) fun y13 =>
          ob1 (fX10_doConserve a0 y13 h) fun r14 =>
          if r14 = (0 : Int32) then
            some ((0 : Int32), h)
          else
            fX10_judge_L67 a0 y13 (fun (g33 : AH) =>
              ob2 (fX10_totalOf a0 g33) fun r34 g35 =>
              ob2 (fX10_bestOf a0 g35) fun r37 g38 =>
              if r34 < (0 : Int64) then
                some ((-6 : Int32), g38)
              else
                if r37 = (-6 : Int64) then
                  some ((-6 : Int32), g38)
                else
                  if r37 = r34 then
                    some ((2 : Int32), g38)
                  else
                    some ((1 : Int32), g38)
            ) lf (0 : Int32) h
        else
          some ((-13 : Int32), h)
    else
      some ((-11 : Int32), h)
set_option maxHeartbeats 4000000 in
set_option maxRecDepth 100000 in
theorem wX10_judge_L67 {p : Program} {l : Launch} {e : Env} {s : State} {m : MethodId} {args : Array Value} {below : List Frame} {meth : Method} {c : Code} {G : GG} {b0 : Nat} {h0 : AH} {a0 : Nat} {x3 : Int32} {rr : Int32} {hh : AH} (K : CX p s m args meth c cX10_judge 8 RX10 (some .int) G b0) (ht : isO h0 a0 10) (k : AH → Option (Int32 × AH)) (hk : ∀ (h : AH), k h = some (rr, hh) → WA p l e rmX10_judge s m args below meth c (MQ below (QG G b0 h0 (some (.int rr)) hh) args s (rmX10_judge).cells (rmX10_judge).slots (AB b0)) G b0 8 h0 0 0 h 118 [(0, .ref a0)] []) : ∀ (n : Nat) (x4 : Int32) (h : AH), fX10_judge_L67 a0 x3 k n x4 h = some (rr, hh) → WA p l e rmX10_judge s m args below meth c (MQ below (QG G b0 h0 (some (.int rr)) hh) args s (rmX10_judge).cells (rmX10_judge).slots (AB b0)) G b0 8 h0 0 0 h 67 [(0, .ref a0), (3, .int x3), (4, .int x4)] [] := by
  intro n
  induction n with
  | zero =>
    intro x4 h hf
    rw [fX10_judge_L67] at hf
    cases hf
  | succ n ih =>
    intro x4 h hf
    rw [fX10_judge_L67] at hf
    refine r_iload K 2 dX10_judge_67 rfl ?_
    refine r_aload_n K 0 dX10_judge_69 rfl ?_
    obtain ⟨r16, e17, hf⟩ := ob1_s hf
    refine r_callV (As := []) (rest := [.int x4]) (st1 := [.int r16, .int x4]) (cells1 := 0) (slots1 := 0) (b := a0) (ci := 10) K (fun z => mX10_roadMany l z e17) dX10_judge_70 rfl (fun z => z _ _ ht) rfl ceX10_roadMany q_1028 q_1030 q_33 q_85 q_1031 ⟨Nat.le_of_ble_eq_true rfl, Nat.le_of_ble_eq_true rfl⟩ (Nat.le_of_ble_eq_true rfl) ⟨Nat.le_of_ble_eq_true rfl, Nat.le_of_ble_eq_true rfl⟩ ?_ rfl rfl rfl rfl
    refine r_icmp_ge (tgt := 118) K dX10_judge_73 (by decide) (fun c32 => ?_) (fun c32 => ?_)
    · replace hf := ite_t hf c32
      refine r_lv [0] rfl ?_
      exact hk h hf
    · replace hf := ite_f hf c32
      refine r_aload_n K 0 dX10_judge_76 rfl ?_
      obtain ⟨b18, e19, hf⟩ := ob1_s hf
      refine r_getR (ci := 10) (k := 26) K dX10_judge_77 inX10 rfl (by decide) rfl q_932 e19 ?_
      refine r_iload_n K 1 dX10_judge_80 rfl ?_
      refine r_iload K 2 dX10_judge_81 rfl ?_
      refine r_iadd K dX10_judge_83 ?_
      obtain ⟨v20, e21, hf⟩ := ob1_s hf
      refine r_laload K dX10_judge_84 e21 ?_
      refine r_ldc2 K dX10_judge_85 q_1022 ?_
      refine r_lif_le (tgt := 95) K dX10_judge_88 dX10_judge_89 (by decide) (fun c31 => ?_) (fun c31 => ?_)
      · replace hf := ite_t hf c31
        refine r_aload_n K 0 dX10_judge_95 rfl ?_
        obtain ⟨b22, e23, hf⟩ := ob1_s hf
        refine r_getR (ci := 10) (k := 16) K dX10_judge_96 inX10 rfl (by decide) rfl q_922 e23 ?_
        refine r_iload K 2 dX10_judge_99 rfl ?_
        refine r_aload_n K 0 dX10_judge_101 rfl ?_
        obtain ⟨b24, e25, hf⟩ := ob1_s hf
        refine r_getR (ci := 10) (k := 26) K dX10_judge_102 inX10 rfl (by decide) rfl q_932 e25 ?_
        refine r_iload_n K 1 dX10_judge_105 rfl ?_
        refine r_iload K 2 dX10_judge_106 rfl ?_
        refine r_iadd K dX10_judge_108 ?_
        obtain ⟨v26, e27, hf⟩ := ob1_s hf
        refine r_laload K dX10_judge_109 e27 ?_
        refine r_l2i K dX10_judge_110 ?_
        obtain ⟨g28, e29, hf⟩ := ob1_s hf
        refine r_iastore K dX10_judge_111 e29 ?_
        obtain ⟨y30, ey30, hf⟩ := bnd_g hf
        refine r_iinc (lv1 := [(4, .int y30), (0, .ref a0), (3, .int x3)]) K 2 dX10_judge_112 rfl (by rw [ey30]; rfl) (by decide) rfl ?_
        refine r_goto (tgt := 67) K dX10_judge_115 (by decide) ?_
        refine r_lv [1, 2, 0] rfl ?_
        exact ih y30 g28 hf
      · replace hf := ite_f hf c31
        refine r_bipush (v := (-6 : Int32)) K dX10_judge_92 (by decide) ?_
        exact r_iret K dX10_judge_94 hf (Nat.le_of_ble_eq_true rfl) (Nat.le_of_ble_eq_true rfl)
set_option maxHeartbeats 4000000 in
set_option maxRecDepth 100000 in
theorem mX10_judge (l : Launch) {G : GG} {b0 : Nat} {h : AH} {a0 : Nat} {x1 : Int32} {x2 : Int32} {rr : Int32} {hh : AH} (ht : isO h a0 10) (hf : fX10_judge a0 x1 x2 h = some (rr, hh)) : MM l yX10_judge cX10_judge 8 (some .int) rmX10_judge G b0 h [.ref a0, .int x1, .int x2] (some (.int rr)) hh := by
  refine MM.of (own := RX10) (lv0 := [(0, .ref a0), (1, .int x1), (2, .int x2)]) (by decide) rfl (Nat.le_of_ble_eq_true rfl) rfl ?_
  intro p e s m args below meth c K hnm
  unfold fX10_judge at hf
  refine r_iload_n K 1 dX10_judge_0 rfl ?_
  obtain ⟨r1, e2, hf⟩ := ob1_s hf
  refine r_callS (As := [.int x1]) (rest := []) (st1 := [.int r1]) (cells1 := 0) (slots1 := 0) K (mX10_isList l e2) dX10_judge_1 ceX10_isList q_1347 q_1348 q_85 q_1349 ⟨Nat.le_of_ble_eq_true rfl, Nat.le_of_ble_eq_true rfl⟩ (Nat.le_of_ble_eq_true rfl) ⟨Nat.le_of_ble_eq_true rfl, Nat.le_of_ble_eq_true rfl⟩ ?_ rfl rfl rfl rfl
  refine r_if_ne (tgt := 9) K dX10_judge_4 (by decide) (fun c47 => ?_) (fun c47 => ?_)
  · replace hf := ite_f hf c47
    refine r_aload_n K 0 dX10_judge_9 rfl ?_
    obtain ⟨b3, e4, hf⟩ := ob1_s hf
    refine r_getR (ci := 10) (k := 25) K dX10_judge_10 inX10 rfl (by decide) rfl q_931 e4 ?_
    refine r_iload_n K 1 dX10_judge_13 rfl ?_
    obtain ⟨v5, e6, hf⟩ := ob1_s hf
    refine r_iaload K dX10_judge_14 e6 ?_
    refine r_if_ge (tgt := 21) K dX10_judge_15 (by decide) (fun c46 => ?_) (fun c46 => ?_)
    · replace hf := ite_t hf c46
      refine r_iload_n K 2 dX10_judge_21 rfl ?_
      refine r_if_lt (tgt := 44) K dX10_judge_22 (by decide) (fun c45 => ?_) (fun c45 => ?_)
      · replace hf := ite_t hf c45
        refine r_bipush (v := (-13 : Int32)) K dX10_judge_44 (by decide) ?_
        exact r_iret K dX10_judge_46 hf (Nat.le_of_ble_eq_true rfl) (Nat.le_of_ble_eq_true rfl)
      · replace hf := ite_f hf c45
        refine r_iload_n K 2 dX10_judge_25 rfl ?_
        refine r_i2l K dX10_judge_26 ?_
        refine r_aload_n K 0 dX10_judge_27 rfl ?_
        obtain ⟨r7, e8, hf⟩ := ob1_s hf
        refine r_callV (As := []) (rest := [.long (Int32.toInt64 x2)]) (st1 := [.int r7, .long (Int32.toInt64 x2)]) (cells1 := 0) (slots1 := 0) (b := a0) (ci := 10) K (fun z => mX10_roadMany l z e8) dX10_judge_28 rfl (fun z => z _ _ ht) rfl ceX10_roadMany q_1028 q_1030 q_33 q_85 q_1031 ⟨Nat.le_of_ble_eq_true rfl, Nat.le_of_ble_eq_true rfl⟩ (Nat.le_of_ble_eq_true rfl) ⟨Nat.le_of_ble_eq_true rfl, Nat.le_of_ble_eq_true rfl⟩ ?_ rfl rfl rfl rfl
        refine r_i2l K dX10_judge_31 ?_
        refine r_ladd K dX10_judge_32 ?_
        refine r_aload_n K 0 dX10_judge_33 rfl ?_
        obtain ⟨b9, e10, hf⟩ := ob1_s hf
        refine r_getR (ci := 10) (k := 25) K dX10_judge_34 inX10 rfl (by decide) rfl q_931 e10 ?_
        refine r_iload_n K 1 dX10_judge_37 rfl ?_
        obtain ⟨v11, e12, hf⟩ := ob1_s hf
        refine r_iaload K dX10_judge_38 e12 ?_
        refine r_i2l K dX10_judge_39 ?_
        refine r_lif_le (tgt := 47) K dX10_judge_40 dX10_judge_41 (by decide) (fun c44 => ?_) (fun c44 => ?_)
        · replace hf := ite_t hf c44
          refine r_bipush (v := (24 : Int32)) K dX10_judge_47 (by decide) ?_
          refine r_iload_n K 1 dX10_judge_49 rfl ?_
          refine r_imul K dX10_judge_50 ?_
          refine r_iload_n K 2 dX10_judge_51 rfl ?_
          refine r_iadd K dX10_judge_52 ?_
          obtain ⟨y13, ey13, hf⟩ := bnd_g hf
          refine r_nmi ey13 ?_
          refine r_istore_n (lv1 := [(3, .int y13), (0, .ref a0), (1, .int x1), (2, .int x2)]) K dX10_judge_53 (by decide) rfl ?_
          refine r_aload_n K 1 dX10_judge_54 rfl ?_
          refine r_iload_n K 0 dX10_judge_55 rfl ?_
          obtain ⟨r14, e15, hf⟩ := ob1_s hf
          refine r_callV (As := [.int y13]) (rest := []) (st1 := [.int r14]) (cells1 := 0) (slots1 := 0) (b := a0) (ci := 10) K (fun z => mX10_doConserve l z e15) dX10_judge_56 rfl (fun z => z _ _ ht) rfl ceX10_doConserve q_1366 q_1368 q_72 q_85 q_1369 ⟨Nat.le_of_ble_eq_true rfl, Nat.le_of_ble_eq_true rfl⟩ (Nat.le_of_ble_eq_true rfl) ⟨Nat.le_of_ble_eq_true rfl, Nat.le_of_ble_eq_true rfl⟩ ?_ rfl rfl rfl rfl
          refine r_if_ne (tgt := 64) K dX10_judge_59 (by decide) (fun c43 => ?_) (fun c43 => ?_)
          · replace hf := ite_f hf c43
            refine r_iconst (v := (0 : Int32)) K dX10_judge_64 (by decide) ?_
            refine r_istore (lv1 := [(4, .int (0 : Int32)), (3, .int y13), (0, .ref a0), (1, .int x1), (2, .int x2)]) K dX10_judge_65 (by decide) rfl ?_
            refine r_lv [2, 1, 0] rfl ?_
            refine wX10_judge_L67 K ht _ (fun g33 hf => ?_) lf (0 : Int32) h hf
            refine r_aload_n K 0 dX10_judge_118 rfl ?_
            obtain ⟨r34, g35, e36, hf⟩ := ob2_s hf
            refine r_callV (As := []) (rest := []) (st1 := [.long r34]) (cells1 := 0) (slots1 := 0) (b := a0) (ci := 10) K (fun z => mX10_totalOf l z e36) dX10_judge_119 rfl (fun z => z _ _ ht) rfl ceX10_totalOf q_1198 q_1200 q_58 q_85 q_1201 ⟨Nat.le_of_ble_eq_true rfl, Nat.le_of_ble_eq_true rfl⟩ (Nat.le_of_ble_eq_true rfl) ⟨Nat.le_of_ble_eq_true rfl, Nat.le_of_ble_eq_true rfl⟩ ?_ rfl rfl rfl rfl
            refine r_lstore (lv1 := [(4, .long r34), (0, .ref a0)]) K dX10_judge_122 (by decide) rfl ?_
            refine r_aload_n K 1 dX10_judge_124 rfl ?_
            obtain ⟨r37, g38, e39, hf⟩ := ob2_s hf
            refine r_callV (As := []) (rest := []) (st1 := [.long r37]) (cells1 := 0) (slots1 := 0) (b := a0) (ci := 10) K (fun z => mX10_bestOf l z e39) dX10_judge_125 rfl (fun z => z _ _ ht) rfl ceX10_bestOf q_1276 q_1278 q_63 q_85 q_1279 ⟨Nat.le_of_ble_eq_true rfl, Nat.le_of_ble_eq_true rfl⟩ (Nat.le_of_ble_eq_true rfl) ⟨Nat.le_of_ble_eq_true rfl, Nat.le_of_ble_eq_true rfl⟩ ?_ rfl rfl rfl rfl
            refine r_lstore (lv1 := [(6, .long r37), (4, .long r34), (0, .ref a0)]) K dX10_judge_128 (by decide) rfl ?_
            refine r_lload K 1 dX10_judge_130 rfl ?_
            refine r_lconst (v := (0 : Int64)) K dX10_judge_132 (by decide) ?_
            refine r_lif_lt (tgt := 146) K dX10_judge_133 dX10_judge_134 (by decide) (fun c42 => ?_) (fun c42 => ?_)
            · replace hf := ite_t hf c42
              refine r_bipush (v := (-6 : Int32)) K dX10_judge_146 (by decide) ?_
              exact r_iret K dX10_judge_148 hf (Nat.le_of_ble_eq_true rfl) (Nat.le_of_ble_eq_true rfl)
            · replace hf := ite_f hf c42
              refine r_lload K 0 dX10_judge_137 rfl ?_
              refine r_ldc2 K dX10_judge_139 q_1214 ?_
              refine r_lif_ne (tgt := 149) K dX10_judge_142 dX10_judge_143 (by decide) (fun c41 => ?_) (fun c41 => ?_)
              · replace hf := ite_f hf c41
                refine r_lload K 0 dX10_judge_149 rfl ?_
                refine r_lload K 1 dX10_judge_151 rfl ?_
                refine r_lif_ne (tgt := 161) K dX10_judge_153 dX10_judge_154 (by decide) (fun c40 => ?_) (fun c40 => ?_)
                · replace hf := ite_f hf c40
                  refine r_iconst (v := (1 : Int32)) K dX10_judge_161 (by decide) ?_
                  exact r_iret K dX10_judge_162 hf (Nat.le_of_ble_eq_true rfl) (Nat.le_of_ble_eq_true rfl)
                · replace hf := ite_t hf c40
                  refine r_iconst (v := (2 : Int32)) K dX10_judge_157 (by decide) ?_
                  refine r_goto (tgt := 162) K dX10_judge_158 (by decide) ?_
                  exact r_iret K dX10_judge_162 hf (Nat.le_of_ble_eq_true rfl) (Nat.le_of_ble_eq_true rfl)
              · replace hf := ite_t hf c41
                refine r_bipush (v := (-6 : Int32)) K dX10_judge_146 (by decide) ?_
                exact r_iret K dX10_judge_148 hf (Nat.le_of_ble_eq_true rfl) (Nat.le_of_ble_eq_true rfl)
          · replace hf := ite_t hf c43
            refine r_iconst (v := (0 : Int32)) K dX10_judge_62 (by decide) ?_
            exact r_iret K dX10_judge_63 hf (Nat.le_of_ble_eq_true rfl) (Nat.le_of_ble_eq_true rfl)
        · replace hf := ite_f hf c44
          refine r_bipush (v := (-13 : Int32)) K dX10_judge_44 (by decide) ?_
          exact r_iret K dX10_judge_46 hf (Nat.le_of_ble_eq_true rfl) (Nat.le_of_ble_eq_true rfl)
    · replace hf := ite_f hf c46
      refine r_bipush (v := (-11 : Int32)) K dX10_judge_18 (by decide) ?_
      exact r_iret K dX10_judge_20 hf (Nat.le_of_ble_eq_true rfl) (Nat.le_of_ble_eq_true rfl)
  · replace hf := ite_t hf c47
    refine r_iconst (v := (-1 : Int32)) K dX10_judge_7 (by decide) ?_
    exact r_iret K dX10_judge_8 hf (Nat.le_of_ble_eq_true rfl) (Nat.le_of_ble_eq_true rfl)
theorem ceX10_isTray : CE yX10_isTray 1 := ⟨by decide, by decide, by decide +kernel⟩
abbrev rmX10_isTray : Room := { frames := 1, cells := 0, slots := 0, locals := 25 }
def fX10_isTray (x0 : Int32) : Option Int32 :=
  ob1 (fX10_in (Int32.toInt64 x0) (0 : Int64) (2 : Int64)) fun r1 =>
  gd (zb r1) <|
  some r1
set_option maxHeartbeats 4000000 in
set_option maxRecDepth 100000 in
theorem mX10_isTray (l : Launch) {G : GG} {b0 : Nat} {h : AH} {x0 : Int32} {rr : Int32} (hf : fX10_isTray x0 = some rr) : MM l yX10_isTray cX10_isTray 1 (some .boolean) rmX10_isTray G b0 h [.int x0] (some (.int rr)) h := by
  refine MM.of (own := RX10) (lv0 := [(0, .int x0)]) (by decide) rfl (Nat.le_of_ble_eq_true rfl) rfl ?_
  intro p e s m args below meth c K hnm
  unfold fX10_isTray at hf
  refine r_iload_n K 0 dX10_isTray_0 rfl ?_
  refine r_i2l K dX10_isTray_1 ?_
  refine r_lconst (v := (0 : Int64)) K dX10_isTray_2 (by decide) ?_
  refine r_ldc2 K dX10_isTray_3 q_905 ?_
  obtain ⟨r1, e2, hf⟩ := ob1_s hf
  refine r_callS (As := [.long (Int32.toInt64 x0), .long (0 : Int64), .long (2 : Int64)]) (rest := []) (st1 := [.int r1]) (cells1 := 0) (slots1 := 0) K (mX10_in l e2) dX10_isTray_6 ceX10_in q_1005 q_1006 q_85 q_1007 ⟨Nat.le_of_ble_eq_true rfl, Nat.le_of_ble_eq_true rfl⟩ (Nat.le_of_ble_eq_true rfl) ⟨Nat.le_of_ble_eq_true rfl, Nat.le_of_ble_eq_true rfl⟩ ?_ rfl rfl rfl rfl
  obtain ⟨z3, hf⟩ := gd_s hf
  exact r_zret K dX10_isTray_9 (zb_n z3) (retp hf) (Nat.le_of_ble_eq_true rfl) (Nat.le_of_ble_eq_true rfl)
theorem ceX10_tray : CE yX10_tray 3 := ⟨by decide, by decide, by decide +kernel⟩
abbrev rmX10_tray : Room := { frames := 2, cells := 0, slots := 0, locals := 45 }
def fX10_tray_L60 (a0 : Nat) (x1 : Int32) (k : AH → Option (Int32 × AH)) : Nat → Int32 → AH → Option (Int32 × AH)
  | 0, _, _ => none
  | n + 1, x4, h =>
    if (20 : Int32) ≤ x4 then
      k h
    else
      ob1 (gR h a0 10 29) fun b14 =>
      ob1 (sZ h b14 (((20 : Int32) * x1) + x4) (0 : Int32)) fun g16 =>
      bnd (x4 + (1 : Int32)) fun y18 =>
      fX10_tray_L60 a0 x1 k n y18 g16
def fX10_tray (a0 : Nat) (x1 : Int32) (x2 : Int32) (x3 : Int32) (h : AH) : Option (Int32 × AH) :=
  ob1 (fX10_isTray x1) fun r1 =>
  if r1 = (0 : Int32) then
    some ((-1 : Int32), h)
  else
    ob1 (fX10_in (Int32.toInt64 x2) (0 : Int64) (2 : Int64)) fun r3 =>
    if r3 = (0 : Int32) then
      some ((-1 : Int32), h)
    else
      if (20 : Int32) < x3 then
        if (0 : Int32) ≤ x3 then
          some ((-2 : Int32), h)
        else
          some ((-14 : Int32), h)
      else
        if (0 : Int32) ≤ x3 then
          ob1 (gR h a0 10 27) fun b6 =>
          ob1 (sI h b6 x1 x2) fun g8 =>
          ob1 (gR g8 a0 10 28) fun b10 =>
          ob1 (sI g8 b10 x1 x3) fun g12 =>
          fX10_tray_L60 a0 x1 (fun (g20 : AH) =>
            some ((1 : Int32), g20)
          ) lf (0 : Int32) g12
        else
          if (0 : Int32) ≤ x3 then
            some ((-2 : Int32), h)
          else
            some ((-14 : Int32), h)
set_option maxHeartbeats 4000000 in
set_option maxRecDepth 100000 in
theorem wX10_tray_L60 {p : Program} {l : Launch} {e : Env} {s : State} {m : MethodId} {args : Array Value} {below : List Frame} {meth : Method} {c : Code} {G : GG} {b0 : Nat} {h0 : AH} {a0 : Nat} {x1 : Int32} {rr : Int32} {hh : AH} (K : CX p s m args meth c cX10_tray 5 RX10 (some .int) G b0) (ht : isO h0 a0 10) (k : AH → Option (Int32 × AH)) (hk : ∀ (h : AH), k h = some (rr, hh) → WA p l e rmX10_tray s m args below meth c (MQ below (QG G b0 h0 (some (.int rr)) hh) args s (rmX10_tray).cells (rmX10_tray).slots (AB b0)) G b0 5 h0 0 0 h 86 [] []) : ∀ (n : Nat) (x4 : Int32) (h : AH), fX10_tray_L60 a0 x1 k n x4 h = some (rr, hh) → WA p l e rmX10_tray s m args below meth c (MQ below (QG G b0 h0 (some (.int rr)) hh) args s (rmX10_tray).cells (rmX10_tray).slots (AB b0)) G b0 5 h0 0 0 h 60 [(0, .ref a0), (1, .int x1), (4, .int x4)] [] := by
  intro n
  induction n with
  | zero =>
    intro x4 h hf
    rw [fX10_tray_L60] at hf
    cases hf
  | succ n ih =>
    intro x4 h hf
    rw [fX10_tray_L60] at hf
    refine r_iload K 2 dX10_tray_60 rfl ?_
    refine r_bipush (v := (20 : Int32)) K dX10_tray_62 (by decide) ?_
    refine r_icmp_ge (tgt := 86) K dX10_tray_64 (by decide) (fun c19 => ?_) (fun c19 => ?_)
    · replace hf := ite_t hf c19
      refine r_lv [] rfl ?_
      exact hk h hf
    · replace hf := ite_f hf c19
      refine r_aload_n K 0 dX10_tray_67 rfl ?_
      obtain ⟨b14, e15, hf⟩ := ob1_s hf
      refine r_getR (ci := 10) (k := 29) K dX10_tray_68 inX10 rfl (by decide) rfl q_935 e15 ?_
      refine r_bipush (v := (20 : Int32)) K dX10_tray_71 (by decide) ?_
      refine r_iload_n K 1 dX10_tray_73 rfl ?_
      refine r_imul K dX10_tray_74 ?_
      refine r_iload K 2 dX10_tray_75 rfl ?_
      refine r_iadd K dX10_tray_77 ?_
      refine r_iconst (v := (0 : Int32)) K dX10_tray_78 (by decide) ?_
      obtain ⟨g16, e17, hf⟩ := ob1_s hf
      refine r_zastore K dX10_tray_79 e17 ?_
      obtain ⟨y18, ey18, hf⟩ := bnd_g hf
      refine r_iinc (lv1 := [(4, .int y18), (0, .ref a0), (1, .int x1)]) K 2 dX10_tray_80 rfl (by rw [ey18]; rfl) (by decide) rfl ?_
      refine r_goto (tgt := 60) K dX10_tray_83 (by decide) ?_
      refine r_lv [1, 2, 0] rfl ?_
      exact ih y18 g16 hf
set_option maxHeartbeats 4000000 in
set_option maxRecDepth 100000 in
theorem mX10_tray (l : Launch) {G : GG} {b0 : Nat} {h : AH} {a0 : Nat} {x1 : Int32} {x2 : Int32} {x3 : Int32} {rr : Int32} {hh : AH} (ht : isO h a0 10) (hf : fX10_tray a0 x1 x2 x3 h = some (rr, hh)) : MM l yX10_tray cX10_tray 5 (some .int) rmX10_tray G b0 h [.ref a0, .int x1, .int x2, .int x3] (some (.int rr)) hh := by
  refine MM.of (own := RX10) (lv0 := [(0, .ref a0), (1, .int x1), (2, .int x2), (3, .int x3)]) (by decide) rfl (Nat.le_of_ble_eq_true rfl) rfl ?_
  intro p e s m args below meth c K hnm
  unfold fX10_tray at hf
  refine r_iload_n K 1 dX10_tray_0 rfl ?_
  obtain ⟨r1, e2, hf⟩ := ob1_s hf
  refine r_callS (As := [.int x1]) (rest := []) (st1 := [.int r1]) (cells1 := 0) (slots1 := 0) K (mX10_isTray l e2) dX10_tray_1 ceX10_isTray q_1380 q_1381 q_85 q_1382 ⟨Nat.le_of_ble_eq_true rfl, Nat.le_of_ble_eq_true rfl⟩ (Nat.le_of_ble_eq_true rfl) ⟨Nat.le_of_ble_eq_true rfl, Nat.le_of_ble_eq_true rfl⟩ ?_ rfl rfl rfl rfl
  refine r_if_eq (tgt := 19) K dX10_tray_4 (by decide) (fun c25 => ?_) (fun c25 => ?_)
  · replace hf := ite_t hf c25
    refine r_iconst (v := (-1 : Int32)) K dX10_tray_19 (by decide) ?_
    exact r_iret K dX10_tray_20 hf (Nat.le_of_ble_eq_true rfl) (Nat.le_of_ble_eq_true rfl)
  · replace hf := ite_f hf c25
    refine r_iload_n K 2 dX10_tray_7 rfl ?_
    refine r_i2l K dX10_tray_8 ?_
    refine r_lconst (v := (0 : Int64)) K dX10_tray_9 (by decide) ?_
    refine r_ldc2 K dX10_tray_10 q_905 ?_
    obtain ⟨r3, e4, hf⟩ := ob1_s hf
    refine r_callS (As := [.long (Int32.toInt64 x2), .long (0 : Int64), .long (2 : Int64)]) (rest := []) (st1 := [.int r3]) (cells1 := 0) (slots1 := 0) K (mX10_in l e4) dX10_tray_13 ceX10_in q_1005 q_1006 q_85 q_1007 ⟨Nat.le_of_ble_eq_true rfl, Nat.le_of_ble_eq_true rfl⟩ (Nat.le_of_ble_eq_true rfl) ⟨Nat.le_of_ble_eq_true rfl, Nat.le_of_ble_eq_true rfl⟩ ?_ rfl rfl rfl rfl
    refine r_if_ne (tgt := 21) K dX10_tray_16 (by decide) (fun c24 => ?_) (fun c24 => ?_)
    · replace hf := ite_f hf c24
      refine r_iload_n K 3 dX10_tray_21 rfl ?_
      refine r_bipush (v := (20 : Int32)) K dX10_tray_22 (by decide) ?_
      refine r_icmp_gt (tgt := 31) K dX10_tray_24 (by decide) (fun c23 => ?_) (fun c23 => ?_)
      · replace hf := ite_t hf c23
        refine r_iload_n K 3 dX10_tray_31 rfl ?_
        refine r_if_ge (tgt := 40) K dX10_tray_32 (by decide) (fun c5 => ?_) (fun c5 => ?_)
        · replace hf := ite_t hf c5
          refine r_bipush (v := (-2 : Int32)) K dX10_tray_40 (by decide) ?_
          exact r_iret K dX10_tray_42 hf (Nat.le_of_ble_eq_true rfl) (Nat.le_of_ble_eq_true rfl)
        · replace hf := ite_f hf c5
          refine r_bipush (v := (-14 : Int32)) K dX10_tray_35 (by decide) ?_
          refine r_goto (tgt := 42) K dX10_tray_37 (by decide) ?_
          exact r_iret K dX10_tray_42 hf (Nat.le_of_ble_eq_true rfl) (Nat.le_of_ble_eq_true rfl)
      · replace hf := ite_f hf c23
        refine r_iload_n K 3 dX10_tray_27 rfl ?_
        refine r_if_ge (tgt := 43) K dX10_tray_28 (by decide) (fun c22 => ?_) (fun c22 => ?_)
        · replace hf := ite_t hf c22
          refine r_aload_n K 0 dX10_tray_43 rfl ?_
          obtain ⟨b6, e7, hf⟩ := ob1_s hf
          refine r_getR (ci := 10) (k := 27) K dX10_tray_44 inX10 rfl (by decide) rfl q_933 e7 ?_
          refine r_iload_n K 1 dX10_tray_47 rfl ?_
          refine r_iload_n K 2 dX10_tray_48 rfl ?_
          obtain ⟨g8, e9, hf⟩ := ob1_s hf
          refine r_iastore K dX10_tray_49 e9 ?_
          refine r_aload_n K 0 dX10_tray_50 rfl ?_
          obtain ⟨b10, e11, hf⟩ := ob1_s hf
          refine r_getR (ci := 10) (k := 28) K dX10_tray_51 inX10 rfl (by decide) rfl q_934 e11 ?_
          refine r_iload_n K 1 dX10_tray_54 rfl ?_
          refine r_iload_n K 3 dX10_tray_55 rfl ?_
          obtain ⟨g12, e13, hf⟩ := ob1_s hf
          refine r_iastore K dX10_tray_56 e13 ?_
          refine r_iconst (v := (0 : Int32)) K dX10_tray_57 (by decide) ?_
          refine r_istore (lv1 := [(4, .int (0 : Int32)), (0, .ref a0), (1, .int x1), (2, .int x2), (3, .int x3)]) K dX10_tray_58 (by decide) rfl ?_
          refine r_lv [1, 2, 0] rfl ?_
          refine wX10_tray_L60 K ht _ (fun g20 hf => ?_) lf (0 : Int32) g12 hf
          refine r_iconst (v := (1 : Int32)) K dX10_tray_86 (by decide) ?_
          exact r_iret K dX10_tray_87 hf (Nat.le_of_ble_eq_true rfl) (Nat.le_of_ble_eq_true rfl)
        · replace hf := ite_f hf c22
          refine r_iload_n K 3 dX10_tray_31 rfl ?_
          refine r_if_ge (tgt := 40) K dX10_tray_32 (by decide) (fun c21 => ?_) (fun c21 => ?_)
          · replace hf := ite_t hf c21
            refine r_bipush (v := (-2 : Int32)) K dX10_tray_40 (by decide) ?_
            exact r_iret K dX10_tray_42 hf (Nat.le_of_ble_eq_true rfl) (Nat.le_of_ble_eq_true rfl)
          · replace hf := ite_f hf c21
            refine r_bipush (v := (-14 : Int32)) K dX10_tray_35 (by decide) ?_
            refine r_goto (tgt := 42) K dX10_tray_37 (by decide) ?_
            exact r_iret K dX10_tray_42 hf (Nat.le_of_ble_eq_true rfl) (Nat.le_of_ble_eq_true rfl)
    · replace hf := ite_t hf c24
      refine r_iconst (v := (-1 : Int32)) K dX10_tray_19 (by decide) ?_
      exact r_iret K dX10_tray_20 hf (Nat.le_of_ble_eq_true rfl) (Nat.le_of_ble_eq_true rfl)
theorem ceX10_lays : CE yX10_lays 3 := ⟨by decide, by decide, by decide +kernel⟩
abbrev rmX10_lays : Room := { frames := 2, cells := 0, slots := 0, locals := 46 }
def fX10_lays_L106 (a0 : Nat) (x3 : Int32) (x4 : Int32) (k : AH → Option (Int32 × AH)) : Nat → Int32 → AH → Option (Int32 × AH)
  | 0, _, _ => none
  | n + 1, x5, h =>
    if (5 : Int32) ≤ x5 then
      k h
    else
      if x3 < (0 : Int32) then
        k h
      else
        ob1 (gR h a0 10 30) fun b22 =>
        ob1 (fX10_ofRoad a0 x3 ((2 : Int32) + x5) h) fun r24 =>
        ob1 (sL h b22 (((5 : Int32) * x4) + x5) r24) fun g26 =>
        bnd (x5 + (1 : Int32)) fun y28 =>
        fX10_lays_L106 a0 x3 x4 k n y28 g26
def fX10_lays (a0 : Nat) (x1 : Int32) (x2 : Int32) (x3 : Int32) (h : AH) : Option (Int32 × AH) :=
  ob1 (fX10_isTray x1) fun r1 =>
  if r1 = (0 : Int32) then
    some ((-1 : Int32), h)
  else
    bnd (
      ob1 (gR h a0 10 27) fun b4 =>
      ob1 (aI h b4 0 x1) fun v6 =>
      if (0 : Int32) ≤ v6 then
        ob1 (gR h a0 10 28) fun b8 =>
        ob1 (aI h b8 0 x1) fun v10 =>
        ob1 (fX10_in (Int32.toInt64 x2) (0 : Int64) (Int32.toInt64 (v10 - (1 : Int32)))) fun r12 =>
        if r12 = (0 : Int32) then
          some ((-13 : Int32), h)
        else
          bnd (
            bnd (((20 : Int32) * x1) + x2) fun y15 =>
            ob1 (gR h a0 10 29) fun b16 =>
            bnd (fun (v19 : Int32) =>
              ob1 (sZ h b16 y15 v19) fun g20 =>
              fX10_lays_L106 a0 x3 y15 (fun (g31 : AH) =>
                some ((1 : Int32), g31)
              ) lf (0 : Int32) g20
            ) fun j18 =>
            if x3 < (0 : Int32) then
              j18 (0 : Int32)
            else
              j18 (1 : Int32)
          ) fun j14 =>
          if x3 < (0 : Int32) then
            j14
          else
            ob1 (fX10_ofRoad a0 x3 (2 : Int32) h) fun r33 =>
            ob1 (gR h a0 10 27) fun b35 =>
            ob1 (aI h b35 0 x1) fun v37 =>
            if (Int32.toInt64 v37) ≤ r33 then
              j14
            else
              some ((-16 : Int32), h)
      else
        some ((-11 : Int32), h)
    ) fun j3 =>
    if x3 = (-1 : Int32) then
      j3
    else
      ob1 (fX10_isRoad a0 x3 h) fun r43 =>
      if r43 = (0 : Int32) then
        some ((-1 : Int32), h)
      else
        j3
set_option maxHeartbeats 4000000 in
set_option maxRecDepth 100000 in
theorem wX10_lays_L106 {p : Program} {l : Launch} {e : Env} {s : State} {m : MethodId} {args : Array Value} {below : List Frame} {meth : Method} {c : Code} {G : GG} {b0 : Nat} {h0 : AH} {a0 : Nat} {x3 : Int32} {x4 : Int32} {rr : Int32} {hh : AH} (K : CX p s m args meth c cX10_lays 6 RX10 (some .int) G b0) (ht : isO h0 a0 10) (k : AH → Option (Int32 × AH)) (hk : ∀ (h : AH), k h = some (rr, hh) → WA p l e rmX10_lays s m args below meth c (MQ below (QG G b0 h0 (some (.int rr)) hh) args s (rmX10_lays).cells (rmX10_lays).slots (AB b0)) G b0 6 h0 0 0 h 143 [] []) : ∀ (n : Nat) (x5 : Int32) (h : AH), fX10_lays_L106 a0 x3 x4 k n x5 h = some (rr, hh) → WA p l e rmX10_lays s m args below meth c (MQ below (QG G b0 h0 (some (.int rr)) hh) args s (rmX10_lays).cells (rmX10_lays).slots (AB b0)) G b0 6 h0 0 0 h 106 [(0, .ref a0), (3, .int x3), (4, .int x4), (5, .int x5)] [] := by
  intro n
  induction n with
  | zero =>
    intro x5 h hf
    rw [fX10_lays_L106] at hf
    cases hf
  | succ n ih =>
    intro x5 h hf
    rw [fX10_lays_L106] at hf
    refine r_iload K 3 dX10_lays_106 rfl ?_
    refine r_iconst (v := (5 : Int32)) K dX10_lays_108 (by decide) ?_
    refine r_icmp_ge (tgt := 143) K dX10_lays_109 (by decide) (fun c30 => ?_) (fun c30 => ?_)
    · replace hf := ite_t hf c30
      refine r_lv [] rfl ?_
      exact hk h hf
    · replace hf := ite_f hf c30
      refine r_iload_n K 1 dX10_lays_112 rfl ?_
      refine r_if_lt (tgt := 143) K dX10_lays_113 (by decide) (fun c29 => ?_) (fun c29 => ?_)
      · replace hf := ite_t hf c29
        refine r_lv [] rfl ?_
        exact hk h hf
      · replace hf := ite_f hf c29
        refine r_aload_n K 0 dX10_lays_116 rfl ?_
        obtain ⟨b22, e23, hf⟩ := ob1_s hf
        refine r_getR (ci := 10) (k := 30) K dX10_lays_117 inX10 rfl (by decide) rfl q_936 e23 ?_
        refine r_iconst (v := (5 : Int32)) K dX10_lays_120 (by decide) ?_
        refine r_iload K 2 dX10_lays_121 rfl ?_
        refine r_imul K dX10_lays_123 ?_
        refine r_iload K 3 dX10_lays_124 rfl ?_
        refine r_iadd K dX10_lays_126 ?_
        refine r_aload_n K 0 dX10_lays_127 rfl ?_
        refine r_iload_n K 1 dX10_lays_128 rfl ?_
        refine r_iconst (v := (2 : Int32)) K dX10_lays_129 (by decide) ?_
        refine r_iload K 3 dX10_lays_130 rfl ?_
        refine r_iadd K dX10_lays_132 ?_
        obtain ⟨r24, e25, hf⟩ := ob1_s hf
        refine r_callV (As := [.int x3, .int ((2 : Int32) + x5)]) (rest := [.int (((5 : Int32) * x4) + x5), .ref b22]) (st1 := [.long r24, .int (((5 : Int32) * x4) + x5), .ref b22]) (cells1 := 0) (slots1 := 0) (b := a0) (ci := 10) K (fun z => mX10_ofRoad l z e25) dX10_lays_133 rfl (fun z => z _ _ ht) rfl ceX10_ofRoad q_1051 q_1053 q_36 q_85 q_1054 ⟨Nat.le_of_ble_eq_true rfl, Nat.le_of_ble_eq_true rfl⟩ (Nat.le_of_ble_eq_true rfl) ⟨Nat.le_of_ble_eq_true rfl, Nat.le_of_ble_eq_true rfl⟩ ?_ rfl rfl rfl rfl
        obtain ⟨g26, e27, hf⟩ := ob1_s hf
        refine r_lastore K dX10_lays_136 e27 ?_
        obtain ⟨y28, ey28, hf⟩ := bnd_g hf
        refine r_iinc (lv1 := [(5, .int y28), (0, .ref a0), (3, .int x3), (4, .int x4)]) K 3 dX10_lays_137 rfl (by rw [ey28]; rfl) (by decide) rfl ?_
        refine r_goto (tgt := 106) K dX10_lays_140 (by decide) ?_
        refine r_lv [1, 2, 3, 0] rfl ?_
        exact ih y28 g26 hf
set_option maxHeartbeats 4000000 in
set_option maxRecDepth 100000 in
theorem mX10_lays (l : Launch) {G : GG} {b0 : Nat} {h : AH} {a0 : Nat} {x1 : Int32} {x2 : Int32} {x3 : Int32} {rr : Int32} {hh : AH} (ht : isO h a0 10) (hf : fX10_lays a0 x1 x2 x3 h = some (rr, hh)) : MM l yX10_lays cX10_lays 6 (some .int) rmX10_lays G b0 h [.ref a0, .int x1, .int x2, .int x3] (some (.int rr)) hh := by
  refine MM.of (own := RX10) (lv0 := [(0, .ref a0), (1, .int x1), (2, .int x2), (3, .int x3)]) (by decide) rfl (Nat.le_of_ble_eq_true rfl) rfl ?_
  intro p e s m args below meth c K hnm
  unfold fX10_lays at hf
  refine r_iload_n K 1 dX10_lays_0 rfl ?_
  obtain ⟨r1, e2, hf⟩ := ob1_s hf
  refine r_callS (As := [.int x1]) (rest := []) (st1 := [.int r1]) (cells1 := 0) (slots1 := 0) K (mX10_isTray l e2) dX10_lays_1 ceX10_isTray q_1380 q_1381 q_85 q_1382 ⟨Nat.le_of_ble_eq_true rfl, Nat.le_of_ble_eq_true rfl⟩ (Nat.le_of_ble_eq_true rfl) ⟨Nat.le_of_ble_eq_true rfl, Nat.le_of_ble_eq_true rfl⟩ ?_ rfl rfl rfl rfl
  refine r_if_eq (tgt := 20) K dX10_lays_4 (by decide) (fun c47 => ?_) (fun c47 => ?_)
  · replace hf := ite_t hf c47
    refine r_iconst (v := (-1 : Int32)) K dX10_lays_20 (by decide) ?_
    exact r_iret K dX10_lays_21 hf (Nat.le_of_ble_eq_true rfl) (Nat.le_of_ble_eq_true rfl)
  · replace hf := ite_f hf c47
    refine r_iload_n K 3 dX10_lays_7 rfl ?_
    refine r_iconst (v := (-1 : Int32)) K dX10_lays_8 (by decide) ?_
    obtain ⟨j3, ej3, hf⟩ := bnd_g hf
    have Jj3 : j3 = some (rr, hh) → WA p l e rmX10_lays s m args below meth c (MQ below (QG G b0 h (some (.int rr)) hh) args s (rmX10_lays).cells (rmX10_lays).slots (AB b0)) G b0 6 h 0 0 h 22 [(0, .ref a0), (1, .int x1), (2, .int x2), (3, .int x3)] [] := by
      intro  hf
      rw [ej3] at hf
      refine r_aload_n K 0 dX10_lays_22 rfl ?_
      obtain ⟨b4, e5, hf⟩ := ob1_s hf
      refine r_getR (ci := 10) (k := 27) K dX10_lays_23 inX10 rfl (by decide) rfl q_933 e5 ?_
      refine r_iload_n K 1 dX10_lays_26 rfl ?_
      obtain ⟨v6, e7, hf⟩ := ob1_s hf
      refine r_iaload K dX10_lays_27 e7 ?_
      refine r_if_ge (tgt := 34) K dX10_lays_28 (by decide) (fun c42 => ?_) (fun c42 => ?_)
      · replace hf := ite_t hf c42
        refine r_iload_n K 2 dX10_lays_34 rfl ?_
        refine r_i2l K dX10_lays_35 ?_
        refine r_lconst (v := (0 : Int64)) K dX10_lays_36 (by decide) ?_
        refine r_aload_n K 0 dX10_lays_37 rfl ?_
        obtain ⟨b8, e9, hf⟩ := ob1_s hf
        refine r_getR (ci := 10) (k := 28) K dX10_lays_38 inX10 rfl (by decide) rfl q_934 e9 ?_
        refine r_iload_n K 1 dX10_lays_41 rfl ?_
        obtain ⟨v10, e11, hf⟩ := ob1_s hf
        refine r_iaload K dX10_lays_42 e11 ?_
        refine r_iconst (v := (1 : Int32)) K dX10_lays_43 (by decide) ?_
        refine r_isub K dX10_lays_44 ?_
        refine r_i2l K dX10_lays_45 ?_
        obtain ⟨r12, e13, hf⟩ := ob1_s hf
        refine r_callS (As := [.long (Int32.toInt64 x2), .long (0 : Int64), .long (Int32.toInt64 (v10 - (1 : Int32)))]) (rest := []) (st1 := [.int r12]) (cells1 := 0) (slots1 := 0) K (mX10_in l e13) dX10_lays_46 ceX10_in q_1005 q_1006 q_85 q_1007 ⟨Nat.le_of_ble_eq_true rfl, Nat.le_of_ble_eq_true rfl⟩ (Nat.le_of_ble_eq_true rfl) ⟨Nat.le_of_ble_eq_true rfl, Nat.le_of_ble_eq_true rfl⟩ ?_ rfl rfl rfl rfl
        refine r_if_ne (tgt := 55) K dX10_lays_49 (by decide) (fun c41 => ?_) (fun c41 => ?_)
        · replace hf := ite_f hf c41
          refine r_iload_n K 3 dX10_lays_55 rfl ?_
          obtain ⟨j14, ej14, hf⟩ := bnd_g hf
          have Jj14 : j14 = some (rr, hh) → WA p l e rmX10_lays s m args below meth c (MQ below (QG G b0 h (some (.int rr)) hh) args s (rmX10_lays).cells (rmX10_lays).slots (AB b0)) G b0 6 h 0 0 h 79 [(0, .ref a0), (1, .int x1), (2, .int x2), (3, .int x3)] [] := by
            intro  hf
            rw [ej14] at hf
            refine r_bipush (v := (20 : Int32)) K dX10_lays_79 (by decide) ?_
            refine r_iload_n K 1 dX10_lays_81 rfl ?_
            refine r_imul K dX10_lays_82 ?_
            refine r_iload_n K 2 dX10_lays_83 rfl ?_
            refine r_iadd K dX10_lays_84 ?_
            obtain ⟨y15, ey15, hf⟩ := bnd_g hf
            refine r_nmi ey15 ?_
            refine r_istore (lv1 := [(4, .int y15), (0, .ref a0), (1, .int x1), (2, .int x2), (3, .int x3)]) K dX10_lays_85 (by decide) rfl ?_
            refine r_aload_n K 1 dX10_lays_87 rfl ?_
            obtain ⟨b16, e17, hf⟩ := ob1_s hf
            refine r_getR (ci := 10) (k := 29) K dX10_lays_88 inX10 rfl (by decide) rfl q_935 e17 ?_
            refine r_iload K 0 dX10_lays_91 rfl ?_
            refine r_iload_n K 4 dX10_lays_93 rfl ?_
            obtain ⟨j18, ej18, hf⟩ := bnd_g hf
            have Jj18 : ∀ (v19 : Int32), j18 v19 = some (rr, hh) → WA p l e rmX10_lays s m args below meth c (MQ below (QG G b0 h (some (.int rr)) hh) args s (rmX10_lays).cells (rmX10_lays).slots (AB b0)) G b0 6 h 0 0 h 102 [(0, .ref a0), (3, .int x3), (4, .int y15)] [.int v19, .int y15, .ref b16] := by
              intro v19 hf
              rw [ej18] at hf
              obtain ⟨g20, e21, hf⟩ := ob1_s hf
              refine r_zastore K dX10_lays_102 e21 ?_
              refine r_iconst (v := (0 : Int32)) K dX10_lays_103 (by decide) ?_
              refine r_istore (lv1 := [(5, .int (0 : Int32)), (0, .ref a0), (3, .int x3), (4, .int y15)]) K dX10_lays_104 (by decide) rfl ?_
              refine r_lv [1, 2, 3, 0] rfl ?_
              refine wX10_lays_L106 K ht _ (fun g31 hf => ?_) lf (0 : Int32) g20 hf
              refine r_iconst (v := (1 : Int32)) K dX10_lays_143 (by decide) ?_
              exact r_iret K dX10_lays_144 hf (Nat.le_of_ble_eq_true rfl) (Nat.le_of_ble_eq_true rfl)
            refine r_if_lt (tgt := 101) K dX10_lays_94 (by decide) (fun c32 => ?_) (fun c32 => ?_)
            · replace hf := ite_t hf c32
              refine r_iconst (v := (0 : Int32)) K dX10_lays_101 (by decide) ?_
              refine r_lv [1, 4, 0] rfl ?_
              exact Jj18 (0 : Int32) hf
            · replace hf := ite_f hf c32
              refine r_iconst (v := (1 : Int32)) K dX10_lays_97 (by decide) ?_
              refine r_goto (tgt := 102) K dX10_lays_98 (by decide) ?_
              refine r_lv [1, 4, 0] rfl ?_
              exact Jj18 (1 : Int32) hf
          refine r_if_lt (tgt := 79) K dX10_lays_56 (by decide) (fun c40 => ?_) (fun c40 => ?_)
          · replace hf := ite_t hf c40
            exact Jj14  hf
          · replace hf := ite_f hf c40
            refine r_aload_n K 0 dX10_lays_59 rfl ?_
            refine r_iload_n K 3 dX10_lays_60 rfl ?_
            refine r_iconst (v := (2 : Int32)) K dX10_lays_61 (by decide) ?_
            obtain ⟨r33, e34, hf⟩ := ob1_s hf
            refine r_callV (As := [.int x3, .int (2 : Int32)]) (rest := []) (st1 := [.long r33]) (cells1 := 0) (slots1 := 0) (b := a0) (ci := 10) K (fun z => mX10_ofRoad l z e34) dX10_lays_62 rfl (fun z => z _ _ ht) rfl ceX10_ofRoad q_1051 q_1053 q_36 q_85 q_1054 ⟨Nat.le_of_ble_eq_true rfl, Nat.le_of_ble_eq_true rfl⟩ (Nat.le_of_ble_eq_true rfl) ⟨Nat.le_of_ble_eq_true rfl, Nat.le_of_ble_eq_true rfl⟩ ?_ rfl rfl rfl rfl
            refine r_aload_n K 0 dX10_lays_65 rfl ?_
            obtain ⟨b35, e36, hf⟩ := ob1_s hf
            refine r_getR (ci := 10) (k := 27) K dX10_lays_66 inX10 rfl (by decide) rfl q_933 e36 ?_
            refine r_iload_n K 1 dX10_lays_69 rfl ?_
            obtain ⟨v37, e38, hf⟩ := ob1_s hf
            refine r_iaload K dX10_lays_70 e38 ?_
            refine r_i2l K dX10_lays_71 ?_
            refine r_lif_ge (tgt := 79) K dX10_lays_72 dX10_lays_73 (by decide) (fun c39 => ?_) (fun c39 => ?_)
            · replace hf := ite_t hf c39
              exact Jj14  hf
            · replace hf := ite_f hf c39
              refine r_bipush (v := (-16 : Int32)) K dX10_lays_76 (by decide) ?_
              exact r_iret K dX10_lays_78 hf (Nat.le_of_ble_eq_true rfl) (Nat.le_of_ble_eq_true rfl)
        · replace hf := ite_t hf c41
          refine r_bipush (v := (-13 : Int32)) K dX10_lays_52 (by decide) ?_
          exact r_iret K dX10_lays_54 hf (Nat.le_of_ble_eq_true rfl) (Nat.le_of_ble_eq_true rfl)
      · replace hf := ite_f hf c42
        refine r_bipush (v := (-11 : Int32)) K dX10_lays_31 (by decide) ?_
        exact r_iret K dX10_lays_33 hf (Nat.le_of_ble_eq_true rfl) (Nat.le_of_ble_eq_true rfl)
    refine r_icmp_eq (tgt := 22) K dX10_lays_9 (by decide) (fun c46 => ?_) (fun c46 => ?_)
    · replace hf := ite_t hf c46
      exact Jj3  hf
    · replace hf := ite_f hf c46
      refine r_aload_n K 0 dX10_lays_12 rfl ?_
      refine r_iload_n K 3 dX10_lays_13 rfl ?_
      obtain ⟨r43, e44, hf⟩ := ob1_s hf
      refine r_callV (As := [.int x3]) (rest := []) (st1 := [.int r43]) (cells1 := 0) (slots1 := 0) (b := a0) (ci := 10) K (fun z => mX10_isRoad l z e44) dX10_lays_14 rfl (fun z => z _ _ ht) rfl ceX10_isRoad q_1036 q_1038 q_34 q_85 q_1039 ⟨Nat.le_of_ble_eq_true rfl, Nat.le_of_ble_eq_true rfl⟩ (Nat.le_of_ble_eq_true rfl) ⟨Nat.le_of_ble_eq_true rfl, Nat.le_of_ble_eq_true rfl⟩ ?_ rfl rfl rfl rfl
      refine r_if_ne (tgt := 22) K dX10_lays_17 (by decide) (fun c45 => ?_) (fun c45 => ?_)
      · replace hf := ite_f hf c45
        exact Jj3  hf
      · replace hf := ite_t hf c45
        refine r_iconst (v := (-1 : Int32)) K dX10_lays_20 (by decide) ?_
        exact r_iret K dX10_lays_21 hf (Nat.le_of_ble_eq_true rfl) (Nat.le_of_ble_eq_true rfl)
theorem ceX10_laid : CE yX10_laid 3 := ⟨by decide, by decide, by decide +kernel⟩
abbrev rmX10_laid : Room := { frames := 2, cells := 0, slots := 0, locals := 45 }
def fX10_laid (a0 : Nat) (x1 : Int32) (x2 : Int32) (x3 : Int32) (h : AH) : Option Int64 :=
  ob1 (fX10_isTray x1) fun r1 =>
  if r1 = (0 : Int32) then
    some (-9223372036854775808 : Int64)
  else
    ob1 (fX10_in (Int32.toInt64 x3) (1 : Int64) (36 : Int64)) fun r3 =>
    if r3 = (0 : Int32) then
      some (-9223372036854775808 : Int64)
    else
      ob1 (gR h a0 10 27) fun b5 =>
      ob1 (aI h b5 0 x1) fun v7 =>
      if v7 < (0 : Int32) then
        some (-9223372036854775808 : Int64)
      else
        ob1 (gR h a0 10 28) fun b9 =>
        ob1 (aI h b9 0 x1) fun v11 =>
        ob1 (fX10_in (Int32.toInt64 x2) (0 : Int64) (Int32.toInt64 (v11 - (1 : Int32)))) fun r13 =>
        if r13 = (0 : Int32) then
          some (-9223372036854775808 : Int64)
        else
          ob1 (gR h a0 10 29) fun b15 =>
          ob1 (aI h b15 2 (((20 : Int32) * x1) + x2)) fun v17 =>
          if v17 = (0 : Int32) then
            some (-9223372036854775808 : Int64)
          else
            bnd ((5 : Int32) * (((20 : Int32) * x1) + x2)) fun y19 =>
            ob1 (gR h a0 10 30) fun b20 =>
            ob1 (aL h b20 (y19 + (4 : Int32))) fun v22 =>
            bnd ((Int32.toInt64 x3) - v22) fun y24 =>
            ob1 (gR h a0 10 30) fun b25 =>
            ob1 (aL h b25 (y19 + (1 : Int32))) fun v27 =>
            ob1 (gR h a0 10 30) fun b29 =>
            ob1 (aL h b29 y19) fun v31 =>
            bnd (fun (v34 : Int64) =>
              bnd (v27 + v34) fun y35 =>
              ob1 (gR h a0 10 30) fun b36 =>
              ob1 (aL h b36 y19) fun v38 =>
              if v38 ≤ (1 : Int64) then
                some (y35 + (0 : Int64))
              else
                if y24 ≤ (0 : Int64) then
                  some (y35 + (0 : Int64))
                else
                  ob1 (gR h a0 10 30) fun b40 =>
                  ob1 (aL h b40 (y19 + (3 : Int32))) fun v42 =>
                  some (y35 + (v42 * y24))
            ) fun j33 =>
            if v31 ≤ (0 : Int64) then
              j33 (0 : Int64)
            else
              ob1 (gR h a0 10 30) fun b46 =>
              ob1 (aL h b46 (y19 + (2 : Int32))) fun v48 =>
              j33 (v48 * (Int32.toInt64 x3))
set_option maxHeartbeats 4000000 in
set_option maxRecDepth 100000 in
theorem mX10_laid (l : Launch) {G : GG} {b0 : Nat} {h : AH} {a0 : Nat} {x1 : Int32} {x2 : Int32} {x3 : Int32} {rr : Int64} (ht : isO h a0 10) (hf : fX10_laid a0 x1 x2 x3 h = some rr) : MM l yX10_laid cX10_laid 9 (some .long) rmX10_laid G b0 h [.ref a0, .int x1, .int x2, .int x3] (some (.long rr)) h := by
  refine MM.of (own := RX10) (lv0 := [(0, .ref a0), (1, .int x1), (2, .int x2), (3, .int x3)]) (by decide) rfl (Nat.le_of_ble_eq_true rfl) rfl ?_
  intro p e s m args below meth c K hnm
  unfold fX10_laid at hf
  refine r_iload_n K 1 dX10_laid_0 rfl ?_
  obtain ⟨r1, e2, hf⟩ := ob1_s hf
  refine r_callS (As := [.int x1]) (rest := []) (st1 := [.int r1]) (cells1 := 0) (slots1 := 0) K (mX10_isTray l e2) dX10_laid_1 ceX10_isTray q_1380 q_1381 q_85 q_1382 ⟨Nat.le_of_ble_eq_true rfl, Nat.le_of_ble_eq_true rfl⟩ (Nat.le_of_ble_eq_true rfl) ⟨Nat.le_of_ble_eq_true rfl, Nat.le_of_ble_eq_true rfl⟩ ?_ rfl rfl rfl rfl
  refine r_if_eq (tgt := 60) K dX10_laid_4 (by decide) (fun c55 => ?_) (fun c55 => ?_)
  · replace hf := ite_t hf c55
    refine r_ldc2 K dX10_laid_60 q_1060 ?_
    exact r_lret K dX10_laid_63 (retp hf) (Nat.le_of_ble_eq_true rfl) (Nat.le_of_ble_eq_true rfl)
  · replace hf := ite_f hf c55
    refine r_iload_n K 3 dX10_laid_7 rfl ?_
    refine r_i2l K dX10_laid_8 ?_
    refine r_lconst (v := (1 : Int64)) K dX10_laid_9 (by decide) ?_
    refine r_ldc2 K dX10_laid_10 q_1022 ?_
    obtain ⟨r3, e4, hf⟩ := ob1_s hf
    refine r_callS (As := [.long (Int32.toInt64 x3), .long (1 : Int64), .long (36 : Int64)]) (rest := []) (st1 := [.int r3]) (cells1 := 0) (slots1 := 0) K (mX10_in l e4) dX10_laid_13 ceX10_in q_1005 q_1006 q_85 q_1007 ⟨Nat.le_of_ble_eq_true rfl, Nat.le_of_ble_eq_true rfl⟩ (Nat.le_of_ble_eq_true rfl) ⟨Nat.le_of_ble_eq_true rfl, Nat.le_of_ble_eq_true rfl⟩ ?_ rfl rfl rfl rfl
    refine r_if_eq (tgt := 60) K dX10_laid_16 (by decide) (fun c54 => ?_) (fun c54 => ?_)
    · replace hf := ite_t hf c54
      refine r_ldc2 K dX10_laid_60 q_1060 ?_
      exact r_lret K dX10_laid_63 (retp hf) (Nat.le_of_ble_eq_true rfl) (Nat.le_of_ble_eq_true rfl)
    · replace hf := ite_f hf c54
      refine r_aload_n K 0 dX10_laid_19 rfl ?_
      obtain ⟨b5, e6, hf⟩ := ob1_s hf
      refine r_getR (ci := 10) (k := 27) K dX10_laid_20 inX10 rfl (by decide) rfl q_933 e6 ?_
      refine r_iload_n K 1 dX10_laid_23 rfl ?_
      obtain ⟨v7, e8, hf⟩ := ob1_s hf
      refine r_iaload K dX10_laid_24 e8 ?_
      refine r_if_lt (tgt := 60) K dX10_laid_25 (by decide) (fun c53 => ?_) (fun c53 => ?_)
      · replace hf := ite_t hf c53
        refine r_ldc2 K dX10_laid_60 q_1060 ?_
        exact r_lret K dX10_laid_63 (retp hf) (Nat.le_of_ble_eq_true rfl) (Nat.le_of_ble_eq_true rfl)
      · replace hf := ite_f hf c53
        refine r_iload_n K 2 dX10_laid_28 rfl ?_
        refine r_i2l K dX10_laid_29 ?_
        refine r_lconst (v := (0 : Int64)) K dX10_laid_30 (by decide) ?_
        refine r_aload_n K 0 dX10_laid_31 rfl ?_
        obtain ⟨b9, e10, hf⟩ := ob1_s hf
        refine r_getR (ci := 10) (k := 28) K dX10_laid_32 inX10 rfl (by decide) rfl q_934 e10 ?_
        refine r_iload_n K 1 dX10_laid_35 rfl ?_
        obtain ⟨v11, e12, hf⟩ := ob1_s hf
        refine r_iaload K dX10_laid_36 e12 ?_
        refine r_iconst (v := (1 : Int32)) K dX10_laid_37 (by decide) ?_
        refine r_isub K dX10_laid_38 ?_
        refine r_i2l K dX10_laid_39 ?_
        obtain ⟨r13, e14, hf⟩ := ob1_s hf
        refine r_callS (As := [.long (Int32.toInt64 x2), .long (0 : Int64), .long (Int32.toInt64 (v11 - (1 : Int32)))]) (rest := []) (st1 := [.int r13]) (cells1 := 0) (slots1 := 0) K (mX10_in l e14) dX10_laid_40 ceX10_in q_1005 q_1006 q_85 q_1007 ⟨Nat.le_of_ble_eq_true rfl, Nat.le_of_ble_eq_true rfl⟩ (Nat.le_of_ble_eq_true rfl) ⟨Nat.le_of_ble_eq_true rfl, Nat.le_of_ble_eq_true rfl⟩ ?_ rfl rfl rfl rfl
        refine r_if_eq (tgt := 60) K dX10_laid_43 (by decide) (fun c52 => ?_) (fun c52 => ?_)
        · replace hf := ite_t hf c52
          refine r_ldc2 K dX10_laid_60 q_1060 ?_
          exact r_lret K dX10_laid_63 (retp hf) (Nat.le_of_ble_eq_true rfl) (Nat.le_of_ble_eq_true rfl)
        · replace hf := ite_f hf c52
          refine r_aload_n K 0 dX10_laid_46 rfl ?_
          obtain ⟨b15, e16, hf⟩ := ob1_s hf
          refine r_getR (ci := 10) (k := 29) K dX10_laid_47 inX10 rfl (by decide) rfl q_935 e16 ?_
          refine r_bipush (v := (20 : Int32)) K dX10_laid_50 (by decide) ?_
          refine r_iload_n K 1 dX10_laid_52 rfl ?_
          refine r_imul K dX10_laid_53 ?_
          refine r_iload_n K 2 dX10_laid_54 rfl ?_
          refine r_iadd K dX10_laid_55 ?_
          obtain ⟨v17, e18, hf⟩ := ob1_s hf
          refine r_zaload K dX10_laid_56 e18 ?_
          refine r_if_ne (tgt := 64) K dX10_laid_57 (by decide) (fun c51 => ?_) (fun c51 => ?_)
          · replace hf := ite_f hf c51
            refine r_iconst (v := (5 : Int32)) K dX10_laid_64 (by decide) ?_
            refine r_bipush (v := (20 : Int32)) K dX10_laid_65 (by decide) ?_
            refine r_iload_n K 1 dX10_laid_67 rfl ?_
            refine r_imul K dX10_laid_68 ?_
            refine r_iload_n K 2 dX10_laid_69 rfl ?_
            refine r_iadd K dX10_laid_70 ?_
            refine r_imul K dX10_laid_71 ?_
            obtain ⟨y19, ey19, hf⟩ := bnd_g hf
            refine r_nmi ey19 ?_
            refine r_istore (lv1 := [(4, .int y19), (0, .ref a0), (1, .int x1), (2, .int x2), (3, .int x3)]) K dX10_laid_72 (by decide) rfl ?_
            refine r_iload_n K 4 dX10_laid_74 rfl ?_
            refine r_i2l K dX10_laid_75 ?_
            refine r_aload_n K 1 dX10_laid_76 rfl ?_
            obtain ⟨b20, e21, hf⟩ := ob1_s hf
            refine r_getR (ci := 10) (k := 30) K dX10_laid_77 inX10 rfl (by decide) rfl q_936 e21 ?_
            refine r_iload K 0 dX10_laid_80 rfl ?_
            refine r_iconst (v := (4 : Int32)) K dX10_laid_82 (by decide) ?_
            refine r_iadd K dX10_laid_83 ?_
            obtain ⟨v22, e23, hf⟩ := ob1_s hf
            refine r_laload K dX10_laid_84 e23 ?_
            refine r_lsub K dX10_laid_85 ?_
            obtain ⟨y24, ey24, hf⟩ := bnd_g hf
            refine r_nml ey24 ?_
            refine r_lstore (lv1 := [(5, .long y24), (4, .int y19), (0, .ref a0), (1, .int x1), (2, .int x2), (3, .int x3)]) K dX10_laid_86 (by decide) rfl ?_
            refine r_aload_n K 2 dX10_laid_88 rfl ?_
            obtain ⟨b25, e26, hf⟩ := ob1_s hf
            refine r_getR (ci := 10) (k := 30) K dX10_laid_89 inX10 rfl (by decide) rfl q_936 e26 ?_
            refine r_iload K 1 dX10_laid_92 rfl ?_
            refine r_iconst (v := (1 : Int32)) K dX10_laid_94 (by decide) ?_
            refine r_iadd K dX10_laid_95 ?_
            obtain ⟨v27, e28, hf⟩ := ob1_s hf
            refine r_laload K dX10_laid_96 e28 ?_
            refine r_aload_n K 2 dX10_laid_97 rfl ?_
            obtain ⟨b29, e30, hf⟩ := ob1_s hf
            refine r_getR (ci := 10) (k := 30) K dX10_laid_98 inX10 rfl (by decide) rfl q_936 e30 ?_
            refine r_iload K 1 dX10_laid_101 rfl ?_
            obtain ⟨v31, e32, hf⟩ := ob1_s hf
            refine r_laload K dX10_laid_103 e32 ?_
            refine r_lconst (v := (0 : Int64)) K dX10_laid_104 (by decide) ?_
            obtain ⟨j33, ej33, hf⟩ := bnd_g hf
            have Jj33 : ∀ (v34 : Int64), j33 v34 = some rr → WA p l e rmX10_laid s m args below meth c (MQ below (QG G b0 h (some (.long rr)) h) args s (rmX10_laid).cells (rmX10_laid).slots (AB b0)) G b0 9 h 0 0 h 125 [(0, .ref a0), (4, .int y19), (5, .long y24)] [.long v34, .long v27] := by
              intro v34 hf
              rw [ej33] at hf
              refine r_ladd K dX10_laid_125 ?_
              obtain ⟨y35, ey35, hf⟩ := bnd_g hf
              refine r_nml ey35 ?_
              refine r_lstore (lv1 := [(7, .long y35), (0, .ref a0), (4, .int y19), (5, .long y24)]) K dX10_laid_126 (by decide) rfl ?_
              refine r_lload K 0 dX10_laid_128 rfl ?_
              refine r_aload_n K 1 dX10_laid_130 rfl ?_
              obtain ⟨b36, e37, hf⟩ := ob1_s hf
              refine r_getR (ci := 10) (k := 30) K dX10_laid_131 inX10 rfl (by decide) rfl q_936 e37 ?_
              refine r_iload K 2 dX10_laid_134 rfl ?_
              obtain ⟨v38, e39, hf⟩ := ob1_s hf
              refine r_laload K dX10_laid_136 e39 ?_
              refine r_lconst (v := (1 : Int64)) K dX10_laid_137 (by decide) ?_
              refine r_lif_le (tgt := 164) K dX10_laid_138 dX10_laid_139 (by decide) (fun c45 => ?_) (fun c45 => ?_)
              · replace hf := ite_t hf c45
                refine r_lconst (v := (0 : Int64)) K dX10_laid_164 (by decide) ?_
                refine r_ladd K dX10_laid_165 ?_
                exact r_lret K dX10_laid_166 (retp hf) (Nat.le_of_ble_eq_true rfl) (Nat.le_of_ble_eq_true rfl)
              · replace hf := ite_f hf c45
                refine r_lload K 3 dX10_laid_142 rfl ?_
                refine r_lconst (v := (0 : Int64)) K dX10_laid_144 (by decide) ?_
                refine r_lif_le (tgt := 164) K dX10_laid_145 dX10_laid_146 (by decide) (fun c44 => ?_) (fun c44 => ?_)
                · replace hf := ite_t hf c44
                  refine r_lconst (v := (0 : Int64)) K dX10_laid_164 (by decide) ?_
                  refine r_ladd K dX10_laid_165 ?_
                  exact r_lret K dX10_laid_166 (retp hf) (Nat.le_of_ble_eq_true rfl) (Nat.le_of_ble_eq_true rfl)
                · replace hf := ite_f hf c44
                  refine r_aload_n K 1 dX10_laid_149 rfl ?_
                  obtain ⟨b40, e41, hf⟩ := ob1_s hf
                  refine r_getR (ci := 10) (k := 30) K dX10_laid_150 inX10 rfl (by decide) rfl q_936 e41 ?_
                  refine r_iload K 2 dX10_laid_153 rfl ?_
                  refine r_iconst (v := (3 : Int32)) K dX10_laid_155 (by decide) ?_
                  refine r_iadd K dX10_laid_156 ?_
                  obtain ⟨v42, e43, hf⟩ := ob1_s hf
                  refine r_laload K dX10_laid_157 e43 ?_
                  refine r_lload K 3 dX10_laid_158 rfl ?_
                  refine r_lmul K dX10_laid_160 ?_
                  refine r_goto (tgt := 165) K dX10_laid_161 (by decide) ?_
                  refine r_ladd K dX10_laid_165 ?_
                  exact r_lret K dX10_laid_166 (retp hf) (Nat.le_of_ble_eq_true rfl) (Nat.le_of_ble_eq_true rfl)
            refine r_lif_le (tgt := 124) K dX10_laid_105 dX10_laid_106 (by decide) (fun c50 => ?_) (fun c50 => ?_)
            · replace hf := ite_t hf c50
              refine r_lconst (v := (0 : Int64)) K dX10_laid_124 (by decide) ?_
              refine r_lv [2, 1, 0] rfl ?_
              exact Jj33 (0 : Int64) hf
            · replace hf := ite_f hf c50
              refine r_aload_n K 2 dX10_laid_109 rfl ?_
              obtain ⟨b46, e47, hf⟩ := ob1_s hf
              refine r_getR (ci := 10) (k := 30) K dX10_laid_110 inX10 rfl (by decide) rfl q_936 e47 ?_
              refine r_iload K 1 dX10_laid_113 rfl ?_
              refine r_iconst (v := (2 : Int32)) K dX10_laid_115 (by decide) ?_
              refine r_iadd K dX10_laid_116 ?_
              obtain ⟨v48, e49, hf⟩ := ob1_s hf
              refine r_laload K dX10_laid_117 e49 ?_
              refine r_iload_n K 5 dX10_laid_118 rfl ?_
              refine r_i2l K dX10_laid_119 ?_
              refine r_lmul K dX10_laid_120 ?_
              refine r_goto (tgt := 125) K dX10_laid_121 (by decide) ?_
              refine r_lv [2, 1, 0] rfl ?_
              exact Jj33 (v48 * (Int32.toInt64 x3)) hf
          · replace hf := ite_t hf c51
            refine r_ldc2 K dX10_laid_60 q_1060 ?_
            exact r_lret K dX10_laid_63 (retp hf) (Nat.le_of_ble_eq_true rfl) (Nat.le_of_ble_eq_true rfl)
theorem ceX10_like : CE yX10_like 2 := ⟨by decide, by decide, by decide +kernel⟩
abbrev rmX10_like : Room := { frames := 2, cells := 0, slots := 0, locals := 45 }
def fX10_like_L54 (a0 : Nat) (x1 : Int32) (x2 : Int32) (k : AH → Option (Int32 × AH)) : Nat → Int32 → AH → Option (Int32 × AH)
  | 0, _, _ => none
  | n + 1, x3, h =>
    if (20 : Int32) ≤ x3 then
      k h
    else
      ob1 (gR h a0 10 29) fun b25 =>
      ob1 (gR h a0 10 29) fun b27 =>
      ob1 (aI h b27 2 (((20 : Int32) * x2) + x3)) fun v29 =>
      ob1 (sZ h b25 (((20 : Int32) * x1) + x3) v29) fun g31 =>
      bnd (x3 + (1 : Int32)) fun y33 =>
      fX10_like_L54 a0 x1 x2 k n y33 g31
def fX10_like_L90 (a0 : Nat) (x1 : Int32) (x2 : Int32) (k : AH → Option (Int32 × AH)) : Nat → Int32 → AH → Option (Int32 × AH)
  | 0, _, _ => none
  | n + 1, x3, h =>
    if (100 : Int32) ≤ x3 then
      k h
    else
      ob1 (gR h a0 10 30) fun b36 =>
      ob1 (gR h a0 10 30) fun b38 =>
      ob1 (aL h b38 (((100 : Int32) * x2) + x3)) fun v40 =>
      ob1 (sL h b36 (((100 : Int32) * x1) + x3) v40) fun g42 =>
      bnd (x3 + (1 : Int32)) fun y44 =>
      fX10_like_L90 a0 x1 x2 k n y44 g42
def fX10_like (a0 : Nat) (x1 : Int32) (x2 : Int32) (h : AH) : Option (Int32 × AH) :=
  ob1 (fX10_isTray x1) fun r1 =>
  if r1 = (0 : Int32) then
    some ((-1 : Int32), h)
  else
    ob1 (fX10_isTray x2) fun r3 =>
    if r3 = (0 : Int32) then
      some ((-1 : Int32), h)
    else
      ob1 (gR h a0 10 27) fun b5 =>
      ob1 (aI h b5 0 x2) fun v7 =>
      if (0 : Int32) ≤ v7 then
        ob1 (gR h a0 10 27) fun b9 =>
        ob1 (gR h a0 10 27) fun b11 =>
        ob1 (aI h b11 0 x2) fun v13 =>
        ob1 (sI h b9 x1 v13) fun g15 =>
        ob1 (gR g15 a0 10 28) fun b17 =>
        ob1 (gR g15 a0 10 28) fun b19 =>
        ob1 (aI g15 b19 0 x2) fun v21 =>
        ob1 (sI g15 b17 x1 v21) fun g23 =>
        fX10_like_L54 a0 x1 x2 (fun (g35 : AH) =>
          fX10_like_L90 a0 x1 x2 (fun (g46 : AH) =>
            ob1 (gR g46 a0 10 28) fun b47 =>
            ob1 (aI g46 b47 0 x1) fun v49 =>
            some (v49, g46)
          ) lf (0 : Int32) g35
        ) lf (0 : Int32) g23
      else
        some ((-11 : Int32), h)
set_option maxHeartbeats 4000000 in
set_option maxRecDepth 100000 in
theorem wX10_like_L54 {p : Program} {l : Launch} {e : Env} {s : State} {m : MethodId} {args : Array Value} {below : List Frame} {meth : Method} {c : Code} {G : GG} {b0 : Nat} {h0 : AH} {a0 : Nat} {x1 : Int32} {x2 : Int32} {rr : Int32} {hh : AH} (K : CX p s m args meth c cX10_like 4 RX10 (some .int) G b0) (ht : isO h0 a0 10) (k : AH → Option (Int32 × AH)) (hk : ∀ (h : AH), k h = some (rr, hh) → WA p l e rmX10_like s m args below meth c (MQ below (QG G b0 h0 (some (.int rr)) hh) args s (rmX10_like).cells (rmX10_like).slots (AB b0)) G b0 4 h0 0 0 h 88 [(0, .ref a0), (1, .int x1), (2, .int x2)] []) : ∀ (n : Nat) (x3 : Int32) (h : AH), fX10_like_L54 a0 x1 x2 k n x3 h = some (rr, hh) → WA p l e rmX10_like s m args below meth c (MQ below (QG G b0 h0 (some (.int rr)) hh) args s (rmX10_like).cells (rmX10_like).slots (AB b0)) G b0 4 h0 0 0 h 54 [(0, .ref a0), (1, .int x1), (2, .int x2), (3, .int x3)] [] := by
  intro n
  induction n with
  | zero =>
    intro x3 h hf
    rw [fX10_like_L54] at hf
    cases hf
  | succ n ih =>
    intro x3 h hf
    rw [fX10_like_L54] at hf
    refine r_iload_n K 3 dX10_like_54 rfl ?_
    refine r_bipush (v := (20 : Int32)) K dX10_like_55 (by decide) ?_
    refine r_icmp_ge (tgt := 88) K dX10_like_57 (by decide) (fun c34 => ?_) (fun c34 => ?_)
    · replace hf := ite_t hf c34
      refine r_lv [0, 1, 2] rfl ?_
      exact hk h hf
    · replace hf := ite_f hf c34
      refine r_aload_n K 0 dX10_like_60 rfl ?_
      obtain ⟨b25, e26, hf⟩ := ob1_s hf
      refine r_getR (ci := 10) (k := 29) K dX10_like_61 inX10 rfl (by decide) rfl q_935 e26 ?_
      refine r_bipush (v := (20 : Int32)) K dX10_like_64 (by decide) ?_
      refine r_iload_n K 1 dX10_like_66 rfl ?_
      refine r_imul K dX10_like_67 ?_
      refine r_iload_n K 3 dX10_like_68 rfl ?_
      refine r_iadd K dX10_like_69 ?_
      refine r_aload_n K 0 dX10_like_70 rfl ?_
      obtain ⟨b27, e28, hf⟩ := ob1_s hf
      refine r_getR (ci := 10) (k := 29) K dX10_like_71 inX10 rfl (by decide) rfl q_935 e28 ?_
      refine r_bipush (v := (20 : Int32)) K dX10_like_74 (by decide) ?_
      refine r_iload_n K 2 dX10_like_76 rfl ?_
      refine r_imul K dX10_like_77 ?_
      refine r_iload_n K 3 dX10_like_78 rfl ?_
      refine r_iadd K dX10_like_79 ?_
      obtain ⟨v29, e30, hf⟩ := ob1_s hf
      refine r_zaload K dX10_like_80 e30 ?_
      obtain ⟨g31, e32, hf⟩ := ob1_s hf
      refine r_zastore K dX10_like_81 e32 ?_
      obtain ⟨y33, ey33, hf⟩ := bnd_g hf
      refine r_iinc (lv1 := [(3, .int y33), (0, .ref a0), (1, .int x1), (2, .int x2)]) K 3 dX10_like_82 rfl (by rw [ey33]; rfl) (by decide) rfl ?_
      refine r_goto (tgt := 54) K dX10_like_85 (by decide) ?_
      refine r_lv [1, 2, 3, 0] rfl ?_
      exact ih y33 g31 hf
set_option maxHeartbeats 4000000 in
set_option maxRecDepth 100000 in
theorem wX10_like_L90 {p : Program} {l : Launch} {e : Env} {s : State} {m : MethodId} {args : Array Value} {below : List Frame} {meth : Method} {c : Code} {G : GG} {b0 : Nat} {h0 : AH} {a0 : Nat} {x1 : Int32} {x2 : Int32} {rr : Int32} {hh : AH} (K : CX p s m args meth c cX10_like 4 RX10 (some .int) G b0) (ht : isO h0 a0 10) (k : AH → Option (Int32 × AH)) (hk : ∀ (h : AH), k h = some (rr, hh) → WA p l e rmX10_like s m args below meth c (MQ below (QG G b0 h0 (some (.int rr)) hh) args s (rmX10_like).cells (rmX10_like).slots (AB b0)) G b0 4 h0 0 0 h 124 [(0, .ref a0), (1, .int x1)] []) : ∀ (n : Nat) (x3 : Int32) (h : AH), fX10_like_L90 a0 x1 x2 k n x3 h = some (rr, hh) → WA p l e rmX10_like s m args below meth c (MQ below (QG G b0 h0 (some (.int rr)) hh) args s (rmX10_like).cells (rmX10_like).slots (AB b0)) G b0 4 h0 0 0 h 90 [(0, .ref a0), (1, .int x1), (2, .int x2), (3, .int x3)] [] := by
  intro n
  induction n with
  | zero =>
    intro x3 h hf
    rw [fX10_like_L90] at hf
    cases hf
  | succ n ih =>
    intro x3 h hf
    rw [fX10_like_L90] at hf
    refine r_iload_n K 3 dX10_like_90 rfl ?_
    refine r_bipush (v := (100 : Int32)) K dX10_like_91 (by decide) ?_
    refine r_icmp_ge (tgt := 124) K dX10_like_93 (by decide) (fun c45 => ?_) (fun c45 => ?_)
    · replace hf := ite_t hf c45
      refine r_lv [0, 1] rfl ?_
      exact hk h hf
    · replace hf := ite_f hf c45
      refine r_aload_n K 0 dX10_like_96 rfl ?_
      obtain ⟨b36, e37, hf⟩ := ob1_s hf
      refine r_getR (ci := 10) (k := 30) K dX10_like_97 inX10 rfl (by decide) rfl q_936 e37 ?_
      refine r_bipush (v := (100 : Int32)) K dX10_like_100 (by decide) ?_
      refine r_iload_n K 1 dX10_like_102 rfl ?_
      refine r_imul K dX10_like_103 ?_
      refine r_iload_n K 3 dX10_like_104 rfl ?_
      refine r_iadd K dX10_like_105 ?_
      refine r_aload_n K 0 dX10_like_106 rfl ?_
      obtain ⟨b38, e39, hf⟩ := ob1_s hf
      refine r_getR (ci := 10) (k := 30) K dX10_like_107 inX10 rfl (by decide) rfl q_936 e39 ?_
      refine r_bipush (v := (100 : Int32)) K dX10_like_110 (by decide) ?_
      refine r_iload_n K 2 dX10_like_112 rfl ?_
      refine r_imul K dX10_like_113 ?_
      refine r_iload_n K 3 dX10_like_114 rfl ?_
      refine r_iadd K dX10_like_115 ?_
      obtain ⟨v40, e41, hf⟩ := ob1_s hf
      refine r_laload K dX10_like_116 e41 ?_
      obtain ⟨g42, e43, hf⟩ := ob1_s hf
      refine r_lastore K dX10_like_117 e43 ?_
      obtain ⟨y44, ey44, hf⟩ := bnd_g hf
      refine r_iinc (lv1 := [(3, .int y44), (0, .ref a0), (1, .int x1), (2, .int x2)]) K 3 dX10_like_118 rfl (by rw [ey44]; rfl) (by decide) rfl ?_
      refine r_goto (tgt := 90) K dX10_like_121 (by decide) ?_
      refine r_lv [1, 2, 3, 0] rfl ?_
      exact ih y44 g42 hf
set_option maxHeartbeats 4000000 in
set_option maxRecDepth 100000 in
theorem mX10_like (l : Launch) {G : GG} {b0 : Nat} {h : AH} {a0 : Nat} {x1 : Int32} {x2 : Int32} {rr : Int32} {hh : AH} (ht : isO h a0 10) (hf : fX10_like a0 x1 x2 h = some (rr, hh)) : MM l yX10_like cX10_like 4 (some .int) rmX10_like G b0 h [.ref a0, .int x1, .int x2] (some (.int rr)) hh := by
  refine MM.of (own := RX10) (lv0 := [(0, .ref a0), (1, .int x1), (2, .int x2)]) (by decide) rfl (Nat.le_of_ble_eq_true rfl) rfl ?_
  intro p e s m args below meth c K hnm
  unfold fX10_like at hf
  refine r_iload_n K 1 dX10_like_0 rfl ?_
  obtain ⟨r1, e2, hf⟩ := ob1_s hf
  refine r_callS (As := [.int x1]) (rest := []) (st1 := [.int r1]) (cells1 := 0) (slots1 := 0) K (mX10_isTray l e2) dX10_like_1 ceX10_isTray q_1380 q_1381 q_85 q_1382 ⟨Nat.le_of_ble_eq_true rfl, Nat.le_of_ble_eq_true rfl⟩ (Nat.le_of_ble_eq_true rfl) ⟨Nat.le_of_ble_eq_true rfl, Nat.le_of_ble_eq_true rfl⟩ ?_ rfl rfl rfl rfl
  refine r_if_eq (tgt := 14) K dX10_like_4 (by decide) (fun c53 => ?_) (fun c53 => ?_)
  · replace hf := ite_t hf c53
    refine r_iconst (v := (-1 : Int32)) K dX10_like_14 (by decide) ?_
    exact r_iret K dX10_like_15 hf (Nat.le_of_ble_eq_true rfl) (Nat.le_of_ble_eq_true rfl)
  · replace hf := ite_f hf c53
    refine r_iload_n K 2 dX10_like_7 rfl ?_
    obtain ⟨r3, e4, hf⟩ := ob1_s hf
    refine r_callS (As := [.int x2]) (rest := []) (st1 := [.int r3]) (cells1 := 0) (slots1 := 0) K (mX10_isTray l e4) dX10_like_8 ceX10_isTray q_1380 q_1381 q_85 q_1382 ⟨Nat.le_of_ble_eq_true rfl, Nat.le_of_ble_eq_true rfl⟩ (Nat.le_of_ble_eq_true rfl) ⟨Nat.le_of_ble_eq_true rfl, Nat.le_of_ble_eq_true rfl⟩ ?_ rfl rfl rfl rfl
    refine r_if_ne (tgt := 16) K dX10_like_11 (by decide) (fun c52 => ?_) (fun c52 => ?_)
    · replace hf := ite_f hf c52
      refine r_aload_n K 0 dX10_like_16 rfl ?_
      obtain ⟨b5, e6, hf⟩ := ob1_s hf
      refine r_getR (ci := 10) (k := 27) K dX10_like_17 inX10 rfl (by decide) rfl q_933 e6 ?_
      refine r_iload_n K 2 dX10_like_20 rfl ?_
      obtain ⟨v7, e8, hf⟩ := ob1_s hf
      refine r_iaload K dX10_like_21 e8 ?_
      refine r_if_ge (tgt := 28) K dX10_like_22 (by decide) (fun c51 => ?_) (fun c51 => ?_)
      · replace hf := ite_t hf c51
        refine r_aload_n K 0 dX10_like_28 rfl ?_
        obtain ⟨b9, e10, hf⟩ := ob1_s hf
        refine r_getR (ci := 10) (k := 27) K dX10_like_29 inX10 rfl (by decide) rfl q_933 e10 ?_
        refine r_iload_n K 1 dX10_like_32 rfl ?_
        refine r_aload_n K 0 dX10_like_33 rfl ?_
        obtain ⟨b11, e12, hf⟩ := ob1_s hf
        refine r_getR (ci := 10) (k := 27) K dX10_like_34 inX10 rfl (by decide) rfl q_933 e12 ?_
        refine r_iload_n K 2 dX10_like_37 rfl ?_
        obtain ⟨v13, e14, hf⟩ := ob1_s hf
        refine r_iaload K dX10_like_38 e14 ?_
        obtain ⟨g15, e16, hf⟩ := ob1_s hf
        refine r_iastore K dX10_like_39 e16 ?_
        refine r_aload_n K 0 dX10_like_40 rfl ?_
        obtain ⟨b17, e18, hf⟩ := ob1_s hf
        refine r_getR (ci := 10) (k := 28) K dX10_like_41 inX10 rfl (by decide) rfl q_934 e18 ?_
        refine r_iload_n K 1 dX10_like_44 rfl ?_
        refine r_aload_n K 0 dX10_like_45 rfl ?_
        obtain ⟨b19, e20, hf⟩ := ob1_s hf
        refine r_getR (ci := 10) (k := 28) K dX10_like_46 inX10 rfl (by decide) rfl q_934 e20 ?_
        refine r_iload_n K 2 dX10_like_49 rfl ?_
        obtain ⟨v21, e22, hf⟩ := ob1_s hf
        refine r_iaload K dX10_like_50 e22 ?_
        obtain ⟨g23, e24, hf⟩ := ob1_s hf
        refine r_iastore K dX10_like_51 e24 ?_
        refine r_iconst (v := (0 : Int32)) K dX10_like_52 (by decide) ?_
        refine r_istore_n (lv1 := [(3, .int (0 : Int32)), (0, .ref a0), (1, .int x1), (2, .int x2)]) K dX10_like_53 (by decide) rfl ?_
        refine r_lv [1, 2, 3, 0] rfl ?_
        refine wX10_like_L54 K ht _ (fun g35 hf => ?_) lf (0 : Int32) g23 hf
        refine r_iconst (v := (0 : Int32)) K dX10_like_88 (by decide) ?_
        refine r_istore_n (lv1 := [(3, .int (0 : Int32)), (0, .ref a0), (1, .int x1), (2, .int x2)]) K dX10_like_89 (by decide) rfl ?_
        refine r_lv [1, 2, 3, 0] rfl ?_
        refine wX10_like_L90 K ht _ (fun g46 hf => ?_) lf (0 : Int32) g35 hf
        refine r_aload_n K 0 dX10_like_124 rfl ?_
        obtain ⟨b47, e48, hf⟩ := ob1_s hf
        refine r_getR (ci := 10) (k := 28) K dX10_like_125 inX10 rfl (by decide) rfl q_934 e48 ?_
        refine r_iload_n K 1 dX10_like_128 rfl ?_
        obtain ⟨v49, e50, hf⟩ := ob1_s hf
        refine r_iaload K dX10_like_129 e50 ?_
        exact r_iret K dX10_like_130 hf (Nat.le_of_ble_eq_true rfl) (Nat.le_of_ble_eq_true rfl)
      · replace hf := ite_f hf c51
        refine r_bipush (v := (-11 : Int32)) K dX10_like_25 (by decide) ?_
        exact r_iret K dX10_like_27 hf (Nat.le_of_ble_eq_true rfl) (Nat.le_of_ble_eq_true rfl)
    · replace hf := ite_t hf c52
      refine r_iconst (v := (-1 : Int32)) K dX10_like_14 (by decide) ?_
      exact r_iret K dX10_like_15 hf (Nat.le_of_ble_eq_true rfl) (Nat.le_of_ble_eq_true rfl)
theorem ceX10_told : CE yX10_told 1 := ⟨by decide, by decide, by decide +kernel⟩
abbrev rmX10_told : Room := { frames := 1, cells := 0, slots := 0, locals := 22 }
def fX10_told_L82 (a0 : Nat) (h : AH) (k : Int64 → Option Int64) : Nat → Int64 → Int32 → Option Int64
  | 0, _, _ => none
  | n + 1, x2, x4 =>
    ob1 (fX10_roadMany a0 h) fun r21 =>
    if r21 ≤ x4 then
      k x2
    else
      ob1 (fX10_ofRoad a0 x4 (7 : Int32) h) fun r23 =>
      bnd (x2 + r23) fun y25 =>
      bnd (x4 + (1 : Int32)) fun y26 =>
      fX10_told_L82 a0 h k n y25 y26
def fX10_told (a0 : Nat) (x1 : Int32) (h : AH) : Option Int64 :=
  if x1 = (0 : Int32) then
    ob1 (gR h a0 10 0) fun b1 =>
    ob1 (aL h b1 (0 : Int32)) fun v3 =>
    some v3
  else
  if x1 = (1 : Int32) then
    ob1 (gR h a0 10 0) fun b6 =>
    ob1 (aL h b6 (1 : Int32)) fun v8 =>
    some v8
  else
  if x1 = (2 : Int32) then
    ob1 (fX10_ofClass a0 (0 : Int32) (1 : Int32) h) fun r11 =>
    ob1 (fX10_ofClass a0 (1 : Int32) (1 : Int32) h) fun r13 =>
    ob1 (fX10_ofClass a0 (2 : Int32) (1 : Int32) h) fun r15 =>
    some ((r11 + r13) + r15)
  else
  if x1 = (3 : Int32) then
    ob1 (gI h a0 10 5) fun v18 =>
    some (Int32.toInt64 v18)
  else
  if x1 = (4 : Int32) then
    fX10_told_L82 a0 h (fun (y28 : Int64) =>
      some y28
    ) lf (0 : Int64) (0 : Int32)
  else
  some (-9223372036854775808 : Int64)
set_option maxHeartbeats 4000000 in
set_option maxRecDepth 100000 in
theorem wX10_told_L82 {p : Program} {l : Launch} {e : Env} {s : State} {m : MethodId} {args : Array Value} {below : List Frame} {meth : Method} {c : Code} {G : GG} {b0 : Nat} {h0 : AH} {a0 : Nat} {h : AH} {rr : Int64} (K : CX p s m args meth c cX10_told 5 RX10 (some .long) G b0) (ht : isO h0 a0 10) (k : Int64 → Option Int64) (hk : ∀ (x2 : Int64), k x2 = some rr → WA p l e rmX10_told s m args below meth c (MQ below (QG G b0 h0 (some (.long rr)) h) args s (rmX10_told).cells (rmX10_told).slots (AB b0)) G b0 5 h0 0 0 h 108 [(2, .long x2)] []) : ∀ (n : Nat) (x2 : Int64) (x4 : Int32), fX10_told_L82 a0 h k n x2 x4 = some rr → WA p l e rmX10_told s m args below meth c (MQ below (QG G b0 h0 (some (.long rr)) h) args s (rmX10_told).cells (rmX10_told).slots (AB b0)) G b0 5 h0 0 0 h 82 [(0, .ref a0), (2, .long x2), (4, .int x4)] [] := by
  intro n
  induction n with
  | zero =>
    intro x2 x4 hf
    rw [fX10_told_L82] at hf
    cases hf
  | succ n ih =>
    intro x2 x4 hf
    rw [fX10_told_L82] at hf
    refine r_iload K 2 dX10_told_82 rfl ?_
    refine r_aload_n K 0 dX10_told_84 rfl ?_
    obtain ⟨r21, e22, hf⟩ := ob1_s hf
    refine r_callV (As := []) (rest := [.int x4]) (st1 := [.int r21, .int x4]) (cells1 := 0) (slots1 := 0) (b := a0) (ci := 10) K (fun z => mX10_roadMany l z e22) dX10_told_85 rfl (fun z => z _ _ ht) rfl ceX10_roadMany q_1028 q_1030 q_33 q_85 q_1031 ⟨Nat.le_of_ble_eq_true rfl, Nat.le_of_ble_eq_true rfl⟩ (Nat.le_of_ble_eq_true rfl) ⟨Nat.le_of_ble_eq_true rfl, Nat.le_of_ble_eq_true rfl⟩ ?_ rfl rfl rfl rfl
    refine r_icmp_ge (tgt := 108) K dX10_told_88 (by decide) (fun c27 => ?_) (fun c27 => ?_)
    · replace hf := ite_t hf c27
      refine r_lv [1] rfl ?_
      exact hk x2 hf
    · replace hf := ite_f hf c27
      refine r_lload_n K 1 dX10_told_91 rfl ?_
      refine r_aload_n K 0 dX10_told_92 rfl ?_
      refine r_iload K 2 dX10_told_93 rfl ?_
      refine r_bipush (v := (7 : Int32)) K dX10_told_95 (by decide) ?_
      obtain ⟨r23, e24, hf⟩ := ob1_s hf
      refine r_callV (As := [.int x4, .int (7 : Int32)]) (rest := [.long x2]) (st1 := [.long r23, .long x2]) (cells1 := 0) (slots1 := 0) (b := a0) (ci := 10) K (fun z => mX10_ofRoad l z e24) dX10_told_97 rfl (fun z => z _ _ ht) rfl ceX10_ofRoad q_1051 q_1053 q_36 q_85 q_1054 ⟨Nat.le_of_ble_eq_true rfl, Nat.le_of_ble_eq_true rfl⟩ (Nat.le_of_ble_eq_true rfl) ⟨Nat.le_of_ble_eq_true rfl, Nat.le_of_ble_eq_true rfl⟩ ?_ rfl rfl rfl rfl
      refine r_ladd K dX10_told_100 ?_
      obtain ⟨y25, ey25, hf⟩ := bnd_g hf
      refine r_nml ey25 ?_
      refine r_lstore_n (lv1 := [(2, .long y25), (0, .ref a0), (4, .int x4)]) K dX10_told_101 (by decide) rfl ?_
      obtain ⟨y26, ey26, hf⟩ := bnd_g hf
      refine r_iinc (lv1 := [(4, .int y26), (2, .long y25), (0, .ref a0)]) K 2 dX10_told_102 rfl (by rw [ey26]; rfl) (by decide) rfl ?_
      refine r_goto (tgt := 82) K dX10_told_105 (by decide) ?_
      refine r_lv [2, 1, 0] rfl ?_
      exact ih y25 y26 hf
set_option maxHeartbeats 4000000 in
set_option maxRecDepth 100000 in
theorem mX10_told (l : Launch) {G : GG} {b0 : Nat} {h : AH} {a0 : Nat} {x1 : Int32} {rr : Int64} (ht : isO h a0 10) (hf : fX10_told a0 x1 h = some rr) : MM l yX10_told cX10_told 5 (some .long) rmX10_told G b0 h [.ref a0, .int x1] (some (.long rr)) h := by
  refine MM.of (own := RX10) (lv0 := [(0, .ref a0), (1, .int x1)]) (by decide) rfl (Nat.le_of_ble_eq_true rfl) rfl ?_
  intro p e s m args below meth c K hnm
  unfold fX10_told at hf
  refine r_iload_n K 1 dX10_told_0 rfl ?_
  by_cases c5 : x1 = (0 : Int32)
  · replace hf := ite_t hf c5
    refine r_tin (v := (0 : Int32)) (tgt := 36) K dX10_told_1 c5 (by decide) (by decide) rfl (by decide) ?_
    refine r_aload_n K 0 dX10_told_36 rfl ?_
    obtain ⟨b1, e2, hf⟩ := ob1_s hf
    refine r_getR (ci := 10) (k := 0) K dX10_told_37 inX10 rfl (by decide) rfl q_906 e2 ?_
    refine r_iconst (v := (0 : Int32)) K dX10_told_40 (by decide) ?_
    obtain ⟨v3, e4, hf⟩ := ob1_s hf
    refine r_laload K dX10_told_41 e4 ?_
    exact r_lret K dX10_told_42 (retp hf) (Nat.le_of_ble_eq_true rfl) (Nat.le_of_ble_eq_true rfl)
  replace hf := ite_f hf c5
  by_cases c10 : x1 = (1 : Int32)
  · replace hf := ite_t hf c10
    refine r_tin (v := (1 : Int32)) (tgt := 43) K dX10_told_1 c10 (by decide) (by decide) rfl (by decide) ?_
    refine r_aload_n K 0 dX10_told_43 rfl ?_
    obtain ⟨b6, e7, hf⟩ := ob1_s hf
    refine r_getR (ci := 10) (k := 0) K dX10_told_44 inX10 rfl (by decide) rfl q_906 e7 ?_
    refine r_iconst (v := (1 : Int32)) K dX10_told_47 (by decide) ?_
    obtain ⟨v8, e9, hf⟩ := ob1_s hf
    refine r_laload K dX10_told_48 e9 ?_
    exact r_lret K dX10_told_49 (retp hf) (Nat.le_of_ble_eq_true rfl) (Nat.le_of_ble_eq_true rfl)
  replace hf := ite_f hf c10
  by_cases c17 : x1 = (2 : Int32)
  · replace hf := ite_t hf c17
    refine r_tin (v := (2 : Int32)) (tgt := 50) K dX10_told_1 c17 (by decide) (by decide) rfl (by decide) ?_
    refine r_aload_n K 0 dX10_told_50 rfl ?_
    refine r_iconst (v := (0 : Int32)) K dX10_told_51 (by decide) ?_
    refine r_iconst (v := (1 : Int32)) K dX10_told_52 (by decide) ?_
    obtain ⟨r11, e12, hf⟩ := ob1_s hf
    refine r_callV (As := [.int (0 : Int32), .int (1 : Int32)]) (rest := []) (st1 := [.long r11]) (cells1 := 0) (slots1 := 0) (b := a0) (ci := 10) K (fun z => mX10_ofClass l z e12) dX10_told_53 rfl (fun z => z _ _ ht) rfl ceX10_ofClass q_1086 q_1088 q_39 q_85 q_1089 ⟨Nat.le_of_ble_eq_true rfl, Nat.le_of_ble_eq_true rfl⟩ (Nat.le_of_ble_eq_true rfl) ⟨Nat.le_of_ble_eq_true rfl, Nat.le_of_ble_eq_true rfl⟩ ?_ rfl rfl rfl rfl
    refine r_aload_n K 0 dX10_told_56 rfl ?_
    refine r_iconst (v := (1 : Int32)) K dX10_told_57 (by decide) ?_
    refine r_iconst (v := (1 : Int32)) K dX10_told_58 (by decide) ?_
    obtain ⟨r13, e14, hf⟩ := ob1_s hf
    refine r_callV (As := [.int (1 : Int32), .int (1 : Int32)]) (rest := [.long r11]) (st1 := [.long r13, .long r11]) (cells1 := 0) (slots1 := 0) (b := a0) (ci := 10) K (fun z => mX10_ofClass l z e14) dX10_told_59 rfl (fun z => z _ _ ht) rfl ceX10_ofClass q_1086 q_1088 q_39 q_85 q_1089 ⟨Nat.le_of_ble_eq_true rfl, Nat.le_of_ble_eq_true rfl⟩ (Nat.le_of_ble_eq_true rfl) ⟨Nat.le_of_ble_eq_true rfl, Nat.le_of_ble_eq_true rfl⟩ ?_ rfl rfl rfl rfl
    refine r_ladd K dX10_told_62 ?_
    refine r_aload_n K 0 dX10_told_63 rfl ?_
    refine r_iconst (v := (2 : Int32)) K dX10_told_64 (by decide) ?_
    refine r_iconst (v := (1 : Int32)) K dX10_told_65 (by decide) ?_
    obtain ⟨r15, e16, hf⟩ := ob1_s hf
    refine r_callV (As := [.int (2 : Int32), .int (1 : Int32)]) (rest := [.long (r11 + r13)]) (st1 := [.long r15, .long (r11 + r13)]) (cells1 := 0) (slots1 := 0) (b := a0) (ci := 10) K (fun z => mX10_ofClass l z e16) dX10_told_66 rfl (fun z => z _ _ ht) rfl ceX10_ofClass q_1086 q_1088 q_39 q_85 q_1089 ⟨Nat.le_of_ble_eq_true rfl, Nat.le_of_ble_eq_true rfl⟩ (Nat.le_of_ble_eq_true rfl) ⟨Nat.le_of_ble_eq_true rfl, Nat.le_of_ble_eq_true rfl⟩ ?_ rfl rfl rfl rfl
    refine r_ladd K dX10_told_69 ?_
    exact r_lret K dX10_told_70 (retp hf) (Nat.le_of_ble_eq_true rfl) (Nat.le_of_ble_eq_true rfl)
  replace hf := ite_f hf c17
  by_cases c20 : x1 = (3 : Int32)
  · replace hf := ite_t hf c20
    refine r_tin (v := (3 : Int32)) (tgt := 71) K dX10_told_1 c20 (by decide) (by decide) rfl (by decide) ?_
    refine r_aload_n K 0 dX10_told_71 rfl ?_
    obtain ⟨v18, e19, hf⟩ := ob1_s hf
    refine r_getI (ci := 10) (k := 5) K dX10_told_72 inX10 rfl (by decide) rfl q_911 e19 ?_
    refine r_i2l K dX10_told_75 ?_
    exact r_lret K dX10_told_76 (retp hf) (Nat.le_of_ble_eq_true rfl) (Nat.le_of_ble_eq_true rfl)
  replace hf := ite_f hf c20
  by_cases c29 : x1 = (4 : Int32)
  · replace hf := ite_t hf c29
    refine r_tin (v := (4 : Int32)) (tgt := 77) K dX10_told_1 c29 (by decide) (by decide) rfl (by decide) ?_
    refine r_lconst (v := (0 : Int64)) K dX10_told_77 (by decide) ?_
    refine r_lstore_n (lv1 := [(2, .long (0 : Int64)), (0, .ref a0), (1, .int x1)]) K dX10_told_78 (by decide) rfl ?_
    refine r_iconst (v := (0 : Int32)) K dX10_told_79 (by decide) ?_
    refine r_istore (lv1 := [(4, .int (0 : Int32)), (2, .long (0 : Int64)), (0, .ref a0), (1, .int x1)]) K dX10_told_80 (by decide) rfl ?_
    refine r_lv [2, 1, 0] rfl ?_
    refine wX10_told_L82 K ht _ (fun y28 hf => ?_) lf (0 : Int64) (0 : Int32) hf
    refine r_lload_n K 0 dX10_told_108 rfl ?_
    exact r_lret K dX10_told_109 (retp hf) (Nat.le_of_ble_eq_true rfl) (Nat.le_of_ble_eq_true rfl)
  replace hf := ite_f hf c29
  refine r_tout (N := 5) (tgt := 110) K dX10_told_1 (fun j hj => by match j, hj with | 0, _ => exact c5 | 1, _ => exact c10 | 2, _ => exact c17 | 3, _ => exact c20 | 4, _ => exact c29) (by decide) (by decide) (by decide) ?_
  refine r_ldc2 K dX10_told_110 q_1060 ?_
  exact r_lret K dX10_told_113 (retp hf) (Nat.le_of_ble_eq_true rfl) (Nat.le_of_ble_eq_true rfl)
theorem ceX10_image : CE yX10_image 0 := ⟨by decide, by decide, by decide +kernel⟩
abbrev rmX10_image : Room := { frames := 1, cells := 0, slots := 0, locals := 22 }
def fX10_image (a0 : Nat) (h : AH) : Option (Int32 × AH) :=
  ob1 (pV h a0 10 3 (.int (1 : Int32))) fun g1 =>
  ob1 (gR g1 a0 10 0) fun b3 =>
  ob1 (gR g1 a0 10 1) fun b5 =>
  ob1 (fX10_copies b3 b5 g1) fun g7 =>
  ob1 (fX10_roadMany a0 g7) fun r9 =>
  some (r9, g7)
set_option maxHeartbeats 4000000 in
set_option maxRecDepth 100000 in
theorem mX10_image (l : Launch) {G : GG} {b0 : Nat} {h : AH} {a0 : Nat} {rr : Int32} {hh : AH} (ht : isO h a0 10) (hf : fX10_image a0 h = some (rr, hh)) : MM l yX10_image cX10_image 1 (some .int) rmX10_image G b0 h [.ref a0] (some (.int rr)) hh := by
  refine MM.of (own := RX10) (lv0 := [(0, .ref a0)]) (by decide) rfl (Nat.le_of_ble_eq_true rfl) rfl ?_
  intro p e s m args below meth c K hnm
  unfold fX10_image at hf
  refine r_aload_n K 0 dX10_image_0 rfl ?_
  refine r_iconst (v := (1 : Int32)) K dX10_image_1 (by decide) ?_
  obtain ⟨g1, e2, hf⟩ := ob1_s hf
  refine r_putV (ci := 10) (k := 3) (ty0 := tyX10) (ty := tyX10 3) K dX10_image_2 inX10 rfl (by decide) rfl q_909 tyX10_ok nmX10 rfl rfl rfl rfl e2 ?_
  refine r_aload_n K 0 dX10_image_5 rfl ?_
  obtain ⟨b3, e4, hf⟩ := ob1_s hf
  refine r_getR (ci := 10) (k := 0) K dX10_image_6 inX10 rfl (by decide) rfl q_906 e4 ?_
  refine r_aload_n K 0 dX10_image_9 rfl ?_
  obtain ⟨b5, e6, hf⟩ := ob1_s hf
  refine r_getR (ci := 10) (k := 1) K dX10_image_10 inX10 rfl (by decide) rfl q_907 e6 ?_
  obtain ⟨g7, e8, hf⟩ := ob1_s hf
  refine r_callS (As := [.ref b3, .ref b5]) (rest := []) (st1 := []) (cells1 := 0) (slots1 := 0) K (mX10_copies l e8) dX10_image_13 ceX10_copies q_1312 q_1313 q_85 q_1314 ⟨Nat.le_of_ble_eq_true rfl, Nat.le_of_ble_eq_true rfl⟩ (Nat.le_of_ble_eq_true rfl) ⟨Nat.le_of_ble_eq_true rfl, Nat.le_of_ble_eq_true rfl⟩ ?_ rfl rfl rfl rfl
  refine r_aload_n K 0 dX10_image_16 rfl ?_
  obtain ⟨r9, e10, hf⟩ := ob1_s hf
  refine r_callV (As := []) (rest := []) (st1 := [.int r9]) (cells1 := 0) (slots1 := 0) (b := a0) (ci := 10) K (fun z => mX10_roadMany l z e10) dX10_image_17 rfl (fun z => z _ _ ht) rfl ceX10_roadMany q_1028 q_1030 q_33 q_85 q_1031 ⟨Nat.le_of_ble_eq_true rfl, Nat.le_of_ble_eq_true rfl⟩ (Nat.le_of_ble_eq_true rfl) ⟨Nat.le_of_ble_eq_true rfl, Nat.le_of_ble_eq_true rfl⟩ ?_ rfl rfl rfl rfl
  exact r_iret K dX10_image_20 hf (Nat.le_of_ble_eq_true rfl) (Nat.le_of_ble_eq_true rfl)
theorem ceX10_undo : CE yX10_undo 0 := ⟨by decide, by decide, by decide +kernel⟩
abbrev rmX10_undo : Room := { frames := 1, cells := 0, slots := 0, locals := 22 }
def fX10_undo (a0 : Nat) (h : AH) : Option (Int32 × AH) :=
  ob1 (gI h a0 10 3) fun v1 =>
  if v1 = (0 : Int32) then
    some ((-3 : Int32), h)
  else
    ob1 (gR h a0 10 1) fun b3 =>
    ob1 (gR h a0 10 0) fun b5 =>
    ob1 (fX10_copies b3 b5 h) fun g7 =>
    ob1 (fX10_roadMany a0 g7) fun r9 =>
    some (r9, g7)
set_option maxHeartbeats 4000000 in
set_option maxRecDepth 100000 in
theorem mX10_undo (l : Launch) {G : GG} {b0 : Nat} {h : AH} {a0 : Nat} {rr : Int32} {hh : AH} (ht : isO h a0 10) (hf : fX10_undo a0 h = some (rr, hh)) : MM l yX10_undo cX10_undo 1 (some .int) rmX10_undo G b0 h [.ref a0] (some (.int rr)) hh := by
  refine MM.of (own := RX10) (lv0 := [(0, .ref a0)]) (by decide) rfl (Nat.le_of_ble_eq_true rfl) rfl ?_
  intro p e s m args below meth c K hnm
  unfold fX10_undo at hf
  refine r_aload_n K 0 dX10_undo_0 rfl ?_
  obtain ⟨v1, e2, hf⟩ := ob1_s hf
  refine r_getI (ci := 10) (k := 3) K dX10_undo_1 inX10 rfl (by decide) rfl q_909 e2 ?_
  refine r_if_ne (tgt := 10) K dX10_undo_4 (by decide) (fun c11 => ?_) (fun c11 => ?_)
  · replace hf := ite_f hf c11
    refine r_aload_n K 0 dX10_undo_10 rfl ?_
    obtain ⟨b3, e4, hf⟩ := ob1_s hf
    refine r_getR (ci := 10) (k := 1) K dX10_undo_11 inX10 rfl (by decide) rfl q_907 e4 ?_
    refine r_aload_n K 0 dX10_undo_14 rfl ?_
    obtain ⟨b5, e6, hf⟩ := ob1_s hf
    refine r_getR (ci := 10) (k := 0) K dX10_undo_15 inX10 rfl (by decide) rfl q_906 e6 ?_
    obtain ⟨g7, e8, hf⟩ := ob1_s hf
    refine r_callS (As := [.ref b3, .ref b5]) (rest := []) (st1 := []) (cells1 := 0) (slots1 := 0) K (mX10_copies l e8) dX10_undo_18 ceX10_copies q_1312 q_1313 q_85 q_1314 ⟨Nat.le_of_ble_eq_true rfl, Nat.le_of_ble_eq_true rfl⟩ (Nat.le_of_ble_eq_true rfl) ⟨Nat.le_of_ble_eq_true rfl, Nat.le_of_ble_eq_true rfl⟩ ?_ rfl rfl rfl rfl
    refine r_aload_n K 0 dX10_undo_21 rfl ?_
    obtain ⟨r9, e10, hf⟩ := ob1_s hf
    refine r_callV (As := []) (rest := []) (st1 := [.int r9]) (cells1 := 0) (slots1 := 0) (b := a0) (ci := 10) K (fun z => mX10_roadMany l z e10) dX10_undo_22 rfl (fun z => z _ _ ht) rfl ceX10_roadMany q_1028 q_1030 q_33 q_85 q_1031 ⟨Nat.le_of_ble_eq_true rfl, Nat.le_of_ble_eq_true rfl⟩ (Nat.le_of_ble_eq_true rfl) ⟨Nat.le_of_ble_eq_true rfl, Nat.le_of_ble_eq_true rfl⟩ ?_ rfl rfl rfl rfl
    exact r_iret K dX10_undo_25 hf (Nat.le_of_ble_eq_true rfl) (Nat.le_of_ble_eq_true rfl)
  · replace hf := ite_t hf c11
    refine r_bipush (v := (-3 : Int32)) K dX10_undo_7 (by decide) ?_
    exact r_iret K dX10_undo_9 hf (Nat.le_of_ble_eq_true rfl) (Nat.le_of_ble_eq_true rfl)
