theorem ceX6_init : CE yX6_init 0 := ⟨by decide, by decide, by decide +kernel⟩
abbrev rmX6_init : Room := { frames := 1, cells := 0, slots := 0, locals := 20 }
def fX6_init (a0 : Nat) (h : AH) : Option AH :=
  ob1 (pV h a0 6 0 (.long (0 : Int64))) fun g1 =>
  ob1 (pV g1 a0 6 1 (.int (0 : Int32))) fun g3 =>
  some g3
set_option maxHeartbeats 4000000 in
set_option maxRecDepth 100000 in
theorem mX6_init (l : Launch) {G : GG} {b0 : Nat} {h : AH} {a0 : Nat} {hh : AH} (ht : isO h a0 6) (hf : fX6_init a0 h = some hh) : MM l yX6_init cX6_init 1 (none) rmX6_init G b0 h [.ref a0] none hh := by
  refine MM.of (own := RX6) (lv0 := [(0, .ref a0)]) (by decide) rfl (Nat.le_of_ble_eq_true rfl) rfl ?_
  intro p e s m args below meth c K hnm
  unfold fX6_init at hf
  refine r_aload_n K 0 dX6_init_0 rfl ?_
  refine r_objInit K dX6_init_1 q_227 q_97 q_98 (Nat.le_of_ble_eq_true rfl) (Nat.le_of_ble_eq_true rfl) ?_
  refine r_aload_n K 0 dX6_init_4 rfl ?_
  refine r_lconst (v := (0 : Int64)) K dX6_init_5 (by decide) ?_
  obtain ⟨g1, e2, hf⟩ := ob1_s hf
  refine r_putV (ci := 6) (k := 0) (ty0 := tyX6) (ty := tyX6 0) K dX6_init_6 inX6 rfl (by decide) rfl q_228 tyX6_ok nmX6 rfl rfl rfl rfl e2 ?_
  refine r_aload_n K 0 dX6_init_9 rfl ?_
  refine r_iconst (v := (0 : Int32)) K dX6_init_10 (by decide) ?_
  obtain ⟨g3, e4, hf⟩ := ob1_s hf
  refine r_putV (ci := 6) (k := 1) (ty0 := tyX6) (ty := tyX6 1) K dX6_init_11 inX6 rfl (by decide) rfl q_231 tyX6_ok nmX6 rfl rfl rfl rfl e4 ?_
  exact r_vret K dX6_init_14 hf (Nat.le_of_ble_eq_true rfl) (Nat.le_of_ble_eq_true rfl)
theorem ceJ7_fill_53178 : CE yJ7_fill_53178 2 := ⟨by decide, by decide, by decide +kernel⟩
abbrev rmJ7_fill_53178 : Room := { frames := 0, cells := 0, slots := 0, locals := 0 }
def fJ7_fill_53178_L5 (a0 : Nat) (x1 : Int32) (x3 : Int32) (k : AH → Option AH) : Nat → Int32 → AH → Option AH
  | 0, _, _ => none
  | n + 1, x2, h =>
    if x3 ≤ x2 then
      k h
    else
      ob1 (sI h a0 x2 x1) fun g3 =>
      bnd (x2 + (1 : Int32)) fun y5 =>
      fJ7_fill_53178_L5 a0 x1 x3 k n y5 g3
def fJ7_fill_53178 (a0 : Nat) (x1 : Int32) (h : AH) : Option AH :=
  ob1 (aNk h a0 0) fun v1 =>
  fJ7_fill_53178_L5 a0 x1 v1 (fun (g7 : AH) =>
    some g7
  ) lf (0 : Int32) h
set_option maxHeartbeats 4000000 in
set_option maxRecDepth 100000 in
theorem wJ7_fill_53178_L5 {p : Program} {l : Launch} {e : Env} {s : State} {m : MethodId} {args : Array Value} {below : List Frame} {meth : Method} {c : Code} {G : GG} {b0 : Nat} {h0 : AH} {a0 : Nat} {x1 : Int32} {x3 : Int32} {hh : AH} (K : CX p s m args meth c cJ7_fill_53178 4 RJ7 (none) G b0) (k : AH → Option AH) (hk : ∀ (h : AH), k h = some hh → WA p l e rmJ7_fill_53178 s m args below meth c (MQ below (QG G b0 h0 none hh) args s (rmJ7_fill_53178).cells (rmJ7_fill_53178).slots (AB b0)) G b0 4 h0 0 0 h 20 [] []) : ∀ (n : Nat) (x2 : Int32) (h : AH), fJ7_fill_53178_L5 a0 x1 x3 k n x2 h = some hh → WA p l e rmJ7_fill_53178 s m args below meth c (MQ below (QG G b0 h0 none hh) args s (rmJ7_fill_53178).cells (rmJ7_fill_53178).slots (AB b0)) G b0 4 h0 0 0 h 5 [(0, .ref a0), (1, .int x1), (2, .int x2), (3, .int x3)] [] := by
  intro n
  induction n with
  | zero =>
    intro x2 h hf
    rw [fJ7_fill_53178_L5] at hf
    cases hf
  | succ n ih =>
    intro x2 h hf
    rw [fJ7_fill_53178_L5] at hf
    refine r_iload_n K 2 dJ7_fill_53178_5 rfl ?_
    refine r_iload_n K 3 dJ7_fill_53178_6 rfl ?_
    refine r_icmp_ge (tgt := 20) K dJ7_fill_53178_7 (by decide) (fun c6 => ?_) (fun c6 => ?_)
    · replace hf := ite_t hf c6
      refine r_lv [] rfl ?_
      exact hk h hf
    · replace hf := ite_f hf c6
      refine r_aload_n K 0 dJ7_fill_53178_10 rfl ?_
      refine r_iload_n K 2 dJ7_fill_53178_11 rfl ?_
      refine r_iload_n K 1 dJ7_fill_53178_12 rfl ?_
      obtain ⟨g3, e4, hf⟩ := ob1_s hf
      refine r_iastore K dJ7_fill_53178_13 e4 ?_
      obtain ⟨y5, ey5, hf⟩ := bnd_g hf
      refine r_iinc (lv1 := [(2, .int y5), (0, .ref a0), (1, .int x1), (3, .int x3)]) K 2 dJ7_fill_53178_14 rfl (by rw [ey5]; rfl) (by decide) rfl ?_
      refine r_goto (tgt := 5) K dJ7_fill_53178_17 (by decide) ?_
      refine r_lv [1, 2, 0, 3] rfl ?_
      exact ih y5 g3 hf
set_option maxHeartbeats 4000000 in
set_option maxRecDepth 100000 in
theorem mJ7_fill_53178 (l : Launch) {G : GG} {b0 : Nat} {h : AH} {a0 : Nat} {x1 : Int32} {hh : AH} (hf : fJ7_fill_53178 a0 x1 h = some hh) : MM l yJ7_fill_53178 cJ7_fill_53178 4 (none) rmJ7_fill_53178 G b0 h [.ref a0, .int x1] none hh := by
  refine MM.ofF (own := RJ7) (lv0 := [(0, .ref a0), (1, .int x1)]) (by decide +kernel) rfl (Nat.le_of_ble_eq_true rfl) rfl ?_
  intro p e s m args below meth c K hnm
  unfold fJ7_fill_53178 at hf
  refine r_iconst (v := (0 : Int32)) K dJ7_fill_53178_0 (by decide) ?_
  refine r_istore_n (lv1 := [(2, .int (0 : Int32)), (0, .ref a0), (1, .int x1)]) K dJ7_fill_53178_1 (by decide) rfl ?_
  refine r_aload_n K 1 dJ7_fill_53178_2 rfl ?_
  obtain ⟨v1, e2, hf⟩ := ob1_s hf
  refine r_alenk (kd := 0) (ty := .int) K dJ7_fill_53178_3 rfl e2 ?_
  refine r_istore_n (lv1 := [(3, .int v1), (2, .int (0 : Int32)), (0, .ref a0), (1, .int x1)]) K dJ7_fill_53178_4 (by decide) rfl ?_
  refine r_lv [2, 3, 1, 0] rfl ?_
  refine wJ7_fill_53178_L5 K _ (fun g7 hf => ?_) lf (0 : Int32) h hf
  exact r_vret K dJ7_fill_53178_20 hf (Nat.le_of_ble_eq_true rfl) (Nat.le_of_ble_eq_true rfl)
theorem ceX3_costAt : CE yX3_costAt 1 := ⟨by decide, by decide, by decide +kernel⟩
abbrev rmX3_costAt : Room := { frames := 0, cells := 0, slots := 0, locals := 0 }
def fX3_costAt (a0 : Nat) (x1 : Int32) (h : AH) : Option Int64 :=
  ob1 (gL h a0 3 3) fun v1 =>
  ob1 (gI h a0 3 2) fun v3 =>
  bnd (fun (y6 : Int64) =>
    ob1 (gI h a0 3 2) fun v7 =>
    if v7 < (2 : Int32) then
      some y6
    else
      ob1 (gI h a0 3 6) fun v9 =>
      if x1 ≤ v9 then
        some y6
      else
        ob1 (gL h a0 3 5) fun v11 =>
        ob1 (gI h a0 3 6) fun v13 =>
        bnd (y6 + (v11 * (Int32.toInt64 (x1 - v13)))) fun y15 =>
        some y15
  ) fun j5 =>
  if v3 < (1 : Int32) then
    j5 v1
  else
    ob1 (gL h a0 3 4) fun v18 =>
    bnd (v1 + (v18 * (Int32.toInt64 x1))) fun y20 =>
    j5 y20
set_option maxHeartbeats 4000000 in
set_option maxRecDepth 100000 in
theorem mX3_costAt (l : Launch) {G : GG} {b0 : Nat} {h : AH} {a0 : Nat} {x1 : Int32} {rr : Int64} (ht : isO h a0 3) (hf : fX3_costAt a0 x1 h = some rr) : MM l yX3_costAt cX3_costAt 4 (some .long) rmX3_costAt G b0 h [.ref a0, .int x1] (some (.long rr)) h := by
  refine MM.of (own := RX3) (lv0 := [(0, .ref a0), (1, .int x1)]) (by decide) rfl (Nat.le_of_ble_eq_true rfl) rfl ?_
  intro p e s m args below meth c K hnm
  unfold fX3_costAt at hf
  refine r_aload_n K 0 dX3_costAt_0 rfl ?_
  obtain ⟨v1, e2, hf⟩ := ob1_s hf
  refine r_getL (ci := 3) (k := 3) K dX3_costAt_1 inX3 rfl (by decide) rfl q_124 e2 ?_
  refine r_lstore_n (lv1 := [(2, .long v1), (0, .ref a0), (1, .int x1)]) K dX3_costAt_4 (by decide) rfl ?_
  refine r_aload_n K 1 dX3_costAt_5 rfl ?_
  obtain ⟨v3, e4, hf⟩ := ob1_s hf
  refine r_getI (ci := 3) (k := 2) K dX3_costAt_6 inX3 rfl (by decide) rfl q_122 e4 ?_
  refine r_iconst (v := (1 : Int32)) K dX3_costAt_9 (by decide) ?_
  obtain ⟨j5, ej5, hf⟩ := bnd_g hf
  have Jj5 : ∀ (y6 : Int64), j5 y6 = some rr → WA p l e rmX3_costAt s m args below meth c (MQ below (QG G b0 h (some (.long rr)) h) args s (rmX3_costAt).cells (rmX3_costAt).slots (AB b0)) G b0 4 h 0 0 h 23 [(0, .ref a0), (1, .int x1), (2, .long y6)] [] := by
    intro y6 hf
    rw [ej5] at hf
    refine r_aload_n K 0 dX3_costAt_23 rfl ?_
    obtain ⟨v7, e8, hf⟩ := ob1_s hf
    refine r_getI (ci := 3) (k := 2) K dX3_costAt_24 inX3 rfl (by decide) rfl q_122 e8 ?_
    refine r_iconst (v := (2 : Int32)) K dX3_costAt_27 (by decide) ?_
    refine r_icmp_lt (tgt := 54) K dX3_costAt_28 (by decide) (fun c17 => ?_) (fun c17 => ?_)
    · replace hf := ite_t hf c17
      refine r_lload_n K 2 dX3_costAt_54 rfl ?_
      exact r_lret K dX3_costAt_55 (retp hf) (Nat.le_of_ble_eq_true rfl) (Nat.le_of_ble_eq_true rfl)
    · replace hf := ite_f hf c17
      refine r_iload_n K 1 dX3_costAt_31 rfl ?_
      refine r_aload_n K 0 dX3_costAt_32 rfl ?_
      obtain ⟨v9, e10, hf⟩ := ob1_s hf
      refine r_getI (ci := 3) (k := 6) K dX3_costAt_33 inX3 rfl (by decide) rfl q_130 e10 ?_
      refine r_icmp_le (tgt := 54) K dX3_costAt_36 (by decide) (fun c16 => ?_) (fun c16 => ?_)
      · replace hf := ite_t hf c16
        refine r_lload_n K 2 dX3_costAt_54 rfl ?_
        exact r_lret K dX3_costAt_55 (retp hf) (Nat.le_of_ble_eq_true rfl) (Nat.le_of_ble_eq_true rfl)
      · replace hf := ite_f hf c16
        refine r_lload_n K 2 dX3_costAt_39 rfl ?_
        refine r_aload_n K 0 dX3_costAt_40 rfl ?_
        obtain ⟨v11, e12, hf⟩ := ob1_s hf
        refine r_getL (ci := 3) (k := 5) K dX3_costAt_41 inX3 rfl (by decide) rfl q_128 e12 ?_
        refine r_iload_n K 1 dX3_costAt_44 rfl ?_
        refine r_aload_n K 0 dX3_costAt_45 rfl ?_
        obtain ⟨v13, e14, hf⟩ := ob1_s hf
        refine r_getI (ci := 3) (k := 6) K dX3_costAt_46 inX3 rfl (by decide) rfl q_130 e14 ?_
        refine r_isub K dX3_costAt_49 ?_
        refine r_i2l K dX3_costAt_50 ?_
        refine r_lmul K dX3_costAt_51 ?_
        refine r_ladd K dX3_costAt_52 ?_
        obtain ⟨y15, ey15, hf⟩ := bnd_g hf
        refine r_nml ey15 ?_
        refine r_lstore_n (lv1 := [(2, .long y15), (0, .ref a0), (1, .int x1)]) K dX3_costAt_53 (by decide) rfl ?_
        refine r_lload_n K 0 dX3_costAt_54 rfl ?_
        exact r_lret K dX3_costAt_55 (retp hf) (Nat.le_of_ble_eq_true rfl) (Nat.le_of_ble_eq_true rfl)
  refine r_icmp_lt (tgt := 23) K dX3_costAt_10 (by decide) (fun c21 => ?_) (fun c21 => ?_)
  · replace hf := ite_t hf c21
    refine r_lv [1, 2, 0] rfl ?_
    exact Jj5 v1 hf
  · replace hf := ite_f hf c21
    refine r_lload_n K 0 dX3_costAt_13 rfl ?_
    refine r_aload_n K 1 dX3_costAt_14 rfl ?_
    obtain ⟨v18, e19, hf⟩ := ob1_s hf
    refine r_getL (ci := 3) (k := 4) K dX3_costAt_15 inX3 rfl (by decide) rfl q_126 e19 ?_
    refine r_iload_n K 2 dX3_costAt_18 rfl ?_
    refine r_i2l K dX3_costAt_19 ?_
    refine r_lmul K dX3_costAt_20 ?_
    refine r_ladd K dX3_costAt_21 ?_
    obtain ⟨y20, ey20, hf⟩ := bnd_g hf
    refine r_nml ey20 ?_
    refine r_lstore_n (lv1 := [(2, .long y20), (0, .ref a0), (1, .int x1)]) K dX3_costAt_22 (by decide) rfl ?_
    refine r_lv [1, 2, 0] rfl ?_
    exact Jj5 y20 hf
theorem ceX3_lossAt : CE yX3_lossAt 1 := ⟨by decide, by decide, by decide +kernel⟩
abbrev rmX3_lossAt : Room := { frames := 0, cells := 0, slots := 0, locals := 0 }
def fX3_lossAt (a0 : Nat) (x1 : Int32) (h : AH) : Option Int64 :=
  ob1 (gI h a0 3 2) fun v1 =>
  bnd (fun (y4 : Int64) =>
    ob1 (gI h a0 3 2) fun v5 =>
    bnd (fun (y8 : Int64) =>
      some ((Int32.toInt64 (x1 - (1 : Int32))) * y8)
    ) fun j7 =>
    if v5 < (2 : Int32) then
      j7 y4
    else
      ob1 (gI h a0 3 6) fun v9 =>
      if x1 ≤ v9 then
        j7 y4
      else
        ob1 (gL h a0 3 5) fun v11 =>
        bnd (y4 + v11) fun y13 =>
        j7 y13
  ) fun j3 =>
  if v1 < (1 : Int32) then
    j3 (0 : Int64)
  else
    ob1 (gL h a0 3 4) fun v16 =>
    bnd ((0 : Int64) + v16) fun y18 =>
    j3 y18
set_option maxHeartbeats 4000000 in
set_option maxRecDepth 100000 in
theorem mX3_lossAt (l : Launch) {G : GG} {b0 : Nat} {h : AH} {a0 : Nat} {x1 : Int32} {rr : Int64} (ht : isO h a0 3) (hf : fX3_lossAt a0 x1 h = some rr) : MM l yX3_lossAt cX3_lossAt 4 (some .long) rmX3_lossAt G b0 h [.ref a0, .int x1] (some (.long rr)) h := by
  refine MM.of (own := RX3) (lv0 := [(0, .ref a0), (1, .int x1)]) (by decide) rfl (Nat.le_of_ble_eq_true rfl) rfl ?_
  intro p e s m args below meth c K hnm
  unfold fX3_lossAt at hf
  refine r_lconst (v := (0 : Int64)) K dX3_lossAt_0 (by decide) ?_
  refine r_lstore_n (lv1 := [(2, .long (0 : Int64)), (0, .ref a0), (1, .int x1)]) K dX3_lossAt_1 (by decide) rfl ?_
  refine r_aload_n K 1 dX3_lossAt_2 rfl ?_
  obtain ⟨v1, e2, hf⟩ := ob1_s hf
  refine r_getI (ci := 3) (k := 2) K dX3_lossAt_3 inX3 rfl (by decide) rfl q_122 e2 ?_
  refine r_iconst (v := (1 : Int32)) K dX3_lossAt_6 (by decide) ?_
  obtain ⟨j3, ej3, hf⟩ := bnd_g hf
  have Jj3 : ∀ (y4 : Int64), j3 y4 = some rr → WA p l e rmX3_lossAt s m args below meth c (MQ below (QG G b0 h (some (.long rr)) h) args s (rmX3_lossAt).cells (rmX3_lossAt).slots (AB b0)) G b0 4 h 0 0 h 17 [(0, .ref a0), (1, .int x1), (2, .long y4)] [] := by
    intro y4 hf
    rw [ej3] at hf
    refine r_aload_n K 0 dX3_lossAt_17 rfl ?_
    obtain ⟨v5, e6, hf⟩ := ob1_s hf
    refine r_getI (ci := 3) (k := 2) K dX3_lossAt_18 inX3 rfl (by decide) rfl q_122 e6 ?_
    refine r_iconst (v := (2 : Int32)) K dX3_lossAt_21 (by decide) ?_
    obtain ⟨j7, ej7, hf⟩ := bnd_g hf
    have Jj7 : ∀ (y8 : Int64), j7 y8 = some rr → WA p l e rmX3_lossAt s m args below meth c (MQ below (QG G b0 h (some (.long rr)) h) args s (rmX3_lossAt).cells (rmX3_lossAt).slots (AB b0)) G b0 4 h 0 0 h 40 [(1, .int x1), (2, .long y8)] [] := by
      intro y8 hf
      rw [ej7] at hf
      refine r_iload_n K 0 dX3_lossAt_40 rfl ?_
      refine r_iconst (v := (1 : Int32)) K dX3_lossAt_41 (by decide) ?_
      refine r_isub K dX3_lossAt_42 ?_
      refine r_i2l K dX3_lossAt_43 ?_
      refine r_lload_n K 1 dX3_lossAt_44 rfl ?_
      refine r_lmul K dX3_lossAt_45 ?_
      exact r_lret K dX3_lossAt_46 (retp hf) (Nat.le_of_ble_eq_true rfl) (Nat.le_of_ble_eq_true rfl)
    refine r_icmp_lt (tgt := 40) K dX3_lossAt_22 (by decide) (fun c15 => ?_) (fun c15 => ?_)
    · replace hf := ite_t hf c15
      refine r_lv [1, 2] rfl ?_
      exact Jj7 y4 hf
    · replace hf := ite_f hf c15
      refine r_iload_n K 1 dX3_lossAt_25 rfl ?_
      refine r_aload_n K 0 dX3_lossAt_26 rfl ?_
      obtain ⟨v9, e10, hf⟩ := ob1_s hf
      refine r_getI (ci := 3) (k := 6) K dX3_lossAt_27 inX3 rfl (by decide) rfl q_130 e10 ?_
      refine r_icmp_le (tgt := 40) K dX3_lossAt_30 (by decide) (fun c14 => ?_) (fun c14 => ?_)
      · replace hf := ite_t hf c14
        refine r_lv [1, 2] rfl ?_
        exact Jj7 y4 hf
      · replace hf := ite_f hf c14
        refine r_lload_n K 2 dX3_lossAt_33 rfl ?_
        refine r_aload_n K 0 dX3_lossAt_34 rfl ?_
        obtain ⟨v11, e12, hf⟩ := ob1_s hf
        refine r_getL (ci := 3) (k := 5) K dX3_lossAt_35 inX3 rfl (by decide) rfl q_128 e12 ?_
        refine r_ladd K dX3_lossAt_38 ?_
        obtain ⟨y13, ey13, hf⟩ := bnd_g hf
        refine r_nml ey13 ?_
        refine r_lstore_n (lv1 := [(2, .long y13), (0, .ref a0), (1, .int x1)]) K dX3_lossAt_39 (by decide) rfl ?_
        refine r_lv [2, 0] rfl ?_
        exact Jj7 y13 hf
  refine r_icmp_lt (tgt := 17) K dX3_lossAt_7 (by decide) (fun c19 => ?_) (fun c19 => ?_)
  · replace hf := ite_t hf c19
    refine r_lv [1, 2, 0] rfl ?_
    exact Jj3 (0 : Int64) hf
  · replace hf := ite_f hf c19
    refine r_lload_n K 0 dX3_lossAt_10 rfl ?_
    refine r_aload_n K 1 dX3_lossAt_11 rfl ?_
    obtain ⟨v16, e17, hf⟩ := ob1_s hf
    refine r_getL (ci := 3) (k := 4) K dX3_lossAt_12 inX3 rfl (by decide) rfl q_126 e17 ?_
    refine r_ladd K dX3_lossAt_15 ?_
    obtain ⟨y18, ey18, hf⟩ := bnd_g hf
    refine r_nml ey18 ?_
    refine r_lstore_n (lv1 := [(2, .long y18), (0, .ref a0), (1, .int x1)]) K dX3_lossAt_16 (by decide) rfl ?_
    refine r_lv [1, 2, 0] rfl ?_
    exact Jj3 y18 hf
theorem ceX6_add : CE yX6_add 2 := ⟨by decide, by decide, by decide +kernel⟩
abbrev rmX6_add : Room := { frames := 0, cells := 0, slots := 0, locals := 0 }
def fX6_add (a0 : Nat) (x1 : Int64) (x3 : Int64) (h : AH) : Option AH :=
  if x1 ≤ (0 : Int64) then
    some h
  else
    if (0 : Int64) < x3 then
      ob1 (gL h a0 6 0) fun v1 =>
      gd (decide (¬ x3 = 0)) <|
      bnd (fun (g5 : AH) =>
        ob1 (gI g5 a0 6 1) fun v6 =>
        if v6 = (0 : Int32) then
          ob1 (gL g5 a0 6 0) fun v8 =>
          ob1 (pV g5 a0 6 0 (.long (v8 + (x1 * x3)))) fun g10 =>
          some g10
        else
          some g5
      ) fun j4 =>
      if x1 ≤ (((9223372036854775807 : Int64) - v1) / x3) then
        j4 h
      else
        ob1 (pV h a0 6 1 (.int (1 : Int32))) fun g13 =>
        j4 g13
    else
      some h
set_option maxHeartbeats 4000000 in
set_option maxRecDepth 100000 in
theorem mX6_add (l : Launch) {G : GG} {b0 : Nat} {h : AH} {a0 : Nat} {x1 : Int64} {x3 : Int64} {hh : AH} (ht : isO h a0 6) (hf : fX6_add a0 x1 x3 h = some hh) : MM l yX6_add cX6_add 5 (none) rmX6_add G b0 h [.ref a0, .long x1, .long x3] none hh := by
  refine MM.of (own := RX6) (lv0 := [(0, .ref a0), (1, .long x1), (3, .long x3)]) (by decide) rfl (Nat.le_of_ble_eq_true rfl) rfl ?_
  intro p e s m args below meth c K hnm
  unfold fX6_add at hf
  refine r_lload_n K 1 dX6_add_0 rfl ?_
  refine r_lconst (v := (0 : Int64)) K dX6_add_1 (by decide) ?_
  refine r_lif_le (tgt := 12) K dX6_add_2 dX6_add_3 (by decide) (fun c17 => ?_) (fun c17 => ?_)
  · replace hf := ite_t hf c17
    exact r_vret K dX6_add_12 hf (Nat.le_of_ble_eq_true rfl) (Nat.le_of_ble_eq_true rfl)
  · replace hf := ite_f hf c17
    refine r_lload_n K 2 dX6_add_6 rfl ?_
    refine r_lconst (v := (0 : Int64)) K dX6_add_7 (by decide) ?_
    refine r_lif_gt (tgt := 13) K dX6_add_8 dX6_add_9 (by decide) (fun c16 => ?_) (fun c16 => ?_)
    · replace hf := ite_t hf c16
      refine r_lload_n K 1 dX6_add_13 rfl ?_
      refine r_ldc2 K dX6_add_14 q_666 ?_
      refine r_aload_n K 0 dX6_add_17 rfl ?_
      obtain ⟨v1, e2, hf⟩ := ob1_s hf
      refine r_getL (ci := 6) (k := 0) K dX6_add_18 inX6 rfl (by decide) rfl q_228 e2 ?_
      refine r_lsub K dX6_add_21 ?_
      refine r_lload_n K 2 dX6_add_22 rfl ?_
      obtain ⟨z3, hf⟩ := gd_s hf
      refine r_ldiv K dX6_add_23 (of_decide_eq_true z3) ?_
      obtain ⟨j4, ej4, hf⟩ := bnd_g hf
      have Jj4 : ∀ (g5 : AH), j4 g5 = some hh → WA p l e rmX6_add s m args below meth c (MQ below (QG G b0 h none hh) args s (rmX6_add).cells (rmX6_add).slots (AB b0)) G b0 5 h 0 0 g5 33 [(0, .ref a0), (1, .long x1), (3, .long x3)] [] := by
        intro g5 hf
        rw [ej4] at hf
        refine r_aload_n K 0 dX6_add_33 rfl ?_
        obtain ⟨v6, e7, hf⟩ := ob1_s hf
        refine r_getI (ci := 6) (k := 1) K dX6_add_34 inX6 rfl (by decide) rfl q_231 e7 ?_
        refine r_if_ne (tgt := 52) K dX6_add_37 (by decide) (fun c12 => ?_) (fun c12 => ?_)
        · replace hf := ite_f hf c12
          exact r_vret K dX6_add_52 hf (Nat.le_of_ble_eq_true rfl) (Nat.le_of_ble_eq_true rfl)
        · replace hf := ite_t hf c12
          refine r_aload_n K 0 dX6_add_40 rfl ?_
          refine r_dup K dX6_add_41 rfl ?_
          obtain ⟨v8, e9, hf⟩ := ob1_s hf
          refine r_getL (ci := 6) (k := 0) K dX6_add_42 inX6 rfl (by decide) rfl q_228 e9 ?_
          refine r_lload_n K 1 dX6_add_45 rfl ?_
          refine r_lload_n K 2 dX6_add_46 rfl ?_
          refine r_lmul K dX6_add_47 ?_
          refine r_ladd K dX6_add_48 ?_
          obtain ⟨g10, e11, hf⟩ := ob1_s hf
          refine r_putV (ci := 6) (k := 0) (ty0 := tyX6) (ty := tyX6 0) K dX6_add_49 inX6 rfl (by decide) rfl q_228 tyX6_ok nmX6 rfl rfl rfl rfl e11 ?_
          exact r_vret K dX6_add_52 hf (Nat.le_of_ble_eq_true rfl) (Nat.le_of_ble_eq_true rfl)
      refine r_lif_le (tgt := 33) K dX6_add_24 dX6_add_25 (by decide) (fun c15 => ?_) (fun c15 => ?_)
      · replace hf := ite_t hf c15
        exact Jj4 h hf
      · replace hf := ite_f hf c15
        refine r_aload_n K 0 dX6_add_28 rfl ?_
        refine r_iconst (v := (1 : Int32)) K dX6_add_29 (by decide) ?_
        obtain ⟨g13, e14, hf⟩ := ob1_s hf
        refine r_putV (ci := 6) (k := 1) (ty0 := tyX6) (ty := tyX6 1) K dX6_add_30 inX6 rfl (by decide) rfl q_231 tyX6_ok nmX6 rfl rfl rfl rfl e14 ?_
        exact Jj4 g13 hf
    · replace hf := ite_f hf c16
      exact r_vret K dX6_add_12 hf (Nat.le_of_ble_eq_true rfl) (Nat.le_of_ble_eq_true rfl)
theorem ceX6_reset : CE yX6_reset 0 := ⟨by decide, by decide, by decide +kernel⟩
abbrev rmX6_reset : Room := { frames := 0, cells := 0, slots := 0, locals := 0 }
def fX6_reset (a0 : Nat) (h : AH) : Option AH :=
  ob1 (pV h a0 6 0 (.long (0 : Int64))) fun g1 =>
  ob1 (pV g1 a0 6 1 (.int (0 : Int32))) fun g3 =>
  some g3
set_option maxHeartbeats 4000000 in
set_option maxRecDepth 100000 in
theorem mX6_reset (l : Launch) {G : GG} {b0 : Nat} {h : AH} {a0 : Nat} {hh : AH} (ht : isO h a0 6) (hf : fX6_reset a0 h = some hh) : MM l yX6_reset cX6_reset 1 (none) rmX6_reset G b0 h [.ref a0] none hh := by
  refine MM.of (own := RX6) (lv0 := [(0, .ref a0)]) (by decide) rfl (Nat.le_of_ble_eq_true rfl) rfl ?_
  intro p e s m args below meth c K hnm
  unfold fX6_reset at hf
  refine r_aload_n K 0 dX6_reset_0 rfl ?_
  refine r_lconst (v := (0 : Int64)) K dX6_reset_1 (by decide) ?_
  obtain ⟨g1, e2, hf⟩ := ob1_s hf
  refine r_putV (ci := 6) (k := 0) (ty0 := tyX6) (ty := tyX6 0) K dX6_reset_2 inX6 rfl (by decide) rfl q_228 tyX6_ok nmX6 rfl rfl rfl rfl e2 ?_
  refine r_aload_n K 0 dX6_reset_5 rfl ?_
  refine r_iconst (v := (0 : Int32)) K dX6_reset_6 (by decide) ?_
  obtain ⟨g3, e4, hf⟩ := ob1_s hf
  refine r_putV (ci := 6) (k := 1) (ty0 := tyX6) (ty := tyX6 1) K dX6_reset_7 inX6 rfl (by decide) rfl q_231 tyX6_ok nmX6 rfl rfl rfl rfl e4 ?_
  exact r_vret K dX6_reset_10 hf (Nat.le_of_ble_eq_true rfl) (Nat.le_of_ble_eq_true rfl)
theorem ceX3_init : CE yX3_init 7 := ⟨by decide, by decide, by decide +kernel⟩
abbrev rmX3_init : Room := { frames := 1, cells := 0, slots := 0, locals := 20 }
def fX3_init (a0 : Nat) (x1 : Int32) (x2 : Int32) (x3 : Int32) (x4 : Int64) (x6 : Int64) (x8 : Int64) (x10 : Int32) (h : AH) : Option AH :=
  ob1 (pV h a0 3 0 (.int x1)) fun g1 =>
  ob1 (pV g1 a0 3 1 (.int x2)) fun g3 =>
  ob1 (pV g3 a0 3 2 (.int x3)) fun g5 =>
  ob1 (pV g5 a0 3 3 (.long x4)) fun g7 =>
  ob1 (pV g7 a0 3 4 (.long x6)) fun g9 =>
  ob1 (pV g9 a0 3 5 (.long x8)) fun g11 =>
  ob1 (pV g11 a0 3 6 (.int x10)) fun g13 =>
  some g13
set_option maxHeartbeats 4000000 in
set_option maxRecDepth 100000 in
theorem mX3_init (l : Launch) {G : GG} {b0 : Nat} {h : AH} {a0 : Nat} {x1 : Int32} {x2 : Int32} {x3 : Int32} {x4 : Int64} {x6 : Int64} {x8 : Int64} {x10 : Int32} {hh : AH} (ht : isO h a0 3) (hf : fX3_init a0 x1 x2 x3 x4 x6 x8 x10 h = some hh) : MM l yX3_init cX3_init 11 (none) rmX3_init G b0 h [.ref a0, .int x1, .int x2, .int x3, .long x4, .long x6, .long x8, .int x10] none hh := by
  refine MM.of (own := RX3) (lv0 := [(0, .ref a0), (1, .int x1), (2, .int x2), (3, .int x3), (4, .long x4), (6, .long x6), (8, .long x8), (10, .int x10)]) (by decide) rfl (Nat.le_of_ble_eq_true rfl) rfl ?_
  intro p e s m args below meth c K hnm
  unfold fX3_init at hf
  refine r_aload_n K 0 dX3_init_0 rfl ?_
  refine r_objInit K dX3_init_1 q_113 q_97 q_98 (Nat.le_of_ble_eq_true rfl) (Nat.le_of_ble_eq_true rfl) ?_
  refine r_aload_n K 0 dX3_init_4 rfl ?_
  refine r_iload_n K 1 dX3_init_5 rfl ?_
  obtain ⟨g1, e2, hf⟩ := ob1_s hf
  refine r_putF (ci := 3) (k := 0) (ty0 := tyX3) (ty := tyX3 0) K dX3_init_6 inX3 rfl (by decide) rfl q_114 tyX3_ok nmX3 rfl hnm rfl rfl rfl rfl e2 ?_
  refine r_aload_n K 0 dX3_init_9 rfl ?_
  refine r_iload_n K 2 dX3_init_10 rfl ?_
  obtain ⟨g3, e4, hf⟩ := ob1_s hf
  refine r_putF (ci := 3) (k := 1) (ty0 := tyX3) (ty := tyX3 1) K dX3_init_11 inX3 rfl (by decide) rfl q_118 tyX3_ok nmX3 rfl hnm rfl rfl rfl rfl e4 ?_
  refine r_aload_n K 0 dX3_init_14 rfl ?_
  refine r_iload_n K 3 dX3_init_15 rfl ?_
  obtain ⟨g5, e6, hf⟩ := ob1_s hf
  refine r_putF (ci := 3) (k := 2) (ty0 := tyX3) (ty := tyX3 2) K dX3_init_16 inX3 rfl (by decide) rfl q_122 tyX3_ok nmX3 rfl hnm rfl rfl rfl rfl e6 ?_
  refine r_aload_n K 0 dX3_init_19 rfl ?_
  refine r_lload K 4 dX3_init_20 rfl ?_
  obtain ⟨g7, e8, hf⟩ := ob1_s hf
  refine r_putF (ci := 3) (k := 3) (ty0 := tyX3) (ty := tyX3 3) K dX3_init_22 inX3 rfl (by decide) rfl q_124 tyX3_ok nmX3 rfl hnm rfl rfl rfl rfl e8 ?_
  refine r_aload_n K 0 dX3_init_25 rfl ?_
  refine r_lload K 5 dX3_init_26 rfl ?_
  obtain ⟨g9, e10, hf⟩ := ob1_s hf
  refine r_putF (ci := 3) (k := 4) (ty0 := tyX3) (ty := tyX3 4) K dX3_init_28 inX3 rfl (by decide) rfl q_126 tyX3_ok nmX3 rfl hnm rfl rfl rfl rfl e10 ?_
  refine r_aload_n K 0 dX3_init_31 rfl ?_
  refine r_lload K 6 dX3_init_32 rfl ?_
  obtain ⟨g11, e12, hf⟩ := ob1_s hf
  refine r_putF (ci := 3) (k := 5) (ty0 := tyX3) (ty := tyX3 5) K dX3_init_34 inX3 rfl (by decide) rfl q_128 tyX3_ok nmX3 rfl hnm rfl rfl rfl rfl e12 ?_
  refine r_aload_n K 0 dX3_init_37 rfl ?_
  refine r_iload K 7 dX3_init_38 rfl ?_
  obtain ⟨g13, e14, hf⟩ := ob1_s hf
  refine r_putF (ci := 3) (k := 6) (ty0 := tyX3) (ty := tyX3 6) K dX3_init_40 inX3 rfl (by decide) rfl q_130 tyX3_ok nmX3 rfl hnm rfl rfl rfl rfl e14 ?_
  exact r_vret K dX3_init_43 hf (Nat.le_of_ble_eq_true rfl) (Nat.le_of_ble_eq_true rfl)
theorem ceX2_init : CE yX2_init 0 := ⟨by decide, by decide, by decide +kernel⟩
abbrev rmX2_init : Room := { frames := 1, cells := 6, slots := 1266, locals := 20 }
def fX2_init (a0 : Nat) (h : AH) : Option AH :=
  ob1 (pV h a0 2 0 (.int (1 : Int32))) fun g1 =>
  bnd g1.1 fun b3 =>
  bnd (hnew g1 (.inl (0, 211, .inl (fun _ => 0)))) fun g4 =>
  ob1 (pV g4 a0 2 1 (.ref b3)) fun g5 =>
  bnd g5.1 fun b7 =>
  bnd (hnew g5 (.inl (0, 211, .inl (fun _ => 0)))) fun g8 =>
  ob1 (pV g8 a0 2 2 (.ref b7)) fun g9 =>
  bnd g9.1 fun b11 =>
  bnd (hnew g9 (.inl (0, 211, .inl (fun _ => 0)))) fun g12 =>
  ob1 (pV g12 a0 2 3 (.ref b11)) fun g13 =>
  bnd g13.1 fun b15 =>
  bnd (hnew g13 (.inl (0, 211, .inl (fun _ => 0)))) fun g16 =>
  ob1 (pV g16 a0 2 4 (.ref b15)) fun g17 =>
  bnd g17.1 fun b19 =>
  bnd (hnew g17 (.inl (0, 211, .inl (fun _ => 0)))) fun g20 =>
  ob1 (pV g20 a0 2 5 (.ref b19)) fun g21 =>
  bnd g21.1 fun b23 =>
  bnd (hnew g21 (.inl (0, 211, .inl (fun _ => 0)))) fun g24 =>
  ob1 (pV g24 a0 2 6 (.ref b23)) fun g25 =>
  ob1 (gR g25 a0 2 6) fun b27 =>
  ob1 (sI g25 b27 (0 : Int32) (1 : Int32)) fun g29 =>
  some g29
set_option maxHeartbeats 4000000 in
set_option maxRecDepth 100000 in
theorem mX2_init (l : Launch) {G : GG} {b0 : Nat} {h : AH} {a0 : Nat} {hh : AH} (ht : isO h a0 2) (hf : fX2_init a0 h = some hh) : MM l yX2_init cX2_init 1 (none) rmX2_init G b0 h [.ref a0] none hh := by
  refine MM.of (own := RX2) (lv0 := [(0, .ref a0)]) (by decide) rfl (Nat.le_of_ble_eq_true rfl) rfl ?_
  intro p e s m args below meth c K hnm
  unfold fX2_init at hf
  refine r_aload_n K 0 dX2_init_0 rfl ?_
  refine r_objInit K dX2_init_1 q_184 q_97 q_98 (Nat.le_of_ble_eq_true rfl) (Nat.le_of_ble_eq_true rfl) ?_
  refine r_aload_n K 0 dX2_init_4 rfl ?_
  refine r_iconst (v := (1 : Int32)) K dX2_init_5 (by decide) ?_
  obtain ⟨g1, e2, hf⟩ := ob1_s hf
  refine r_putV (ci := 2) (k := 0) (ty0 := tyX2) (ty := tyX2 0) K dX2_init_6 inX2 rfl (by decide) rfl q_185 tyX2_ok nmX2 rfl rfl rfl rfl e2 ?_
  refine r_aload_n K 0 dX2_init_9 rfl ?_
  refine r_sipush (v := (211 : Int32)) K dX2_init_10 (by decide) ?_
  obtain ⟨b3, eb3, hf⟩ := bnd_g hf
  obtain ⟨g4, eg4, hf⟩ := bnd_g hf
  refine r_newa0 (cells1 := 1) (slots1 := 211) K dX2_init_13 q_148 (by decide) (by decide) (by decide) eb3 eg4 rfl rfl (Nat.le_of_ble_eq_true rfl) (Nat.le_of_ble_eq_true rfl) ?_
  obtain ⟨g5, e6, hf⟩ := ob1_s hf
  refine r_putF (ci := 2) (k := 1) (ty0 := tyX2) (ty := tyX2 1) K dX2_init_15 inX2 rfl (by decide) rfl q_188 tyX2_ok nmX2 rfl hnm rfl rfl rfl rfl e6 ?_
  refine r_aload_n K 0 dX2_init_18 rfl ?_
  refine r_sipush (v := (211 : Int32)) K dX2_init_19 (by decide) ?_
  obtain ⟨b7, eb7, hf⟩ := bnd_g hf
  obtain ⟨g8, eg8, hf⟩ := bnd_g hf
  refine r_newa0 (cells1 := 2) (slots1 := 422) K dX2_init_22 q_148 (by decide) (by decide) (by decide) eb7 eg8 rfl rfl (Nat.le_of_ble_eq_true rfl) (Nat.le_of_ble_eq_true rfl) ?_
  obtain ⟨g9, e10, hf⟩ := ob1_s hf
  refine r_putF (ci := 2) (k := 2) (ty0 := tyX2) (ty := tyX2 2) K dX2_init_24 inX2 rfl (by decide) rfl q_190 tyX2_ok nmX2 rfl hnm rfl rfl rfl rfl e10 ?_
  refine r_aload_n K 0 dX2_init_27 rfl ?_
  refine r_sipush (v := (211 : Int32)) K dX2_init_28 (by decide) ?_
  obtain ⟨b11, eb11, hf⟩ := bnd_g hf
  obtain ⟨g12, eg12, hf⟩ := bnd_g hf
  refine r_newa0 (cells1 := 3) (slots1 := 633) K dX2_init_31 q_148 (by decide) (by decide) (by decide) eb11 eg12 rfl rfl (Nat.le_of_ble_eq_true rfl) (Nat.le_of_ble_eq_true rfl) ?_
  obtain ⟨g13, e14, hf⟩ := ob1_s hf
  refine r_putF (ci := 2) (k := 3) (ty0 := tyX2) (ty := tyX2 3) K dX2_init_33 inX2 rfl (by decide) rfl q_192 tyX2_ok nmX2 rfl hnm rfl rfl rfl rfl e14 ?_
  refine r_aload_n K 0 dX2_init_36 rfl ?_
  refine r_sipush (v := (211 : Int32)) K dX2_init_37 (by decide) ?_
  obtain ⟨b15, eb15, hf⟩ := bnd_g hf
  obtain ⟨g16, eg16, hf⟩ := bnd_g hf
  refine r_newa0 (cells1 := 4) (slots1 := 844) K dX2_init_40 q_148 (by decide) (by decide) (by decide) eb15 eg16 rfl rfl (Nat.le_of_ble_eq_true rfl) (Nat.le_of_ble_eq_true rfl) ?_
  obtain ⟨g17, e18, hf⟩ := ob1_s hf
  refine r_putF (ci := 2) (k := 4) (ty0 := tyX2) (ty := tyX2 4) K dX2_init_42 inX2 rfl (by decide) rfl q_194 tyX2_ok nmX2 rfl hnm rfl rfl rfl rfl e18 ?_
  refine r_aload_n K 0 dX2_init_45 rfl ?_
  refine r_sipush (v := (211 : Int32)) K dX2_init_46 (by decide) ?_
  obtain ⟨b19, eb19, hf⟩ := bnd_g hf
  obtain ⟨g20, eg20, hf⟩ := bnd_g hf
  refine r_newa0 (cells1 := 5) (slots1 := 1055) K dX2_init_49 q_148 (by decide) (by decide) (by decide) eb19 eg20 rfl rfl (Nat.le_of_ble_eq_true rfl) (Nat.le_of_ble_eq_true rfl) ?_
  obtain ⟨g21, e22, hf⟩ := ob1_s hf
  refine r_putF (ci := 2) (k := 5) (ty0 := tyX2) (ty := tyX2 5) K dX2_init_51 inX2 rfl (by decide) rfl q_196 tyX2_ok nmX2 rfl hnm rfl rfl rfl rfl e22 ?_
  refine r_aload_n K 0 dX2_init_54 rfl ?_
  refine r_sipush (v := (211 : Int32)) K dX2_init_55 (by decide) ?_
  obtain ⟨b23, eb23, hf⟩ := bnd_g hf
  obtain ⟨g24, eg24, hf⟩ := bnd_g hf
  refine r_newa0 (cells1 := 6) (slots1 := 1266) K dX2_init_58 q_148 (by decide) (by decide) (by decide) eb23 eg24 rfl rfl (Nat.le_of_ble_eq_true rfl) (Nat.le_of_ble_eq_true rfl) ?_
  obtain ⟨g25, e26, hf⟩ := ob1_s hf
  refine r_putF (ci := 2) (k := 6) (ty0 := tyX2) (ty := tyX2 6) K dX2_init_60 inX2 rfl (by decide) rfl q_198 tyX2_ok nmX2 rfl hnm rfl rfl rfl rfl e26 ?_
  refine r_aload_n K 0 dX2_init_63 rfl ?_
  obtain ⟨b27, e28, hf⟩ := ob1_s hf
  refine r_getR (ci := 2) (k := 6) K dX2_init_64 inX2 rfl (by decide) rfl q_198 e28 ?_
  refine r_iconst (v := (0 : Int32)) K dX2_init_67 (by decide) ?_
  refine r_iconst (v := (1 : Int32)) K dX2_init_68 (by decide) ?_
  obtain ⟨g29, e30, hf⟩ := ob1_s hf
  refine r_iastore K dX2_init_69 e30 ?_
  exact r_vret K dX2_init_70 hf (Nat.le_of_ble_eq_true rfl) (Nat.le_of_ble_eq_true rfl)
theorem ceX2_grow : CE yX2_grow 3 := ⟨by decide, by decide, by decide +kernel⟩
abbrev rmX2_grow : Room := { frames := 0, cells := 0, slots := 0, locals := 0 }
def fX2_grow (a0 : Nat) (x1 : Int32) (x2 : Int32) (a3 : Nat) (h : AH) : Option AH :=
  ob1 (gI h a3 3 0) fun v1 =>
  ob1 (gR h a0 2 3) fun b3 =>
  ob1 (aI h b3 0 x1) fun v5 =>
  bnd (fun (g8 : AH) =>
    if (0 : Int32) = (0 : Int32) then
      some g8
    else
      ob1 (gI g8 a0 2 0) fun v9 =>
      if v9 < (211 : Int32) then
        ob1 (gR g8 a0 2 1) fun b11 =>
        ob1 (gI g8 a0 2 0) fun v13 =>
        ob1 (sI g8 b11 v13 x1) fun g15 =>
        ob1 (gR g15 a0 2 2) fun b17 =>
        ob1 (gI g15 a0 2 0) fun v19 =>
        ob1 (sI g15 b17 v19 x2) fun g21 =>
        ob1 (gR g21 a0 2 3) fun b23 =>
        ob1 (gI g21 a0 2 0) fun v25 =>
        ob1 (gI g21 a3 3 1) fun v27 =>
        ob1 (sI g21 b23 v25 v27) fun g29 =>
        ob1 (gR g29 a0 2 4) fun b31 =>
        ob1 (gI g29 a0 2 0) fun v33 =>
        ob1 (gR g29 a0 2 4) fun b35 =>
        ob1 (aI g29 b35 0 x1) fun v37 =>
        ob1 (sI g29 b31 v33 (v37 + (1 : Int32))) fun g39 =>
        ob1 (gR g39 a0 2 5) fun b41 =>
        ob1 (gI g39 a0 2 0) fun v43 =>
        ob1 (gR g39 a0 2 5) fun b45 =>
        ob1 (aI g39 b45 0 x1) fun v47 =>
        ob1 (sI g39 b41 v43 (v47 ||| ((1 : Int32) <<< (x2 &&& 31)))) fun g49 =>
        ob1 (gR g49 a0 2 6) fun b51 =>
        ob1 (gI g49 a0 2 0) fun v53 =>
        ob1 (gR g49 a0 2 6) fun b55 =>
        ob1 (aI g49 b55 0 x1) fun v57 =>
        ob1 (gI g49 a3 3 1) fun v59 =>
        ob1 (sI g49 b51 v53 (v57 ||| ((1 : Int32) <<< (v59 &&& 31)))) fun g61 =>
        ob1 (gI g61 a0 2 0) fun v63 =>
        ob1 (pV g61 a0 2 0 (.int (v63 + (1 : Int32)))) fun g65 =>
        some g65
      else
        some g8
  ) fun j7 =>
  if v1 = v5 then
    ob1 (gR h a0 2 6) fun b69 =>
    ob1 (aI h b69 0 x1) fun v71 =>
    ob1 (gI h a3 3 1) fun v73 =>
    if ((v71 >>> (v73 &&& 31)) &&& (1 : Int32)) = (0 : Int32) then
      if (1 : Int32) = (0 : Int32) then
        some h
      else
        ob1 (gI h a0 2 0) fun v75 =>
        if v75 < (211 : Int32) then
          ob1 (gR h a0 2 1) fun b77 =>
          ob1 (gI h a0 2 0) fun v79 =>
          ob1 (sI h b77 v79 x1) fun g81 =>
          ob1 (gR g81 a0 2 2) fun b83 =>
          ob1 (gI g81 a0 2 0) fun v85 =>
          ob1 (sI g81 b83 v85 x2) fun g87 =>
          ob1 (gR g87 a0 2 3) fun b89 =>
          ob1 (gI g87 a0 2 0) fun v91 =>
          ob1 (gI g87 a3 3 1) fun v93 =>
          ob1 (sI g87 b89 v91 v93) fun g95 =>
          ob1 (gR g95 a0 2 4) fun b97 =>
          ob1 (gI g95 a0 2 0) fun v99 =>
          ob1 (gR g95 a0 2 4) fun b101 =>
          ob1 (aI g95 b101 0 x1) fun v103 =>
          ob1 (sI g95 b97 v99 (v103 + (1 : Int32))) fun g105 =>
          ob1 (gR g105 a0 2 5) fun b107 =>
          ob1 (gI g105 a0 2 0) fun v109 =>
          ob1 (gR g105 a0 2 5) fun b111 =>
          ob1 (aI g105 b111 0 x1) fun v113 =>
          ob1 (sI g105 b107 v109 (v113 ||| ((1 : Int32) <<< (x2 &&& 31)))) fun g115 =>
          ob1 (gR g115 a0 2 6) fun b117 =>
          ob1 (gI g115 a0 2 0) fun v119 =>
          ob1 (gR g115 a0 2 6) fun b121 =>
          ob1 (aI g115 b121 0 x1) fun v123 =>
          ob1 (gI g115 a3 3 1) fun v125 =>
          ob1 (sI g115 b117 v119 (v123 ||| ((1 : Int32) <<< (v125 &&& 31)))) fun g127 =>
          ob1 (gI g127 a0 2 0) fun v129 =>
          ob1 (pV g127 a0 2 0 (.int (v129 + (1 : Int32)))) fun g131 =>
          some g131
        else
          some h
    else
      j7 h
  else
    j7 h
set_option maxHeartbeats 4000000 in
set_option maxRecDepth 100000 in
theorem mX2_grow (l : Launch) {G : GG} {b0 : Nat} {h : AH} {a0 : Nat} {x1 : Int32} {x2 : Int32} {a3 : Nat} {hh : AH} (ht : isO h a0 2) (hf : fX2_grow a0 x1 x2 a3 h = some hh) : MM l yX2_grow cX2_grow 5 (none) rmX2_grow G b0 h [.ref a0, .int x1, .int x2, .ref a3] none hh := by
  refine MM.of (own := RX2) (lv0 := [(0, .ref a0), (1, .int x1), (2, .int x2), (3, .ref a3)]) (by decide) rfl (Nat.le_of_ble_eq_true rfl) rfl ?_
  intro p e s m args below meth c K hnm
  unfold fX2_grow at hf
  refine r_aload_n K 3 dX2_grow_0 rfl ?_
  obtain ⟨v1, e2, hf⟩ := ob1_s hf
  refine r_getI (ci := 3) (k := 0) K dX2_grow_1 inX3 rfl (by decide) rfl q_115 e2 ?_
  refine r_aload_n K 0 dX2_grow_4 rfl ?_
  obtain ⟨b3, e4, hf⟩ := ob1_s hf
  refine r_getR (ci := 2) (k := 3) K dX2_grow_5 inX2 rfl (by decide) rfl q_192 e4 ?_
  refine r_iload_n K 1 dX2_grow_8 rfl ?_
  obtain ⟨v5, e6, hf⟩ := ob1_s hf
  refine r_iaload K dX2_grow_9 e6 ?_
  obtain ⟨j7, ej7, hf⟩ := bnd_g hf
  have Jj7 : ∀ (g8 : AH), j7 g8 = some hh → WA p l e rmX2_grow s m args below meth c (MQ below (QG G b0 h none hh) args s (rmX2_grow).cells (rmX2_grow).slots (AB b0)) G b0 5 h 0 0 g8 33 [(0, .ref a0), (1, .int x1), (2, .int x2), (3, .ref a3)] [] := by
    intro g8 hf
    rw [ej7] at hf
    refine r_iconst (v := (0 : Int32)) K dX2_grow_33 (by decide) ?_
    refine r_istore (lv1 := [(4, .int (0 : Int32)), (0, .ref a0), (1, .int x1), (2, .int x2), (3, .ref a3)]) K dX2_grow_34 (by decide) rfl ?_
    refine r_iload K 0 dX2_grow_36 rfl ?_
    refine r_if_eq (tgt := 51) K dX2_grow_38 (by decide) (fun c68 => ?_) (fun c68 => ?_)
    · replace hf := ite_t hf c68
      exact r_vret K dX2_grow_51 hf (Nat.le_of_ble_eq_true rfl) (Nat.le_of_ble_eq_true rfl)
    · replace hf := ite_f hf c68
      refine r_aload_n K 1 dX2_grow_41 rfl ?_
      obtain ⟨v9, e10, hf⟩ := ob1_s hf
      refine r_getI (ci := 2) (k := 0) K dX2_grow_42 inX2 rfl (by decide) rfl q_185 e10 ?_
      refine r_sipush (v := (211 : Int32)) K dX2_grow_45 (by decide) ?_
      refine r_icmp_lt (tgt := 52) K dX2_grow_48 (by decide) (fun c67 => ?_) (fun c67 => ?_)
      · replace hf := ite_t hf c67
        refine r_aload_n K 1 dX2_grow_52 rfl ?_
        obtain ⟨b11, e12, hf⟩ := ob1_s hf
        refine r_getR (ci := 2) (k := 1) K dX2_grow_53 inX2 rfl (by decide) rfl q_188 e12 ?_
        refine r_aload_n K 1 dX2_grow_56 rfl ?_
        obtain ⟨v13, e14, hf⟩ := ob1_s hf
        refine r_getI (ci := 2) (k := 0) K dX2_grow_57 inX2 rfl (by decide) rfl q_185 e14 ?_
        refine r_iload_n K 2 dX2_grow_60 rfl ?_
        obtain ⟨g15, e16, hf⟩ := ob1_s hf
        refine r_iastore K dX2_grow_61 e16 ?_
        refine r_aload_n K 1 dX2_grow_62 rfl ?_
        obtain ⟨b17, e18, hf⟩ := ob1_s hf
        refine r_getR (ci := 2) (k := 2) K dX2_grow_63 inX2 rfl (by decide) rfl q_190 e18 ?_
        refine r_aload_n K 1 dX2_grow_66 rfl ?_
        obtain ⟨v19, e20, hf⟩ := ob1_s hf
        refine r_getI (ci := 2) (k := 0) K dX2_grow_67 inX2 rfl (by decide) rfl q_185 e20 ?_
        refine r_iload_n K 3 dX2_grow_70 rfl ?_
        obtain ⟨g21, e22, hf⟩ := ob1_s hf
        refine r_iastore K dX2_grow_71 e22 ?_
        refine r_aload_n K 1 dX2_grow_72 rfl ?_
        obtain ⟨b23, e24, hf⟩ := ob1_s hf
        refine r_getR (ci := 2) (k := 3) K dX2_grow_73 inX2 rfl (by decide) rfl q_192 e24 ?_
        refine r_aload_n K 1 dX2_grow_76 rfl ?_
        obtain ⟨v25, e26, hf⟩ := ob1_s hf
        refine r_getI (ci := 2) (k := 0) K dX2_grow_77 inX2 rfl (by decide) rfl q_185 e26 ?_
        refine r_aload_n K 4 dX2_grow_80 rfl ?_
        obtain ⟨v27, e28, hf⟩ := ob1_s hf
        refine r_getI (ci := 3) (k := 1) K dX2_grow_81 inX3 rfl (by decide) rfl q_119 e28 ?_
        obtain ⟨g29, e30, hf⟩ := ob1_s hf
        refine r_iastore K dX2_grow_84 e30 ?_
        refine r_aload_n K 1 dX2_grow_85 rfl ?_
        obtain ⟨b31, e32, hf⟩ := ob1_s hf
        refine r_getR (ci := 2) (k := 4) K dX2_grow_86 inX2 rfl (by decide) rfl q_194 e32 ?_
        refine r_aload_n K 1 dX2_grow_89 rfl ?_
        obtain ⟨v33, e34, hf⟩ := ob1_s hf
        refine r_getI (ci := 2) (k := 0) K dX2_grow_90 inX2 rfl (by decide) rfl q_185 e34 ?_
        refine r_aload_n K 1 dX2_grow_93 rfl ?_
        obtain ⟨b35, e36, hf⟩ := ob1_s hf
        refine r_getR (ci := 2) (k := 4) K dX2_grow_94 inX2 rfl (by decide) rfl q_194 e36 ?_
        refine r_iload_n K 2 dX2_grow_97 rfl ?_
        obtain ⟨v37, e38, hf⟩ := ob1_s hf
        refine r_iaload K dX2_grow_98 e38 ?_
        refine r_iconst (v := (1 : Int32)) K dX2_grow_99 (by decide) ?_
        refine r_iadd K dX2_grow_100 ?_
        obtain ⟨g39, e40, hf⟩ := ob1_s hf
        refine r_iastore K dX2_grow_101 e40 ?_
        refine r_aload_n K 1 dX2_grow_102 rfl ?_
        obtain ⟨b41, e42, hf⟩ := ob1_s hf
        refine r_getR (ci := 2) (k := 5) K dX2_grow_103 inX2 rfl (by decide) rfl q_196 e42 ?_
        refine r_aload_n K 1 dX2_grow_106 rfl ?_
        obtain ⟨v43, e44, hf⟩ := ob1_s hf
        refine r_getI (ci := 2) (k := 0) K dX2_grow_107 inX2 rfl (by decide) rfl q_185 e44 ?_
        refine r_aload_n K 1 dX2_grow_110 rfl ?_
        obtain ⟨b45, e46, hf⟩ := ob1_s hf
        refine r_getR (ci := 2) (k := 5) K dX2_grow_111 inX2 rfl (by decide) rfl q_196 e46 ?_
        refine r_iload_n K 2 dX2_grow_114 rfl ?_
        obtain ⟨v47, e48, hf⟩ := ob1_s hf
        refine r_iaload K dX2_grow_115 e48 ?_
        refine r_iconst (v := (1 : Int32)) K dX2_grow_116 (by decide) ?_
        refine r_iload_n K 3 dX2_grow_117 rfl ?_
        refine r_ishl K dX2_grow_118 ?_
        refine r_ior K dX2_grow_119 ?_
        obtain ⟨g49, e50, hf⟩ := ob1_s hf
        refine r_iastore K dX2_grow_120 e50 ?_
        refine r_aload_n K 1 dX2_grow_121 rfl ?_
        obtain ⟨b51, e52, hf⟩ := ob1_s hf
        refine r_getR (ci := 2) (k := 6) K dX2_grow_122 inX2 rfl (by decide) rfl q_198 e52 ?_
        refine r_aload_n K 1 dX2_grow_125 rfl ?_
        obtain ⟨v53, e54, hf⟩ := ob1_s hf
        refine r_getI (ci := 2) (k := 0) K dX2_grow_126 inX2 rfl (by decide) rfl q_185 e54 ?_
        refine r_aload_n K 1 dX2_grow_129 rfl ?_
        obtain ⟨b55, e56, hf⟩ := ob1_s hf
        refine r_getR (ci := 2) (k := 6) K dX2_grow_130 inX2 rfl (by decide) rfl q_198 e56 ?_
        refine r_iload_n K 2 dX2_grow_133 rfl ?_
        obtain ⟨v57, e58, hf⟩ := ob1_s hf
        refine r_iaload K dX2_grow_134 e58 ?_
        refine r_iconst (v := (1 : Int32)) K dX2_grow_135 (by decide) ?_
        refine r_aload_n K 4 dX2_grow_136 rfl ?_
        obtain ⟨v59, e60, hf⟩ := ob1_s hf
        refine r_getI (ci := 3) (k := 1) K dX2_grow_137 inX3 rfl (by decide) rfl q_119 e60 ?_
        refine r_ishl K dX2_grow_140 ?_
        refine r_ior K dX2_grow_141 ?_
        obtain ⟨g61, e62, hf⟩ := ob1_s hf
        refine r_iastore K dX2_grow_142 e62 ?_
        refine r_aload_n K 1 dX2_grow_143 rfl ?_
        refine r_dup K dX2_grow_144 rfl ?_
        obtain ⟨v63, e64, hf⟩ := ob1_s hf
        refine r_getI (ci := 2) (k := 0) K dX2_grow_145 inX2 rfl (by decide) rfl q_185 e64 ?_
        refine r_iconst (v := (1 : Int32)) K dX2_grow_148 (by decide) ?_
        refine r_iadd K dX2_grow_149 ?_
        obtain ⟨g65, e66, hf⟩ := ob1_s hf
        refine r_putV (ci := 2) (k := 0) (ty0 := tyX2) (ty := tyX2 0) K dX2_grow_150 inX2 rfl (by decide) rfl q_185 tyX2_ok nmX2 rfl rfl rfl rfl e66 ?_
        exact r_vret K dX2_grow_153 hf (Nat.le_of_ble_eq_true rfl) (Nat.le_of_ble_eq_true rfl)
      · replace hf := ite_f hf c67
        exact r_vret K dX2_grow_51 hf (Nat.le_of_ble_eq_true rfl) (Nat.le_of_ble_eq_true rfl)
  refine r_icmp_ne (tgt := 33) K dX2_grow_10 (by decide) (fun c136 => ?_) (fun c136 => ?_)
  · replace hf := ite_f hf c136
    exact Jj7 h hf
  · replace hf := ite_t hf c136
    refine r_aload_n K 0 dX2_grow_13 rfl ?_
    obtain ⟨b69, e70, hf⟩ := ob1_s hf
    refine r_getR (ci := 2) (k := 6) K dX2_grow_14 inX2 rfl (by decide) rfl q_198 e70 ?_
    refine r_iload_n K 1 dX2_grow_17 rfl ?_
    obtain ⟨v71, e72, hf⟩ := ob1_s hf
    refine r_iaload K dX2_grow_18 e72 ?_
    refine r_aload_n K 3 dX2_grow_19 rfl ?_
    obtain ⟨v73, e74, hf⟩ := ob1_s hf
    refine r_getI (ci := 3) (k := 1) K dX2_grow_20 inX3 rfl (by decide) rfl q_119 e74 ?_
    refine r_ishr K dX2_grow_23 ?_
    refine r_iconst (v := (1 : Int32)) K dX2_grow_24 (by decide) ?_
    refine r_iand K dX2_grow_25 ?_
    refine r_if_ne (tgt := 33) K dX2_grow_26 (by decide) (fun c135 => ?_) (fun c135 => ?_)
    · replace hf := ite_f hf c135
      exact Jj7 h hf
    · replace hf := ite_t hf c135
      refine r_iconst (v := (1 : Int32)) K dX2_grow_29 (by decide) ?_
      refine r_goto (tgt := 34) K dX2_grow_30 (by decide) ?_
      refine r_istore (lv1 := [(4, .int (1 : Int32)), (0, .ref a0), (1, .int x1), (2, .int x2), (3, .ref a3)]) K dX2_grow_34 (by decide) rfl ?_
      refine r_iload K 0 dX2_grow_36 rfl ?_
      refine r_if_eq (tgt := 51) K dX2_grow_38 (by decide) (fun c134 => ?_) (fun c134 => ?_)
      · replace hf := ite_t hf c134
        exact r_vret K dX2_grow_51 hf (Nat.le_of_ble_eq_true rfl) (Nat.le_of_ble_eq_true rfl)
      · replace hf := ite_f hf c134
        refine r_aload_n K 1 dX2_grow_41 rfl ?_
        obtain ⟨v75, e76, hf⟩ := ob1_s hf
        refine r_getI (ci := 2) (k := 0) K dX2_grow_42 inX2 rfl (by decide) rfl q_185 e76 ?_
        refine r_sipush (v := (211 : Int32)) K dX2_grow_45 (by decide) ?_
        refine r_icmp_lt (tgt := 52) K dX2_grow_48 (by decide) (fun c133 => ?_) (fun c133 => ?_)
        · replace hf := ite_t hf c133
          refine r_aload_n K 1 dX2_grow_52 rfl ?_
          obtain ⟨b77, e78, hf⟩ := ob1_s hf
          refine r_getR (ci := 2) (k := 1) K dX2_grow_53 inX2 rfl (by decide) rfl q_188 e78 ?_
          refine r_aload_n K 1 dX2_grow_56 rfl ?_
          obtain ⟨v79, e80, hf⟩ := ob1_s hf
          refine r_getI (ci := 2) (k := 0) K dX2_grow_57 inX2 rfl (by decide) rfl q_185 e80 ?_
          refine r_iload_n K 2 dX2_grow_60 rfl ?_
          obtain ⟨g81, e82, hf⟩ := ob1_s hf
          refine r_iastore K dX2_grow_61 e82 ?_
          refine r_aload_n K 1 dX2_grow_62 rfl ?_
          obtain ⟨b83, e84, hf⟩ := ob1_s hf
          refine r_getR (ci := 2) (k := 2) K dX2_grow_63 inX2 rfl (by decide) rfl q_190 e84 ?_
          refine r_aload_n K 1 dX2_grow_66 rfl ?_
          obtain ⟨v85, e86, hf⟩ := ob1_s hf
          refine r_getI (ci := 2) (k := 0) K dX2_grow_67 inX2 rfl (by decide) rfl q_185 e86 ?_
          refine r_iload_n K 3 dX2_grow_70 rfl ?_
          obtain ⟨g87, e88, hf⟩ := ob1_s hf
          refine r_iastore K dX2_grow_71 e88 ?_
          refine r_aload_n K 1 dX2_grow_72 rfl ?_
          obtain ⟨b89, e90, hf⟩ := ob1_s hf
          refine r_getR (ci := 2) (k := 3) K dX2_grow_73 inX2 rfl (by decide) rfl q_192 e90 ?_
          refine r_aload_n K 1 dX2_grow_76 rfl ?_
          obtain ⟨v91, e92, hf⟩ := ob1_s hf
          refine r_getI (ci := 2) (k := 0) K dX2_grow_77 inX2 rfl (by decide) rfl q_185 e92 ?_
          refine r_aload_n K 4 dX2_grow_80 rfl ?_
          obtain ⟨v93, e94, hf⟩ := ob1_s hf
          refine r_getI (ci := 3) (k := 1) K dX2_grow_81 inX3 rfl (by decide) rfl q_119 e94 ?_
          obtain ⟨g95, e96, hf⟩ := ob1_s hf
          refine r_iastore K dX2_grow_84 e96 ?_
          refine r_aload_n K 1 dX2_grow_85 rfl ?_
          obtain ⟨b97, e98, hf⟩ := ob1_s hf
          refine r_getR (ci := 2) (k := 4) K dX2_grow_86 inX2 rfl (by decide) rfl q_194 e98 ?_
          refine r_aload_n K 1 dX2_grow_89 rfl ?_
          obtain ⟨v99, e100, hf⟩ := ob1_s hf
          refine r_getI (ci := 2) (k := 0) K dX2_grow_90 inX2 rfl (by decide) rfl q_185 e100 ?_
          refine r_aload_n K 1 dX2_grow_93 rfl ?_
          obtain ⟨b101, e102, hf⟩ := ob1_s hf
          refine r_getR (ci := 2) (k := 4) K dX2_grow_94 inX2 rfl (by decide) rfl q_194 e102 ?_
          refine r_iload_n K 2 dX2_grow_97 rfl ?_
          obtain ⟨v103, e104, hf⟩ := ob1_s hf
          refine r_iaload K dX2_grow_98 e104 ?_
          refine r_iconst (v := (1 : Int32)) K dX2_grow_99 (by decide) ?_
          refine r_iadd K dX2_grow_100 ?_
          obtain ⟨g105, e106, hf⟩ := ob1_s hf
          refine r_iastore K dX2_grow_101 e106 ?_
          refine r_aload_n K 1 dX2_grow_102 rfl ?_
          obtain ⟨b107, e108, hf⟩ := ob1_s hf
          refine r_getR (ci := 2) (k := 5) K dX2_grow_103 inX2 rfl (by decide) rfl q_196 e108 ?_
          refine r_aload_n K 1 dX2_grow_106 rfl ?_
          obtain ⟨v109, e110, hf⟩ := ob1_s hf
          refine r_getI (ci := 2) (k := 0) K dX2_grow_107 inX2 rfl (by decide) rfl q_185 e110 ?_
          refine r_aload_n K 1 dX2_grow_110 rfl ?_
          obtain ⟨b111, e112, hf⟩ := ob1_s hf
          refine r_getR (ci := 2) (k := 5) K dX2_grow_111 inX2 rfl (by decide) rfl q_196 e112 ?_
          refine r_iload_n K 2 dX2_grow_114 rfl ?_
          obtain ⟨v113, e114, hf⟩ := ob1_s hf
          refine r_iaload K dX2_grow_115 e114 ?_
          refine r_iconst (v := (1 : Int32)) K dX2_grow_116 (by decide) ?_
          refine r_iload_n K 3 dX2_grow_117 rfl ?_
          refine r_ishl K dX2_grow_118 ?_
          refine r_ior K dX2_grow_119 ?_
          obtain ⟨g115, e116, hf⟩ := ob1_s hf
          refine r_iastore K dX2_grow_120 e116 ?_
          refine r_aload_n K 1 dX2_grow_121 rfl ?_
          obtain ⟨b117, e118, hf⟩ := ob1_s hf
          refine r_getR (ci := 2) (k := 6) K dX2_grow_122 inX2 rfl (by decide) rfl q_198 e118 ?_
          refine r_aload_n K 1 dX2_grow_125 rfl ?_
          obtain ⟨v119, e120, hf⟩ := ob1_s hf
          refine r_getI (ci := 2) (k := 0) K dX2_grow_126 inX2 rfl (by decide) rfl q_185 e120 ?_
          refine r_aload_n K 1 dX2_grow_129 rfl ?_
          obtain ⟨b121, e122, hf⟩ := ob1_s hf
          refine r_getR (ci := 2) (k := 6) K dX2_grow_130 inX2 rfl (by decide) rfl q_198 e122 ?_
          refine r_iload_n K 2 dX2_grow_133 rfl ?_
          obtain ⟨v123, e124, hf⟩ := ob1_s hf
          refine r_iaload K dX2_grow_134 e124 ?_
          refine r_iconst (v := (1 : Int32)) K dX2_grow_135 (by decide) ?_
          refine r_aload_n K 4 dX2_grow_136 rfl ?_
          obtain ⟨v125, e126, hf⟩ := ob1_s hf
          refine r_getI (ci := 3) (k := 1) K dX2_grow_137 inX3 rfl (by decide) rfl q_119 e126 ?_
          refine r_ishl K dX2_grow_140 ?_
          refine r_ior K dX2_grow_141 ?_
          obtain ⟨g127, e128, hf⟩ := ob1_s hf
          refine r_iastore K dX2_grow_142 e128 ?_
          refine r_aload_n K 1 dX2_grow_143 rfl ?_
          refine r_dup K dX2_grow_144 rfl ?_
          obtain ⟨v129, e130, hf⟩ := ob1_s hf
          refine r_getI (ci := 2) (k := 0) K dX2_grow_145 inX2 rfl (by decide) rfl q_185 e130 ?_
          refine r_iconst (v := (1 : Int32)) K dX2_grow_148 (by decide) ?_
          refine r_iadd K dX2_grow_149 ?_
          obtain ⟨g131, e132, hf⟩ := ob1_s hf
          refine r_putV (ci := 2) (k := 0) (ty0 := tyX2) (ty := tyX2 0) K dX2_grow_150 inX2 rfl (by decide) rfl q_185 tyX2_ok nmX2 rfl rfl rfl rfl e132 ?_
          exact r_vret K dX2_grow_153 hf (Nat.le_of_ble_eq_true rfl) (Nat.le_of_ble_eq_true rfl)
        · replace hf := ite_f hf c133
          exact r_vret K dX2_grow_51 hf (Nat.le_of_ble_eq_true rfl) (Nat.le_of_ble_eq_true rfl)
theorem ceX2_find : CE yX2_find 2 := ⟨by decide, by decide, by decide +kernel⟩
abbrev rmX2_find : Room := { frames := 1, cells := 0, slots := 0, locals := 24 }
def fX2_find_L25 (a0 : Nat) (a1 : Nat) (x2 : Int32) (x3 : Int32) (k : AH → Option AH) : Nat → Int32 → AH → Option AH
  | 0, _, _ => none
  | n + 1, x4, h =>
    ob1 (gI h a1 1 1) fun v5 =>
    if v5 ≤ x4 then
      k h
    else
      if x4 = x2 then
        bnd (x4 + (1 : Int32)) fun y7 =>
        fX2_find_L25 a0 a1 x2 x3 k n y7 h
      else
        ob1 (gR h a1 1 2) fun b8 =>
        ob1 (aR h b8 4 x4) fun b10 =>
        ob1 (fX2_grow a0 x3 x4 b10 h) fun g12 =>
        bnd (x4 + (1 : Int32)) fun y14 =>
        fX2_find_L25 a0 a1 x2 x3 k n y14 g12
def fX2_find_L7 (a0 : Nat) (a1 : Nat) (x2 : Int32) (k : AH → Option AH) : Nat → Int32 → AH → Option AH
  | 0, _, _ => none
  | n + 1, x3, h =>
    ob1 (gI h a0 2 0) fun v3 =>
    if v3 ≤ x3 then
      k h
    else
      if (211 : Int32) ≤ x3 then
        k h
      else
        fX2_find_L25 a0 a1 x2 x3 (fun (g17 : AH) =>
          bnd (x3 + (1 : Int32)) fun y18 =>
          fX2_find_L7 a0 a1 x2 k n y18 g17
        ) lf (0 : Int32) h
def fX2_find (a0 : Nat) (a1 : Nat) (x2 : Int32) (h : AH) : Option AH :=
  ob1 (pV h a0 2 0 (.int (1 : Int32))) fun g1 =>
  fX2_find_L7 a0 a1 x2 (fun (g21 : AH) =>
    some g21
  ) lf (0 : Int32) g1
set_option maxHeartbeats 4000000 in
set_option maxRecDepth 100000 in
theorem wX2_find_L25 {p : Program} {l : Launch} {e : Env} {s : State} {m : MethodId} {args : Array Value} {below : List Frame} {meth : Method} {c : Code} {G : GG} {b0 : Nat} {h0 : AH} {a0 : Nat} {a1 : Nat} {x2 : Int32} {x3 : Int32} {hh : AH} (K : CX p s m args meth c cX2_find 5 RX2 (none) G b0) (ht : isO h0 a0 2) (k : AH → Option AH) (hk : ∀ (h : AH), k h = some hh → WA p l e rmX2_find s m args below meth c (MQ below (QG G b0 h0 none hh) args s (rmX2_find).cells (rmX2_find).slots (AB b0)) G b0 5 h0 0 0 h 60 [(0, .ref a0), (1, .ref a1), (2, .int x2), (3, .int x3)] []) : ∀ (n : Nat) (x4 : Int32) (h : AH), fX2_find_L25 a0 a1 x2 x3 k n x4 h = some hh → WA p l e rmX2_find s m args below meth c (MQ below (QG G b0 h0 none hh) args s (rmX2_find).cells (rmX2_find).slots (AB b0)) G b0 5 h0 0 0 h 25 [(0, .ref a0), (1, .ref a1), (2, .int x2), (3, .int x3), (4, .int x4)] [] := by
  intro n
  induction n with
  | zero =>
    intro x4 h hf
    rw [fX2_find_L25] at hf
    cases hf
  | succ n ih =>
    intro x4 h hf
    rw [fX2_find_L25] at hf
    refine r_iload K 4 dX2_find_25 rfl ?_
    refine r_aload_n K 1 dX2_find_27 rfl ?_
    obtain ⟨v5, e6, hf⟩ := ob1_s hf
    refine r_getI (ci := 1) (k := 1) K dX2_find_28 inX1 rfl (by decide) rfl q_153 e6 ?_
    refine r_icmp_ge (tgt := 60) K dX2_find_31 (by decide) (fun c16 => ?_) (fun c16 => ?_)
    · replace hf := ite_t hf c16
      refine r_lv [0, 1, 2, 3] rfl ?_
      exact hk h hf
    · replace hf := ite_f hf c16
      refine r_iload K 4 dX2_find_34 rfl ?_
      refine r_iload_n K 2 dX2_find_36 rfl ?_
      refine r_icmp_eq (tgt := 54) K dX2_find_37 (by decide) (fun c15 => ?_) (fun c15 => ?_)
      · replace hf := ite_t hf c15
        obtain ⟨y7, ey7, hf⟩ := bnd_g hf
        refine r_iinc (lv1 := [(4, .int y7), (0, .ref a0), (1, .ref a1), (2, .int x2), (3, .int x3)]) K 4 dX2_find_54 rfl (by rw [ey7]; rfl) (by decide) rfl ?_
        refine r_goto (tgt := 25) K dX2_find_57 (by decide) ?_
        refine r_lv [1, 2, 3, 4, 0] rfl ?_
        exact ih y7 h hf
      · replace hf := ite_f hf c15
        refine r_aload_n K 0 dX2_find_40 rfl ?_
        refine r_iload_n K 3 dX2_find_41 rfl ?_
        refine r_iload K 4 dX2_find_42 rfl ?_
        refine r_aload_n K 1 dX2_find_44 rfl ?_
        obtain ⟨b8, e9, hf⟩ := ob1_s hf
        refine r_getR (ci := 1) (k := 2) K dX2_find_45 inX1 rfl (by decide) rfl q_159 e9 ?_
        refine r_iload K 4 dX2_find_48 rfl ?_
        obtain ⟨b10, e11, hf⟩ := ob1_s hf
        refine r_aaload (kd := 4) (ty := .object RX3) K dX2_find_50 rfl rfl e11 ?_
        obtain ⟨g12, e13, hf⟩ := ob1_s hf
        refine r_callV (As := [.int x3, .int x4, .ref b10]) (rest := []) (st1 := []) (cells1 := 0) (slots1 := 0) (b := a0) (ci := 2) K (fun z => mX2_grow l z e13) dX2_find_51 rfl (fun z => z _ _ ht) rfl ceX2_grow q_569 q_571 q_10 q_78 q_572 ⟨Nat.le_of_ble_eq_true rfl, Nat.le_of_ble_eq_true rfl⟩ (Nat.le_of_ble_eq_true rfl) ⟨Nat.le_of_ble_eq_true rfl, Nat.le_of_ble_eq_true rfl⟩ ?_ rfl rfl rfl rfl
        obtain ⟨y14, ey14, hf⟩ := bnd_g hf
        refine r_iinc (lv1 := [(4, .int y14), (0, .ref a0), (1, .ref a1), (2, .int x2), (3, .int x3)]) K 4 dX2_find_54 rfl (by rw [ey14]; rfl) (by decide) rfl ?_
        refine r_goto (tgt := 25) K dX2_find_57 (by decide) ?_
        refine r_lv [1, 2, 3, 4, 0] rfl ?_
        exact ih y14 g12 hf
set_option maxHeartbeats 4000000 in
set_option maxRecDepth 100000 in
theorem wX2_find_L7 {p : Program} {l : Launch} {e : Env} {s : State} {m : MethodId} {args : Array Value} {below : List Frame} {meth : Method} {c : Code} {G : GG} {b0 : Nat} {h0 : AH} {a0 : Nat} {a1 : Nat} {x2 : Int32} {hh : AH} (K : CX p s m args meth c cX2_find 5 RX2 (none) G b0) (ht : isO h0 a0 2) (k : AH → Option AH) (hk : ∀ (h : AH), k h = some hh → WA p l e rmX2_find s m args below meth c (MQ below (QG G b0 h0 none hh) args s (rmX2_find).cells (rmX2_find).slots (AB b0)) G b0 5 h0 0 0 h 66 [] []) : ∀ (n : Nat) (x3 : Int32) (h : AH), fX2_find_L7 a0 a1 x2 k n x3 h = some hh → WA p l e rmX2_find s m args below meth c (MQ below (QG G b0 h0 none hh) args s (rmX2_find).cells (rmX2_find).slots (AB b0)) G b0 5 h0 0 0 h 7 [(0, .ref a0), (1, .ref a1), (2, .int x2), (3, .int x3)] [] := by
  intro n
  induction n with
  | zero =>
    intro x3 h hf
    rw [fX2_find_L7] at hf
    cases hf
  | succ n ih =>
    intro x3 h hf
    rw [fX2_find_L7] at hf
    refine r_iload_n K 3 dX2_find_7 rfl ?_
    refine r_aload_n K 0 dX2_find_8 rfl ?_
    obtain ⟨v3, e4, hf⟩ := ob1_s hf
    refine r_getI (ci := 2) (k := 0) K dX2_find_9 inX2 rfl (by decide) rfl q_185 e4 ?_
    refine r_icmp_ge (tgt := 66) K dX2_find_12 (by decide) (fun c20 => ?_) (fun c20 => ?_)
    · replace hf := ite_t hf c20
      refine r_lv [] rfl ?_
      exact hk h hf
    · replace hf := ite_f hf c20
      refine r_iload_n K 3 dX2_find_15 rfl ?_
      refine r_sipush (v := (211 : Int32)) K dX2_find_16 (by decide) ?_
      refine r_icmp_ge (tgt := 66) K dX2_find_19 (by decide) (fun c19 => ?_) (fun c19 => ?_)
      · replace hf := ite_t hf c19
        refine r_lv [] rfl ?_
        exact hk h hf
      · replace hf := ite_f hf c19
        refine r_iconst (v := (0 : Int32)) K dX2_find_22 (by decide) ?_
        refine r_istore (lv1 := [(4, .int (0 : Int32)), (0, .ref a0), (1, .ref a1), (2, .int x2), (3, .int x3)]) K dX2_find_23 (by decide) rfl ?_
        refine r_lv [1, 2, 3, 4, 0] rfl ?_
        refine wX2_find_L25 K ht _ (fun g17 hf => ?_) lf (0 : Int32) h hf
        obtain ⟨y18, ey18, hf⟩ := bnd_g hf
        refine r_iinc (lv1 := [(3, .int y18), (0, .ref a0), (1, .ref a1), (2, .int x2)]) K 3 dX2_find_60 rfl (by rw [ey18]; rfl) (by decide) rfl ?_
        refine r_goto (tgt := 7) K dX2_find_63 (by decide) ?_
        refine r_lv [1, 2, 3, 0] rfl ?_
        exact ih y18 g17 hf
set_option maxHeartbeats 4000000 in
set_option maxRecDepth 100000 in
theorem mX2_find (l : Launch) {G : GG} {b0 : Nat} {h : AH} {a0 : Nat} {a1 : Nat} {x2 : Int32} {hh : AH} (ht : isO h a0 2) (hf : fX2_find a0 a1 x2 h = some hh) : MM l yX2_find cX2_find 5 (none) rmX2_find G b0 h [.ref a0, .ref a1, .int x2] none hh := by
  refine MM.of (own := RX2) (lv0 := [(0, .ref a0), (1, .ref a1), (2, .int x2)]) (by decide) rfl (Nat.le_of_ble_eq_true rfl) rfl ?_
  intro p e s m args below meth c K hnm
  unfold fX2_find at hf
  refine r_aload_n K 0 dX2_find_0 rfl ?_
  refine r_iconst (v := (1 : Int32)) K dX2_find_1 (by decide) ?_
  obtain ⟨g1, e2, hf⟩ := ob1_s hf
  refine r_putV (ci := 2) (k := 0) (ty0 := tyX2) (ty := tyX2 0) K dX2_find_2 inX2 rfl (by decide) rfl q_185 tyX2_ok nmX2 rfl rfl rfl rfl e2 ?_
  refine r_iconst (v := (0 : Int32)) K dX2_find_5 (by decide) ?_
  refine r_istore_n (lv1 := [(3, .int (0 : Int32)), (0, .ref a0), (1, .ref a1), (2, .int x2)]) K dX2_find_6 (by decide) rfl ?_
  refine r_lv [1, 2, 3, 0] rfl ?_
  refine wX2_find_L7 K ht _ (fun g21 hf => ?_) lf (0 : Int32) g1 hf
  exact r_vret K dX2_find_66 hf (Nat.le_of_ble_eq_true rfl) (Nat.le_of_ble_eq_true rfl)
theorem ceX2_uses : CE yX2_uses 2 := ⟨by decide, by decide, by decide +kernel⟩
abbrev rmX2_uses : Room := { frames := 0, cells := 0, slots := 0, locals := 0 }
def fX2_uses (a0 : Nat) (x1 : Int32) (x2 : Int32) (h : AH) : Option Int32 :=
  ob1 (gR h a0 2 5) fun b1 =>
  ob1 (aI h b1 0 x1) fun v3 =>
  if ((v3 >>> (x2 &&& 31)) &&& (1 : Int32)) = (1 : Int32) then
    some (1 : Int32)
  else
    some (0 : Int32)
set_option maxHeartbeats 4000000 in
set_option maxRecDepth 100000 in
theorem mX2_uses (l : Launch) {G : GG} {b0 : Nat} {h : AH} {a0 : Nat} {x1 : Int32} {x2 : Int32} {rr : Int32} (ht : isO h a0 2) (hf : fX2_uses a0 x1 x2 h = some rr) : MM l yX2_uses cX2_uses 3 (some .boolean) rmX2_uses G b0 h [.ref a0, .int x1, .int x2] (some (.int rr)) h := by
  refine MM.of (own := RX2) (lv0 := [(0, .ref a0), (1, .int x1), (2, .int x2)]) (by decide) rfl (Nat.le_of_ble_eq_true rfl) rfl ?_
  intro p e s m args below meth c K hnm
  unfold fX2_uses at hf
  refine r_aload_n K 0 dX2_uses_0 rfl ?_
  obtain ⟨b1, e2, hf⟩ := ob1_s hf
  refine r_getR (ci := 2) (k := 5) K dX2_uses_1 inX2 rfl (by decide) rfl q_196 e2 ?_
  refine r_iload_n K 1 dX2_uses_4 rfl ?_
  obtain ⟨v3, e4, hf⟩ := ob1_s hf
  refine r_iaload K dX2_uses_5 e4 ?_
  refine r_iload_n K 2 dX2_uses_6 rfl ?_
  refine r_ishr K dX2_uses_7 ?_
  refine r_iconst (v := (1 : Int32)) K dX2_uses_8 (by decide) ?_
  refine r_iand K dX2_uses_9 ?_
  refine r_iconst (v := (1 : Int32)) K dX2_uses_10 (by decide) ?_
  refine r_icmp_ne (tgt := 18) K dX2_uses_11 (by decide) (fun c5 => ?_) (fun c5 => ?_)
  · replace hf := ite_f hf c5
    refine r_iconst (v := (0 : Int32)) K dX2_uses_18 (by decide) ?_
    exact r_zret K dX2_uses_19 rfl (retp hf) (Nat.le_of_ble_eq_true rfl) (Nat.le_of_ble_eq_true rfl)
  · replace hf := ite_t hf c5
    refine r_iconst (v := (1 : Int32)) K dX2_uses_14 (by decide) ?_
    refine r_goto (tgt := 19) K dX2_uses_15 (by decide) ?_
    exact r_zret K dX2_uses_19 rfl (retp hf) (Nat.le_of_ble_eq_true rfl) (Nat.le_of_ble_eq_true rfl)
theorem ceX2_countTo : CE yX2_countTo 1 := ⟨by decide, by decide, by decide +kernel⟩
abbrev rmX2_countTo : Room := { frames := 0, cells := 0, slots := 0, locals := 0 }
def fX2_countTo_L4 (a0 : Nat) (x1 : Int32) (h : AH) (k : Int32 → Option Int32) : Nat → Int32 → Int32 → Option Int32
  | 0, _, _ => none
  | n + 1, x2, x3 =>
    ob1 (gI h a0 2 0) fun v1 =>
    if v1 ≤ x3 then
      k x2
    else
      ob1 (gR h a0 2 3) fun b3 =>
      ob1 (aI h b3 0 x3) fun v5 =>
      if v5 = x1 then
        bnd (x2 + (1 : Int32)) fun y9 =>
        bnd (x3 + (1 : Int32)) fun y10 =>
        fX2_countTo_L4 a0 x1 h k n y9 y10
      else
        bnd (x2 + (0 : Int32)) fun y7 =>
        bnd (x3 + (1 : Int32)) fun y8 =>
        fX2_countTo_L4 a0 x1 h k n y7 y8
def fX2_countTo (a0 : Nat) (x1 : Int32) (h : AH) : Option Int32 :=
  fX2_countTo_L4 a0 x1 h (fun (y13 : Int32) =>
    some y13
  ) lf (0 : Int32) (1 : Int32)
set_option maxHeartbeats 4000000 in
set_option maxRecDepth 100000 in
theorem wX2_countTo_L4 {p : Program} {l : Launch} {e : Env} {s : State} {m : MethodId} {args : Array Value} {below : List Frame} {meth : Method} {c : Code} {G : GG} {b0 : Nat} {h0 : AH} {a0 : Nat} {x1 : Int32} {h : AH} {rr : Int32} (K : CX p s m args meth c cX2_countTo 4 RX2 (some .int) G b0) (ht : isO h0 a0 2) (k : Int32 → Option Int32) (hk : ∀ (x2 : Int32), k x2 = some rr → WA p l e rmX2_countTo s m args below meth c (MQ below (QG G b0 h0 (some (.int rr)) h) args s (rmX2_countTo).cells (rmX2_countTo).slots (AB b0)) G b0 4 h0 0 0 h 36 [(2, .int x2)] []) : ∀ (n : Nat) (x2 : Int32) (x3 : Int32), fX2_countTo_L4 a0 x1 h k n x2 x3 = some rr → WA p l e rmX2_countTo s m args below meth c (MQ below (QG G b0 h0 (some (.int rr)) h) args s (rmX2_countTo).cells (rmX2_countTo).slots (AB b0)) G b0 4 h0 0 0 h 4 [(0, .ref a0), (1, .int x1), (2, .int x2), (3, .int x3)] [] := by
  intro n
  induction n with
  | zero =>
    intro x2 x3 hf
    rw [fX2_countTo_L4] at hf
    cases hf
  | succ n ih =>
    intro x2 x3 hf
    rw [fX2_countTo_L4] at hf
    refine r_iload_n K 3 dX2_countTo_4 rfl ?_
    refine r_aload_n K 0 dX2_countTo_5 rfl ?_
    obtain ⟨v1, e2, hf⟩ := ob1_s hf
    refine r_getI (ci := 2) (k := 0) K dX2_countTo_6 inX2 rfl (by decide) rfl q_185 e2 ?_
    refine r_icmp_ge (tgt := 36) K dX2_countTo_9 (by decide) (fun c12 => ?_) (fun c12 => ?_)
    · replace hf := ite_t hf c12
      refine r_lv [2] rfl ?_
      exact hk x2 hf
    · replace hf := ite_f hf c12
      refine r_iload_n K 2 dX2_countTo_12 rfl ?_
      refine r_aload_n K 0 dX2_countTo_13 rfl ?_
      obtain ⟨b3, e4, hf⟩ := ob1_s hf
      refine r_getR (ci := 2) (k := 3) K dX2_countTo_14 inX2 rfl (by decide) rfl q_192 e4 ?_
      refine r_iload_n K 3 dX2_countTo_17 rfl ?_
      obtain ⟨v5, e6, hf⟩ := ob1_s hf
      refine r_iaload K dX2_countTo_18 e6 ?_
      refine r_iload_n K 1 dX2_countTo_19 rfl ?_
      refine r_icmp_ne (tgt := 27) K dX2_countTo_20 (by decide) (fun c11 => ?_) (fun c11 => ?_)
      · replace hf := ite_f hf c11
        refine r_iconst (v := (0 : Int32)) K dX2_countTo_27 (by decide) ?_
        refine r_iadd K dX2_countTo_28 ?_
        obtain ⟨y7, ey7, hf⟩ := bnd_g hf
        refine r_nmi ey7 ?_
        refine r_istore_n (lv1 := [(2, .int y7), (0, .ref a0), (1, .int x1), (3, .int x3)]) K dX2_countTo_29 (by decide) rfl ?_
        obtain ⟨y8, ey8, hf⟩ := bnd_g hf
        refine r_iinc (lv1 := [(3, .int y8), (2, .int y7), (0, .ref a0), (1, .int x1)]) K 3 dX2_countTo_30 rfl (by rw [ey8]; rfl) (by decide) rfl ?_
        refine r_goto (tgt := 4) K dX2_countTo_33 (by decide) ?_
        refine r_lv [2, 3, 1, 0] rfl ?_
        exact ih y7 y8 hf
      · replace hf := ite_t hf c11
        refine r_iconst (v := (1 : Int32)) K dX2_countTo_23 (by decide) ?_
        refine r_goto (tgt := 28) K dX2_countTo_24 (by decide) ?_
        refine r_iadd K dX2_countTo_28 ?_
        obtain ⟨y9, ey9, hf⟩ := bnd_g hf
        refine r_nmi ey9 ?_
        refine r_istore_n (lv1 := [(2, .int y9), (0, .ref a0), (1, .int x1), (3, .int x3)]) K dX2_countTo_29 (by decide) rfl ?_
        obtain ⟨y10, ey10, hf⟩ := bnd_g hf
        refine r_iinc (lv1 := [(3, .int y10), (2, .int y9), (0, .ref a0), (1, .int x1)]) K 3 dX2_countTo_30 rfl (by rw [ey10]; rfl) (by decide) rfl ?_
        refine r_goto (tgt := 4) K dX2_countTo_33 (by decide) ?_
        refine r_lv [2, 3, 1, 0] rfl ?_
        exact ih y9 y10 hf
set_option maxHeartbeats 4000000 in
set_option maxRecDepth 100000 in
theorem mX2_countTo (l : Launch) {G : GG} {b0 : Nat} {h : AH} {a0 : Nat} {x1 : Int32} {rr : Int32} (ht : isO h a0 2) (hf : fX2_countTo a0 x1 h = some rr) : MM l yX2_countTo cX2_countTo 4 (some .int) rmX2_countTo G b0 h [.ref a0, .int x1] (some (.int rr)) h := by
  refine MM.of (own := RX2) (lv0 := [(0, .ref a0), (1, .int x1)]) (by decide) rfl (Nat.le_of_ble_eq_true rfl) rfl ?_
  intro p e s m args below meth c K hnm
  unfold fX2_countTo at hf
  refine r_iconst (v := (0 : Int32)) K dX2_countTo_0 (by decide) ?_
  refine r_istore_n (lv1 := [(2, .int (0 : Int32)), (0, .ref a0), (1, .int x1)]) K dX2_countTo_1 (by decide) rfl ?_
  refine r_iconst (v := (1 : Int32)) K dX2_countTo_2 (by decide) ?_
  refine r_istore_n (lv1 := [(3, .int (1 : Int32)), (2, .int (0 : Int32)), (0, .ref a0), (1, .int x1)]) K dX2_countTo_3 (by decide) rfl ?_
  refine r_lv [2, 3, 1, 0] rfl ?_
  refine wX2_countTo_L4 K ht _ (fun y13 hf => ?_) lf (0 : Int32) (1 : Int32) hf
  refine r_iload_n K 0 dX2_countTo_36 rfl ?_
  exact r_iret K dX2_countTo_37 (retp hf) (Nat.le_of_ble_eq_true rfl) (Nat.le_of_ble_eq_true rfl)
theorem ceX2_rowTo : CE yX2_rowTo 2 := ⟨by decide, by decide, by decide +kernel⟩
abbrev rmX2_rowTo : Room := { frames := 0, cells := 0, slots := 0, locals := 0 }
def fX2_rowTo_L5 (a0 : Nat) (x1 : Int32) (x2 : Int32) (h : AH) (k : Option Int32) : Nat → Int32 → Int32 → Option Int32
  | 0, _, _ => none
  | n + 1, x3, x4 =>
    ob1 (gI h a0 2 0) fun v1 =>
    if v1 ≤ x4 then
      k
    else
      ob1 (gR h a0 2 3) fun b3 =>
      ob1 (aI h b3 0 x4) fun v5 =>
      if v5 = x1 then
        if x3 = x2 then
          some x4
        else
          bnd (x3 + (1 : Int32)) fun y8 =>
          bnd (x4 + (1 : Int32)) fun y9 =>
          fX2_rowTo_L5 a0 x1 x2 h k n y8 y9
      else
        bnd (x4 + (1 : Int32)) fun y7 =>
        fX2_rowTo_L5 a0 x1 x2 h k n x3 y7
def fX2_rowTo (a0 : Nat) (x1 : Int32) (x2 : Int32) (h : AH) : Option Int32 :=
  fX2_rowTo_L5 a0 x1 x2 h (
    some (-1 : Int32)
  ) lf (0 : Int32) (1 : Int32)
set_option maxHeartbeats 4000000 in
set_option maxRecDepth 100000 in
theorem wX2_rowTo_L5 {p : Program} {l : Launch} {e : Env} {s : State} {m : MethodId} {args : Array Value} {below : List Frame} {meth : Method} {c : Code} {G : GG} {b0 : Nat} {h0 : AH} {a0 : Nat} {x1 : Int32} {x2 : Int32} {h : AH} {rr : Int32} (K : CX p s m args meth c cX2_rowTo 5 RX2 (some .int) G b0) (ht : isO h0 a0 2) (k : Option Int32) (hk : k = some rr → WA p l e rmX2_rowTo s m args below meth c (MQ below (QG G b0 h0 (some (.int rr)) h) args s (rmX2_rowTo).cells (rmX2_rowTo).slots (AB b0)) G b0 5 h0 0 0 h 42 [] []) : ∀ (n : Nat) (x3 : Int32) (x4 : Int32), fX2_rowTo_L5 a0 x1 x2 h k n x3 x4 = some rr → WA p l e rmX2_rowTo s m args below meth c (MQ below (QG G b0 h0 (some (.int rr)) h) args s (rmX2_rowTo).cells (rmX2_rowTo).slots (AB b0)) G b0 5 h0 0 0 h 5 [(0, .ref a0), (1, .int x1), (2, .int x2), (3, .int x3), (4, .int x4)] [] := by
  intro n
  induction n with
  | zero =>
    intro x3 x4 hf
    rw [fX2_rowTo_L5] at hf
    cases hf
  | succ n ih =>
    intro x3 x4 hf
    rw [fX2_rowTo_L5] at hf
    refine r_iload K 4 dX2_rowTo_5 rfl ?_
    refine r_aload_n K 0 dX2_rowTo_7 rfl ?_
    obtain ⟨v1, e2, hf⟩ := ob1_s hf
    refine r_getI (ci := 2) (k := 0) K dX2_rowTo_8 inX2 rfl (by decide) rfl q_185 e2 ?_
    refine r_icmp_ge (tgt := 42) K dX2_rowTo_11 (by decide) (fun c12 => ?_) (fun c12 => ?_)
    · replace hf := ite_t hf c12
      refine r_lv [] rfl ?_
      exact hk  hf
    · replace hf := ite_f hf c12
      refine r_aload_n K 0 dX2_rowTo_14 rfl ?_
      obtain ⟨b3, e4, hf⟩ := ob1_s hf
      refine r_getR (ci := 2) (k := 3) K dX2_rowTo_15 inX2 rfl (by decide) rfl q_192 e4 ?_
      refine r_iload K 4 dX2_rowTo_18 rfl ?_
      obtain ⟨v5, e6, hf⟩ := ob1_s hf
      refine r_iaload K dX2_rowTo_20 e6 ?_
      refine r_iload_n K 1 dX2_rowTo_21 rfl ?_
      refine r_icmp_ne (tgt := 36) K dX2_rowTo_22 (by decide) (fun c11 => ?_) (fun c11 => ?_)
      · replace hf := ite_f hf c11
        obtain ⟨y7, ey7, hf⟩ := bnd_g hf
        refine r_iinc (lv1 := [(4, .int y7), (0, .ref a0), (1, .int x1), (2, .int x2), (3, .int x3)]) K 4 dX2_rowTo_36 rfl (by rw [ey7]; rfl) (by decide) rfl ?_
        refine r_goto (tgt := 5) K dX2_rowTo_39 (by decide) ?_
        refine r_lv [1, 2, 3, 4, 0] rfl ?_
        exact ih x3 y7 hf
      · replace hf := ite_t hf c11
        refine r_iload_n K 3 dX2_rowTo_25 rfl ?_
        refine r_iload_n K 2 dX2_rowTo_26 rfl ?_
        refine r_icmp_ne (tgt := 33) K dX2_rowTo_27 (by decide) (fun c10 => ?_) (fun c10 => ?_)
        · replace hf := ite_f hf c10
          obtain ⟨y8, ey8, hf⟩ := bnd_g hf
          refine r_iinc (lv1 := [(3, .int y8), (0, .ref a0), (1, .int x1), (2, .int x2), (4, .int x4)]) K 3 dX2_rowTo_33 rfl (by rw [ey8]; rfl) (by decide) rfl ?_
          obtain ⟨y9, ey9, hf⟩ := bnd_g hf
          refine r_iinc (lv1 := [(4, .int y9), (3, .int y8), (0, .ref a0), (1, .int x1), (2, .int x2)]) K 4 dX2_rowTo_36 rfl (by rw [ey9]; rfl) (by decide) rfl ?_
          refine r_goto (tgt := 5) K dX2_rowTo_39 (by decide) ?_
          refine r_lv [2, 3, 4, 1, 0] rfl ?_
          exact ih y8 y9 hf
        · replace hf := ite_t hf c10
          refine r_iload K 4 dX2_rowTo_30 rfl ?_
          exact r_iret K dX2_rowTo_32 (retp hf) (Nat.le_of_ble_eq_true rfl) (Nat.le_of_ble_eq_true rfl)
set_option maxHeartbeats 4000000 in
set_option maxRecDepth 100000 in
theorem mX2_rowTo (l : Launch) {G : GG} {b0 : Nat} {h : AH} {a0 : Nat} {x1 : Int32} {x2 : Int32} {rr : Int32} (ht : isO h a0 2) (hf : fX2_rowTo a0 x1 x2 h = some rr) : MM l yX2_rowTo cX2_rowTo 5 (some .int) rmX2_rowTo G b0 h [.ref a0, .int x1, .int x2] (some (.int rr)) h := by
  refine MM.of (own := RX2) (lv0 := [(0, .ref a0), (1, .int x1), (2, .int x2)]) (by decide) rfl (Nat.le_of_ble_eq_true rfl) rfl ?_
  intro p e s m args below meth c K hnm
  unfold fX2_rowTo at hf
  refine r_iconst (v := (0 : Int32)) K dX2_rowTo_0 (by decide) ?_
  refine r_istore_n (lv1 := [(3, .int (0 : Int32)), (0, .ref a0), (1, .int x1), (2, .int x2)]) K dX2_rowTo_1 (by decide) rfl ?_
  refine r_iconst (v := (1 : Int32)) K dX2_rowTo_2 (by decide) ?_
  refine r_istore (lv1 := [(4, .int (1 : Int32)), (3, .int (0 : Int32)), (0, .ref a0), (1, .int x1), (2, .int x2)]) K dX2_rowTo_3 (by decide) rfl ?_
  refine r_lv [2, 3, 4, 1, 0] rfl ?_
  refine wX2_rowTo_L5 K ht _ (fun  hf => ?_) lf (0 : Int32) (1 : Int32) hf
  refine r_iconst (v := (-1 : Int32)) K dX2_rowTo_42 (by decide) ?_
  exact r_iret K dX2_rowTo_43 (retp hf) (Nat.le_of_ble_eq_true rfl) (Nat.le_of_ble_eq_true rfl)
theorem ceX2_roadAt : CE yX2_roadAt 2 := ⟨by decide, by decide, by decide +kernel⟩
abbrev rmX2_roadAt : Room := { frames := 0, cells := 0, slots := 0, locals := 0 }
def fX2_roadAt_L10 (a0 : Nat) (x2 : Int32) (h : AH) (k : Int32 → Option Int32) : Nat → Int32 → Int32 → Option Int32
  | 0, _, _ => none
  | n + 1, x3, x4 =>
    if x4 ≤ (x2 + (1 : Int32)) then
      k x3
    else
      ob1 (gR h a0 2 1) fun b5 =>
      ob1 (aI h b5 0 x3) fun v7 =>
      bnd (x4 + (-1 : Int32)) fun y9 =>
      fX2_roadAt_L10 a0 x2 h k n v7 y9
def fX2_roadAt (a0 : Nat) (x1 : Int32) (x2 : Int32) (h : AH) : Option Int32 :=
  ob1 (gR h a0 2 4) fun b1 =>
  ob1 (aI h b1 0 x1) fun v3 =>
  fX2_roadAt_L10 a0 x2 h (fun (y11 : Int32) =>
    ob1 (gR h a0 2 2) fun b12 =>
    ob1 (aI h b12 0 y11) fun v14 =>
    some v14
  ) lf x1 v3
set_option maxHeartbeats 4000000 in
set_option maxRecDepth 100000 in
theorem wX2_roadAt_L10 {p : Program} {l : Launch} {e : Env} {s : State} {m : MethodId} {args : Array Value} {below : List Frame} {meth : Method} {c : Code} {G : GG} {b0 : Nat} {h0 : AH} {a0 : Nat} {x2 : Int32} {h : AH} {rr : Int32} (K : CX p s m args meth c cX2_roadAt 5 RX2 (some .int) G b0) (ht : isO h0 a0 2) (k : Int32 → Option Int32) (hk : ∀ (x3 : Int32), k x3 = some rr → WA p l e rmX2_roadAt s m args below meth c (MQ below (QG G b0 h0 (some (.int rr)) h) args s (rmX2_roadAt).cells (rmX2_roadAt).slots (AB b0)) G b0 5 h0 0 0 h 31 [(0, .ref a0), (3, .int x3)] []) : ∀ (n : Nat) (x3 : Int32) (x4 : Int32), fX2_roadAt_L10 a0 x2 h k n x3 x4 = some rr → WA p l e rmX2_roadAt s m args below meth c (MQ below (QG G b0 h0 (some (.int rr)) h) args s (rmX2_roadAt).cells (rmX2_roadAt).slots (AB b0)) G b0 5 h0 0 0 h 10 [(0, .ref a0), (2, .int x2), (3, .int x3), (4, .int x4)] [] := by
  intro n
  induction n with
  | zero =>
    intro x3 x4 hf
    rw [fX2_roadAt_L10] at hf
    cases hf
  | succ n ih =>
    intro x3 x4 hf
    rw [fX2_roadAt_L10] at hf
    refine r_iload K 3 dX2_roadAt_10 rfl ?_
    refine r_iload_n K 1 dX2_roadAt_12 rfl ?_
    refine r_iconst (v := (1 : Int32)) K dX2_roadAt_13 (by decide) ?_
    refine r_iadd K dX2_roadAt_14 ?_
    refine r_icmp_le (tgt := 31) K dX2_roadAt_15 (by decide) (fun c10 => ?_) (fun c10 => ?_)
    · replace hf := ite_t hf c10
      refine r_lv [0, 2] rfl ?_
      exact hk x3 hf
    · replace hf := ite_f hf c10
      refine r_aload_n K 0 dX2_roadAt_18 rfl ?_
      obtain ⟨b5, e6, hf⟩ := ob1_s hf
      refine r_getR (ci := 2) (k := 1) K dX2_roadAt_19 inX2 rfl (by decide) rfl q_188 e6 ?_
      refine r_iload_n K 2 dX2_roadAt_22 rfl ?_
      obtain ⟨v7, e8, hf⟩ := ob1_s hf
      refine r_iaload K dX2_roadAt_23 e8 ?_
      refine r_istore_n (lv1 := [(3, .int v7), (0, .ref a0), (2, .int x2), (4, .int x4)]) K dX2_roadAt_24 (by decide) rfl ?_
      obtain ⟨y9, ey9, hf⟩ := bnd_g hf
      refine r_iinc (lv1 := [(4, .int y9), (3, .int v7), (0, .ref a0), (2, .int x2)]) K 3 dX2_roadAt_25 rfl (by rw [ey9]; rfl) (by decide) rfl ?_
      refine r_goto (tgt := 10) K dX2_roadAt_28 (by decide) ?_
      refine r_lv [2, 3, 1, 0] rfl ?_
      exact ih v7 y9 hf
set_option maxHeartbeats 4000000 in
set_option maxRecDepth 100000 in
theorem mX2_roadAt (l : Launch) {G : GG} {b0 : Nat} {h : AH} {a0 : Nat} {x1 : Int32} {x2 : Int32} {rr : Int32} (ht : isO h a0 2) (hf : fX2_roadAt a0 x1 x2 h = some rr) : MM l yX2_roadAt cX2_roadAt 5 (some .int) rmX2_roadAt G b0 h [.ref a0, .int x1, .int x2] (some (.int rr)) h := by
  refine MM.of (own := RX2) (lv0 := [(0, .ref a0), (1, .int x1), (2, .int x2)]) (by decide) rfl (Nat.le_of_ble_eq_true rfl) rfl ?_
  intro p e s m args below meth c K hnm
  unfold fX2_roadAt at hf
  refine r_iload_n K 1 dX2_roadAt_0 rfl ?_
  refine r_istore_n (lv1 := [(3, .int x1), (0, .ref a0), (1, .int x1), (2, .int x2)]) K dX2_roadAt_1 (by decide) rfl ?_
  refine r_aload_n K 1 dX2_roadAt_2 rfl ?_
  obtain ⟨b1, e2, hf⟩ := ob1_s hf
  refine r_getR (ci := 2) (k := 4) K dX2_roadAt_3 inX2 rfl (by decide) rfl q_194 e2 ?_
  refine r_iload_n K 2 dX2_roadAt_6 rfl ?_
  obtain ⟨v3, e4, hf⟩ := ob1_s hf
  refine r_iaload K dX2_roadAt_7 e4 ?_
  refine r_istore (lv1 := [(4, .int v3), (3, .int x1), (0, .ref a0), (1, .int x1), (2, .int x2)]) K dX2_roadAt_8 (by decide) rfl ?_
  refine r_lv [2, 4, 1, 0] rfl ?_
  refine wX2_roadAt_L10 K ht _ (fun y11 hf => ?_) lf x1 v3 hf
  refine r_aload_n K 0 dX2_roadAt_31 rfl ?_
  obtain ⟨b12, e13, hf⟩ := ob1_s hf
  refine r_getR (ci := 2) (k := 2) K dX2_roadAt_32 inX2 rfl (by decide) rfl q_190 e13 ?_
  refine r_iload_n K 1 dX2_roadAt_35 rfl ?_
  obtain ⟨v14, e15, hf⟩ := ob1_s hf
  refine r_iaload K dX2_roadAt_36 e15 ?_
  exact r_iret K dX2_roadAt_37 (retp hf) (Nat.le_of_ble_eq_true rfl) (Nat.le_of_ble_eq_true rfl)
theorem ceX4_init : CE yX4_init 0 := ⟨by decide, by decide, by decide +kernel⟩
abbrev rmX4_init : Room := { frames := 1, cells := 1, slots := 24, locals := 20 }
def fX4_init (a0 : Nat) (h : AH) : Option AH :=
  ob1 (pV h a0 4 0 (.int (-1 : Int32))) fun g1 =>
  bnd g1.1 fun b3 =>
  bnd (hnew g1 (.inl (1, 24, .inr (.inl (fun _ => 0))))) fun g4 =>
  ob1 (pV g4 a0 4 1 (.ref b3)) fun g5 =>
  some g5
set_option maxHeartbeats 4000000 in
set_option maxRecDepth 100000 in
theorem mX4_init (l : Launch) {G : GG} {b0 : Nat} {h : AH} {a0 : Nat} {hh : AH} (ht : isO h a0 4) (hf : fX4_init a0 h = some hh) : MM l yX4_init cX4_init 1 (none) rmX4_init G b0 h [.ref a0] none hh := by
  refine MM.of (own := RX4) (lv0 := [(0, .ref a0)]) (by decide) rfl (Nat.le_of_ble_eq_true rfl) rfl ?_
  intro p e s m args below meth c K hnm
  unfold fX4_init at hf
  refine r_aload_n K 0 dX4_init_0 rfl ?_
  refine r_objInit K dX4_init_1 q_347 q_97 q_98 (Nat.le_of_ble_eq_true rfl) (Nat.le_of_ble_eq_true rfl) ?_
  refine r_aload_n K 0 dX4_init_4 rfl ?_
  refine r_iconst (v := (-1 : Int32)) K dX4_init_5 (by decide) ?_
  obtain ⟨g1, e2, hf⟩ := ob1_s hf
  refine r_putV (ci := 4) (k := 0) (ty0 := tyX4) (ty := tyX4 0) K dX4_init_6 inX4 rfl (by decide) rfl q_348 tyX4_ok nmX4 rfl rfl rfl rfl e2 ?_
  refine r_aload_n K 0 dX4_init_9 rfl ?_
  refine r_bipush (v := (24 : Int32)) K dX4_init_10 (by decide) ?_
  obtain ⟨b3, eb3, hf⟩ := bnd_g hf
  obtain ⟨g4, eg4, hf⟩ := bnd_g hf
  refine r_newa1 (cells1 := 1) (slots1 := 24) K dX4_init_12 q_147 (by decide) (by decide) (by decide) eb3 eg4 rfl rfl (Nat.le_of_ble_eq_true rfl) (Nat.le_of_ble_eq_true rfl) ?_
  obtain ⟨g5, e6, hf⟩ := ob1_s hf
  refine r_putF (ci := 4) (k := 1) (ty0 := tyX4) (ty := tyX4 1) K dX4_init_14 inX4 rfl (by decide) rfl q_350 tyX4_ok nmX4 rfl hnm rfl rfl rfl rfl e6 ?_
  exact r_vret K dX4_init_17 hf (Nat.le_of_ble_eq_true rfl) (Nat.le_of_ble_eq_true rfl)
theorem ceX4_isMissing : CE yX4_isMissing 0 := ⟨by decide, by decide, by decide +kernel⟩
abbrev rmX4_isMissing : Room := { frames := 0, cells := 0, slots := 0, locals := 0 }
def fX4_isMissing (a0 : Nat) (h : AH) : Option Int32 :=
  ob1 (gI h a0 4 0) fun v1 =>
  if (0 : Int32) ≤ v1 then
    some (0 : Int32)
  else
    some (1 : Int32)
set_option maxHeartbeats 4000000 in
set_option maxRecDepth 100000 in
theorem mX4_isMissing (l : Launch) {G : GG} {b0 : Nat} {h : AH} {a0 : Nat} {rr : Int32} (ht : isO h a0 4) (hf : fX4_isMissing a0 h = some rr) : MM l yX4_isMissing cX4_isMissing 1 (some .boolean) rmX4_isMissing G b0 h [.ref a0] (some (.int rr)) h := by
  refine MM.of (own := RX4) (lv0 := [(0, .ref a0)]) (by decide) rfl (Nat.le_of_ble_eq_true rfl) rfl ?_
  intro p e s m args below meth c K hnm
  unfold fX4_isMissing at hf
  refine r_aload_n K 0 dX4_isMissing_0 rfl ?_
  obtain ⟨v1, e2, hf⟩ := ob1_s hf
  refine r_getI (ci := 4) (k := 0) K dX4_isMissing_1 inX4 rfl (by decide) rfl q_348 e2 ?_
  refine r_if_ge (tgt := 11) K dX4_isMissing_4 (by decide) (fun c3 => ?_) (fun c3 => ?_)
  · replace hf := ite_t hf c3
    refine r_iconst (v := (0 : Int32)) K dX4_isMissing_11 (by decide) ?_
    exact r_zret K dX4_isMissing_12 rfl (retp hf) (Nat.le_of_ble_eq_true rfl) (Nat.le_of_ble_eq_true rfl)
  · replace hf := ite_f hf c3
    refine r_iconst (v := (1 : Int32)) K dX4_isMissing_7 (by decide) ?_
    refine r_goto (tgt := 12) K dX4_isMissing_8 (by decide) ?_
    exact r_zret K dX4_isMissing_12 rfl (retp hf) (Nat.le_of_ble_eq_true rfl) (Nat.le_of_ble_eq_true rfl)
theorem ceJ7_fill_d0a16 : CE yJ7_fill_d0a16 2 := ⟨by decide, by decide, by decide +kernel⟩
abbrev rmJ7_fill_d0a16 : Room := { frames := 0, cells := 0, slots := 0, locals := 0 }
def fJ7_fill_d0a16_L6 (a0 : Nat) (x1 : Int64) (x4 : Int32) (k : AH → Option AH) : Nat → Int32 → AH → Option AH
  | 0, _, _ => none
  | n + 1, x3, h =>
    if x4 ≤ x3 then
      k h
    else
      ob1 (sL h a0 x3 x1) fun g3 =>
      bnd (x3 + (1 : Int32)) fun y5 =>
      fJ7_fill_d0a16_L6 a0 x1 x4 k n y5 g3
def fJ7_fill_d0a16 (a0 : Nat) (x1 : Int64) (h : AH) : Option AH :=
  ob1 (aNk h a0 1) fun v1 =>
  fJ7_fill_d0a16_L6 a0 x1 v1 (fun (g7 : AH) =>
    some g7
  ) lf (0 : Int32) h
set_option maxHeartbeats 4000000 in
set_option maxRecDepth 100000 in
theorem wJ7_fill_d0a16_L6 {p : Program} {l : Launch} {e : Env} {s : State} {m : MethodId} {args : Array Value} {below : List Frame} {meth : Method} {c : Code} {G : GG} {b0 : Nat} {h0 : AH} {a0 : Nat} {x1 : Int64} {x4 : Int32} {hh : AH} (K : CX p s m args meth c cJ7_fill_d0a16 5 RJ7 (none) G b0) (k : AH → Option AH) (hk : ∀ (h : AH), k h = some hh → WA p l e rmJ7_fill_d0a16 s m args below meth c (MQ below (QG G b0 h0 none hh) args s (rmJ7_fill_d0a16).cells (rmJ7_fill_d0a16).slots (AB b0)) G b0 5 h0 0 0 h 22 [] []) : ∀ (n : Nat) (x3 : Int32) (h : AH), fJ7_fill_d0a16_L6 a0 x1 x4 k n x3 h = some hh → WA p l e rmJ7_fill_d0a16 s m args below meth c (MQ below (QG G b0 h0 none hh) args s (rmJ7_fill_d0a16).cells (rmJ7_fill_d0a16).slots (AB b0)) G b0 5 h0 0 0 h 6 [(0, .ref a0), (1, .long x1), (3, .int x3), (4, .int x4)] [] := by
  intro n
  induction n with
  | zero =>
    intro x3 h hf
    rw [fJ7_fill_d0a16_L6] at hf
    cases hf
  | succ n ih =>
    intro x3 h hf
    rw [fJ7_fill_d0a16_L6] at hf
    refine r_iload_n K 2 dJ7_fill_d0a16_6 rfl ?_
    refine r_iload K 3 dJ7_fill_d0a16_7 rfl ?_
    refine r_icmp_ge (tgt := 22) K dJ7_fill_d0a16_9 (by decide) (fun c6 => ?_) (fun c6 => ?_)
    · replace hf := ite_t hf c6
      refine r_lv [] rfl ?_
      exact hk h hf
    · replace hf := ite_f hf c6
      refine r_aload_n K 0 dJ7_fill_d0a16_12 rfl ?_
      refine r_iload_n K 2 dJ7_fill_d0a16_13 rfl ?_
      refine r_lload_n K 1 dJ7_fill_d0a16_14 rfl ?_
      obtain ⟨g3, e4, hf⟩ := ob1_s hf
      refine r_lastore K dJ7_fill_d0a16_15 e4 ?_
      obtain ⟨y5, ey5, hf⟩ := bnd_g hf
      refine r_iinc (lv1 := [(3, .int y5), (0, .ref a0), (1, .long x1), (4, .int x4)]) K 2 dJ7_fill_d0a16_16 rfl (by rw [ey5]; rfl) (by decide) rfl ?_
      refine r_goto (tgt := 6) K dJ7_fill_d0a16_19 (by decide) ?_
      refine r_lv [1, 2, 0, 3] rfl ?_
      exact ih y5 g3 hf
set_option maxHeartbeats 4000000 in
set_option maxRecDepth 100000 in
theorem mJ7_fill_d0a16 (l : Launch) {G : GG} {b0 : Nat} {h : AH} {a0 : Nat} {x1 : Int64} {hh : AH} (hf : fJ7_fill_d0a16 a0 x1 h = some hh) : MM l yJ7_fill_d0a16 cJ7_fill_d0a16 5 (none) rmJ7_fill_d0a16 G b0 h [.ref a0, .long x1] none hh := by
  refine MM.ofF (own := RJ7) (lv0 := [(0, .ref a0), (1, .long x1)]) (by decide +kernel) rfl (Nat.le_of_ble_eq_true rfl) rfl ?_
  intro p e s m args below meth c K hnm
  unfold fJ7_fill_d0a16 at hf
  refine r_iconst (v := (0 : Int32)) K dJ7_fill_d0a16_0 (by decide) ?_
  refine r_istore_n (lv1 := [(3, .int (0 : Int32)), (0, .ref a0), (1, .long x1)]) K dJ7_fill_d0a16_1 (by decide) rfl ?_
  refine r_aload_n K 1 dJ7_fill_d0a16_2 rfl ?_
  obtain ⟨v1, e2, hf⟩ := ob1_s hf
  refine r_alenk (kd := 1) (ty := .long) K dJ7_fill_d0a16_3 rfl e2 ?_
  refine r_istore (lv1 := [(4, .int v1), (3, .int (0 : Int32)), (0, .ref a0), (1, .long x1)]) K dJ7_fill_d0a16_4 (by decide) rfl ?_
  refine r_lv [2, 3, 1, 0] rfl ?_
  refine wJ7_fill_d0a16_L6 K _ (fun g7 hf => ?_) lf (0 : Int32) h hf
  exact r_vret K dJ7_fill_d0a16_22 hf (Nat.le_of_ble_eq_true rfl) (Nat.le_of_ble_eq_true rfl)
theorem ceX4_become : CE yX4_become 1 := ⟨by decide, by decide, by decide +kernel⟩
abbrev rmX4_become : Room := { frames := 1, cells := 0, slots := 0, locals := 24 }
def fX4_become (a0 : Nat) (x1 : Int32) (h : AH) : Option AH :=
  ob1 (pV h a0 4 0 (.int x1)) fun g1 =>
  ob1 (gR g1 a0 4 1) fun b3 =>
  ob1 (fJ7_fill_d0a16 b3 (0 : Int64) g1) fun g5 =>
  some g5
set_option maxHeartbeats 4000000 in
set_option maxRecDepth 100000 in
theorem mX4_become (l : Launch) {G : GG} {b0 : Nat} {h : AH} {a0 : Nat} {x1 : Int32} {hh : AH} (ht : isO h a0 4) (hf : fX4_become a0 x1 h = some hh) : MM l yX4_become cX4_become 2 (none) rmX4_become G b0 h [.ref a0, .int x1] none hh := by
  refine MM.of (own := RX4) (lv0 := [(0, .ref a0), (1, .int x1)]) (by decide) rfl (Nat.le_of_ble_eq_true rfl) rfl ?_
  intro p e s m args below meth c K hnm
  unfold fX4_become at hf
  refine r_aload_n K 0 dX4_become_0 rfl ?_
  refine r_iload_n K 1 dX4_become_1 rfl ?_
  obtain ⟨g1, e2, hf⟩ := ob1_s hf
  refine r_putV (ci := 4) (k := 0) (ty0 := tyX4) (ty := tyX4 0) K dX4_become_2 inX4 rfl (by decide) rfl q_348 tyX4_ok nmX4 rfl rfl rfl rfl e2 ?_
  refine r_aload_n K 0 dX4_become_5 rfl ?_
  obtain ⟨b3, e4, hf⟩ := ob1_s hf
  refine r_getR (ci := 4) (k := 1) K dX4_become_6 inX4 rfl (by decide) rfl q_350 e4 ?_
  refine r_lconst (v := (0 : Int64)) K dX4_become_9 (by decide) ?_
  obtain ⟨g5, e6, hf⟩ := ob1_s hf
  refine r_callS (As := [.ref b3, .long (0 : Int64)]) (rest := []) (st1 := []) (cells1 := 0) (slots1 := 0) K (mJ7_fill_d0a16 l e6) dX4_become_10 ceJ7_fill_d0a16 q_880 q_881 q_87 q_882 ⟨Nat.le_of_ble_eq_true rfl, Nat.le_of_ble_eq_true rfl⟩ (Nat.le_of_ble_eq_true rfl) ⟨Nat.le_of_ble_eq_true rfl, Nat.le_of_ble_eq_true rfl⟩ ?_ rfl rfl rfl rfl
  exact r_vret K dX4_become_13 hf (Nat.le_of_ble_eq_true rfl) (Nat.le_of_ble_eq_true rfl)
theorem ceJ9_max_7cf53 : CE yJ9_max_7cf53 2 := ⟨by decide, by decide, by decide +kernel⟩
abbrev rmJ9_max_7cf53 : Room := { frames := 0, cells := 0, slots := 0, locals := 0 }
def fJ9_max_7cf53 (x0 : Int32) (x1 : Int32) : Option Int32 :=
  if x0 < x1 then
    some x1
  else
    some x0
set_option maxHeartbeats 4000000 in
set_option maxRecDepth 100000 in
theorem mJ9_max_7cf53 (l : Launch) {G : GG} {b0 : Nat} {h : AH} {x0 : Int32} {x1 : Int32} {rr : Int32} (hf : fJ9_max_7cf53 x0 x1 = some rr) : MM l yJ9_max_7cf53 cJ9_max_7cf53 2 (some .int) rmJ9_max_7cf53 G b0 h [.int x0, .int x1] (some (.int rr)) h := by
  refine MM.ofF (own := RJ9) (lv0 := [(0, .int x0), (1, .int x1)]) (by decide +kernel) rfl (Nat.le_of_ble_eq_true rfl) rfl ?_
  intro p e s m args below meth c K hnm
  unfold fJ9_max_7cf53 at hf
  refine r_iload_n K 0 dJ9_max_7cf53_0 rfl ?_
  refine r_iload_n K 1 dJ9_max_7cf53_1 rfl ?_
  refine r_icmp_lt (tgt := 9) K dJ9_max_7cf53_2 (by decide) (fun c1 => ?_) (fun c1 => ?_)
  · replace hf := ite_t hf c1
    refine r_iload_n K 1 dJ9_max_7cf53_9 rfl ?_
    exact r_iret K dJ9_max_7cf53_10 (retp hf) (Nat.le_of_ble_eq_true rfl) (Nat.le_of_ble_eq_true rfl)
  · replace hf := ite_f hf c1
    refine r_iload_n K 0 dJ9_max_7cf53_5 rfl ?_
    refine r_goto (tgt := 10) K dJ9_max_7cf53_6 (by decide) ?_
    exact r_iret K dJ9_max_7cf53_10 (retp hf) (Nat.le_of_ble_eq_true rfl) (Nat.le_of_ble_eq_true rfl)
theorem ceX8_init : CE yX8_init 0 := ⟨by decide, by decide, by decide +kernel⟩
abbrev rmX8_init : Room := { frames := 1, cells := 1, slots := 20, locals := 20 }
def fX8_init (a0 : Nat) (h : AH) : Option AH :=
  ob1 (pV h a0 8 0 (.int (-1 : Int32))) fun g1 =>
  ob1 (pV g1 a0 8 1 (.int (0 : Int32))) fun g3 =>
  bnd g3.1 fun b5 =>
  bnd (hnew g3 (.inl (4, 20, .inr (.inr (.inr (.inr (fun _ => none))))))) fun g6 =>
  ob1 (pV g6 a0 8 2 (.ref b5)) fun g7 =>
  some g7
set_option maxHeartbeats 4000000 in
set_option maxRecDepth 100000 in
theorem mX8_init (l : Launch) {G : GG} {b0 : Nat} {h : AH} {a0 : Nat} {hh : AH} (ht : isO h a0 8) (hf : fX8_init a0 h = some hh) : MM l yX8_init cX8_init 1 (none) rmX8_init G b0 h [.ref a0] none hh := by
  refine MM.of (own := RX8) (lv0 := [(0, .ref a0)]) (by decide) rfl (Nat.le_of_ble_eq_true rfl) rfl ?_
  intro p e s m args below meth c K hnm
  unfold fX8_init at hf
  refine r_aload_n K 0 dX8_init_0 rfl ?_
  refine r_objInit K dX8_init_1 q_328 q_97 q_98 (Nat.le_of_ble_eq_true rfl) (Nat.le_of_ble_eq_true rfl) ?_
  refine r_aload_n K 0 dX8_init_4 rfl ?_
  refine r_iconst (v := (-1 : Int32)) K dX8_init_5 (by decide) ?_
  obtain ⟨g1, e2, hf⟩ := ob1_s hf
  refine r_putV (ci := 8) (k := 0) (ty0 := tyX8) (ty := tyX8 0) K dX8_init_6 inX8 rfl (by decide) rfl q_330 tyX8_ok nmX8 rfl rfl rfl rfl e2 ?_
  refine r_aload_n K 0 dX8_init_9 rfl ?_
  refine r_iconst (v := (0 : Int32)) K dX8_init_10 (by decide) ?_
  obtain ⟨g3, e4, hf⟩ := ob1_s hf
  refine r_putV (ci := 8) (k := 1) (ty0 := tyX8) (ty := tyX8 1) K dX8_init_11 inX8 rfl (by decide) rfl q_332 tyX8_ok nmX8 rfl rfl rfl rfl e4 ?_
  refine r_aload_n K 0 dX8_init_14 rfl ?_
  refine r_bipush (v := (20 : Int32)) K dX8_init_15 (by decide) ?_
  obtain ⟨b5, eb5, hf⟩ := bnd_g hf
  obtain ⟨g6, eg6, hf⟩ := bnd_g hf
  refine r_newr4 (cells1 := 1) (slots1 := 20) K dX8_init_17 q_329 (by decide) (by decide) (by decide) eb5 eg6 rfl rfl (Nat.le_of_ble_eq_true rfl) (Nat.le_of_ble_eq_true rfl) ?_
  obtain ⟨g7, e8, hf⟩ := ob1_s hf
  refine r_putF (ci := 8) (k := 2) (ty0 := tyX8) (ty := tyX8 2) K dX8_init_20 inX8 rfl (by decide) rfl q_334 tyX8_ok nmX8 rfl hnm rfl rfl rfl rfl e8 ?_
  exact r_vret K dX8_init_23 hf (Nat.le_of_ble_eq_true rfl) (Nat.le_of_ble_eq_true rfl)
theorem ceX8_isMissing : CE yX8_isMissing 0 := ⟨by decide, by decide, by decide +kernel⟩
abbrev rmX8_isMissing : Room := { frames := 0, cells := 0, slots := 0, locals := 0 }
def fX8_isMissing (a0 : Nat) (h : AH) : Option Int32 :=
  ob1 (gI h a0 8 0) fun v1 =>
  if (0 : Int32) ≤ v1 then
    some (0 : Int32)
  else
    some (1 : Int32)
set_option maxHeartbeats 4000000 in
set_option maxRecDepth 100000 in
theorem mX8_isMissing (l : Launch) {G : GG} {b0 : Nat} {h : AH} {a0 : Nat} {rr : Int32} (ht : isO h a0 8) (hf : fX8_isMissing a0 h = some rr) : MM l yX8_isMissing cX8_isMissing 1 (some .boolean) rmX8_isMissing G b0 h [.ref a0] (some (.int rr)) h := by
  refine MM.of (own := RX8) (lv0 := [(0, .ref a0)]) (by decide) rfl (Nat.le_of_ble_eq_true rfl) rfl ?_
  intro p e s m args below meth c K hnm
  unfold fX8_isMissing at hf
  refine r_aload_n K 0 dX8_isMissing_0 rfl ?_
  obtain ⟨v1, e2, hf⟩ := ob1_s hf
  refine r_getI (ci := 8) (k := 0) K dX8_isMissing_1 inX8 rfl (by decide) rfl q_330 e2 ?_
  refine r_if_ge (tgt := 11) K dX8_isMissing_4 (by decide) (fun c3 => ?_) (fun c3 => ?_)
  · replace hf := ite_t hf c3
    refine r_iconst (v := (0 : Int32)) K dX8_isMissing_11 (by decide) ?_
    exact r_zret K dX8_isMissing_12 rfl (retp hf) (Nat.le_of_ble_eq_true rfl) (Nat.le_of_ble_eq_true rfl)
  · replace hf := ite_f hf c3
    refine r_iconst (v := (1 : Int32)) K dX8_isMissing_7 (by decide) ?_
    refine r_goto (tgt := 12) K dX8_isMissing_8 (by decide) ?_
    exact r_zret K dX8_isMissing_12 rfl (retp hf) (Nat.le_of_ble_eq_true rfl) (Nat.le_of_ble_eq_true rfl)
theorem ceX8_become : CE yX8_become 2 := ⟨by decide, by decide, by decide +kernel⟩
abbrev rmX8_become : Room := { frames := 0, cells := 0, slots := 0, locals := 0 }
def fX8_become_L12 (a0 : Nat) (k : AH → Option AH) : Nat → Int32 → AH → Option AH
  | 0, _, _ => none
  | n + 1, x3, h =>
    if (20 : Int32) ≤ x3 then
      k h
    else
      ob1 (gR h a0 8 2) fun b5 =>
      ob1 (sQ h b5 4 x3 none) fun g7 =>
      bnd (x3 + (1 : Int32)) fun y9 =>
      fX8_become_L12 a0 k n y9 g7
def fX8_become (a0 : Nat) (x1 : Int32) (x2 : Int32) (h : AH) : Option AH :=
  ob1 (pV h a0 8 1 (.int x1)) fun g1 =>
  ob1 (pV g1 a0 8 0 (.int x2)) fun g3 =>
  fX8_become_L12 a0 (fun (g11 : AH) =>
    some g11
  ) lf (0 : Int32) g3
set_option maxHeartbeats 4000000 in
set_option maxRecDepth 100000 in
theorem wX8_become_L12 {p : Program} {l : Launch} {e : Env} {s : State} {m : MethodId} {args : Array Value} {below : List Frame} {meth : Method} {c : Code} {G : GG} {b0 : Nat} {h0 : AH} {a0 : Nat} {hh : AH} (K : CX p s m args meth c cX8_become 4 RX8 (none) G b0) (ht : isO h0 a0 8) (k : AH → Option AH) (hk : ∀ (h : AH), k h = some hh → WA p l e rmX8_become s m args below meth c (MQ below (QG G b0 h0 none hh) args s (rmX8_become).cells (rmX8_become).slots (AB b0)) G b0 4 h0 0 0 h 31 [] []) : ∀ (n : Nat) (x3 : Int32) (h : AH), fX8_become_L12 a0 k n x3 h = some hh → WA p l e rmX8_become s m args below meth c (MQ below (QG G b0 h0 none hh) args s (rmX8_become).cells (rmX8_become).slots (AB b0)) G b0 4 h0 0 0 h 12 [(0, .ref a0), (3, .int x3)] [] := by
  intro n
  induction n with
  | zero =>
    intro x3 h hf
    rw [fX8_become_L12] at hf
    cases hf
  | succ n ih =>
    intro x3 h hf
    rw [fX8_become_L12] at hf
    refine r_iload_n K 1 dX8_become_12 rfl ?_
    refine r_bipush (v := (20 : Int32)) K dX8_become_13 (by decide) ?_
    refine r_icmp_ge (tgt := 31) K dX8_become_15 (by decide) (fun c10 => ?_) (fun c10 => ?_)
    · replace hf := ite_t hf c10
      refine r_lv [] rfl ?_
      exact hk h hf
    · replace hf := ite_f hf c10
      refine r_aload_n K 0 dX8_become_18 rfl ?_
      obtain ⟨b5, e6, hf⟩ := ob1_s hf
      refine r_getR (ci := 8) (k := 2) K dX8_become_19 inX8 rfl (by decide) rfl q_334 e6 ?_
      refine r_iload_n K 1 dX8_become_22 rfl ?_
      refine r_null K dX8_become_23 ?_
      obtain ⟨g7, e8, hf⟩ := ob1_s hf
      refine r_aastore (kd := 4) (x := none) K dX8_become_24 rfl rfl e8 ?_
      obtain ⟨y9, ey9, hf⟩ := bnd_g hf
      refine r_iinc (lv1 := [(3, .int y9), (0, .ref a0)]) K 1 dX8_become_25 rfl (by rw [ey9]; rfl) (by decide) rfl ?_
      refine r_goto (tgt := 12) K dX8_become_28 (by decide) ?_
      refine r_lv [1, 0] rfl ?_
      exact ih y9 g7 hf
set_option maxHeartbeats 4000000 in
set_option maxRecDepth 100000 in
theorem mX8_become (l : Launch) {G : GG} {b0 : Nat} {h : AH} {a0 : Nat} {x1 : Int32} {x2 : Int32} {hh : AH} (ht : isO h a0 8) (hf : fX8_become a0 x1 x2 h = some hh) : MM l yX8_become cX8_become 4 (none) rmX8_become G b0 h [.ref a0, .int x1, .int x2] none hh := by
  refine MM.of (own := RX8) (lv0 := [(0, .ref a0), (1, .int x1), (2, .int x2)]) (by decide) rfl (Nat.le_of_ble_eq_true rfl) rfl ?_
  intro p e s m args below meth c K hnm
  unfold fX8_become at hf
  refine r_aload_n K 0 dX8_become_0 rfl ?_
  refine r_iload_n K 1 dX8_become_1 rfl ?_
  obtain ⟨g1, e2, hf⟩ := ob1_s hf
  refine r_putV (ci := 8) (k := 1) (ty0 := tyX8) (ty := tyX8 1) K dX8_become_2 inX8 rfl (by decide) rfl q_332 tyX8_ok nmX8 rfl rfl rfl rfl e2 ?_
  refine r_aload_n K 0 dX8_become_5 rfl ?_
  refine r_iload_n K 2 dX8_become_6 rfl ?_
  obtain ⟨g3, e4, hf⟩ := ob1_s hf
  refine r_putV (ci := 8) (k := 0) (ty0 := tyX8) (ty := tyX8 0) K dX8_become_7 inX8 rfl (by decide) rfl q_330 tyX8_ok nmX8 rfl rfl rfl rfl e4 ?_
  refine r_iconst (v := (0 : Int32)) K dX8_become_10 (by decide) ?_
  refine r_istore_n (lv1 := [(3, .int (0 : Int32)), (0, .ref a0), (1, .int x1), (2, .int x2)]) K dX8_become_11 (by decide) rfl ?_
  refine r_lv [1, 0] rfl ?_
  refine wX8_become_L12 K ht _ (fun g11 hf => ?_) lf (0 : Int32) g3 hf
  exact r_vret K dX8_become_31 hf (Nat.le_of_ble_eq_true rfl) (Nat.le_of_ble_eq_true rfl)
theorem ceX8_copyFrom : CE yX8_copyFrom 1 := ⟨by decide, by decide, by decide +kernel⟩
abbrev rmX8_copyFrom : Room := { frames := 0, cells := 0, slots := 0, locals := 0 }
def fX8_copyFrom_L18 (a0 : Nat) (a1 : Nat) (k : AH → Option AH) : Nat → Int32 → AH → Option AH
  | 0, _, _ => none
  | n + 1, x2, h =>
    if (20 : Int32) ≤ x2 then
      k h
    else
      ob1 (gR h a0 8 2) fun b9 =>
      ob1 (gR h a1 8 2) fun b11 =>
      ob1 (aQ h b11 4 x2) fun b13 =>
      ob1 (sQ h b9 4 x2 b13) fun g15 =>
      bnd (x2 + (1 : Int32)) fun y17 =>
      fX8_copyFrom_L18 a0 a1 k n y17 g15
def fX8_copyFrom (a0 : Nat) (a1 : Nat) (h : AH) : Option AH :=
  ob1 (gI h a1 8 1) fun v1 =>
  ob1 (pV h a0 8 1 (.int v1)) fun g3 =>
  ob1 (gI g3 a1 8 0) fun v5 =>
  ob1 (pV g3 a0 8 0 (.int v5)) fun g7 =>
  fX8_copyFrom_L18 a0 a1 (fun (g19 : AH) =>
    some g19
  ) lf (0 : Int32) g7
set_option maxHeartbeats 4000000 in
set_option maxRecDepth 100000 in
theorem wX8_copyFrom_L18 {p : Program} {l : Launch} {e : Env} {s : State} {m : MethodId} {args : Array Value} {below : List Frame} {meth : Method} {c : Code} {G : GG} {b0 : Nat} {h0 : AH} {a0 : Nat} {a1 : Nat} {hh : AH} (K : CX p s m args meth c cX8_copyFrom 3 RX8 (none) G b0) (ht : isO h0 a0 8) (k : AH → Option AH) (hk : ∀ (h : AH), k h = some hh → WA p l e rmX8_copyFrom s m args below meth c (MQ below (QG G b0 h0 none hh) args s (rmX8_copyFrom).cells (rmX8_copyFrom).slots (AB b0)) G b0 3 h0 0 0 h 42 [] []) : ∀ (n : Nat) (x2 : Int32) (h : AH), fX8_copyFrom_L18 a0 a1 k n x2 h = some hh → WA p l e rmX8_copyFrom s m args below meth c (MQ below (QG G b0 h0 none hh) args s (rmX8_copyFrom).cells (rmX8_copyFrom).slots (AB b0)) G b0 3 h0 0 0 h 18 [(0, .ref a0), (1, .ref a1), (2, .int x2)] [] := by
  intro n
  induction n with
  | zero =>
    intro x2 h hf
    rw [fX8_copyFrom_L18] at hf
    cases hf
  | succ n ih =>
    intro x2 h hf
    rw [fX8_copyFrom_L18] at hf
    refine r_iload_n K 2 dX8_copyFrom_18 rfl ?_
    refine r_bipush (v := (20 : Int32)) K dX8_copyFrom_19 (by decide) ?_
    refine r_icmp_ge (tgt := 42) K dX8_copyFrom_21 (by decide) (fun c18 => ?_) (fun c18 => ?_)
    · replace hf := ite_t hf c18
      refine r_lv [] rfl ?_
      exact hk h hf
    · replace hf := ite_f hf c18
      refine r_aload_n K 0 dX8_copyFrom_24 rfl ?_
      obtain ⟨b9, e10, hf⟩ := ob1_s hf
      refine r_getR (ci := 8) (k := 2) K dX8_copyFrom_25 inX8 rfl (by decide) rfl q_334 e10 ?_
      refine r_iload_n K 2 dX8_copyFrom_28 rfl ?_
      refine r_aload_n K 1 dX8_copyFrom_29 rfl ?_
      obtain ⟨b11, e12, hf⟩ := ob1_s hf
      refine r_getR (ci := 8) (k := 2) K dX8_copyFrom_30 inX8 rfl (by decide) rfl q_334 e12 ?_
      refine r_iload_n K 2 dX8_copyFrom_33 rfl ?_
      obtain ⟨b13, e14, hf⟩ := ob1_s hf
      refine r_aaloadQ (kd := 4) (ty := .object RX3) K dX8_copyFrom_34 rfl rfl e14 ?_
      obtain ⟨g15, e16, hf⟩ := ob1_s hf
      refine r_aastore (kd := 4) (x := b13) K dX8_copyFrom_35 rfl rfl e16 ?_
      obtain ⟨y17, ey17, hf⟩ := bnd_g hf
      refine r_iinc (lv1 := [(2, .int y17), (0, .ref a0), (1, .ref a1)]) K 2 dX8_copyFrom_36 rfl (by rw [ey17]; rfl) (by decide) rfl ?_
      refine r_goto (tgt := 18) K dX8_copyFrom_39 (by decide) ?_
      refine r_lv [1, 2, 0] rfl ?_
      exact ih y17 g15 hf
set_option maxHeartbeats 4000000 in
set_option maxRecDepth 100000 in
theorem mX8_copyFrom (l : Launch) {G : GG} {b0 : Nat} {h : AH} {a0 : Nat} {a1 : Nat} {hh : AH} (ht : isO h a0 8) (hf : fX8_copyFrom a0 a1 h = some hh) : MM l yX8_copyFrom cX8_copyFrom 3 (none) rmX8_copyFrom G b0 h [.ref a0, .ref a1] none hh := by
  refine MM.of (own := RX8) (lv0 := [(0, .ref a0), (1, .ref a1)]) (by decide) rfl (Nat.le_of_ble_eq_true rfl) rfl ?_
  intro p e s m args below meth c K hnm
  unfold fX8_copyFrom at hf
  refine r_aload_n K 0 dX8_copyFrom_0 rfl ?_
  refine r_aload_n K 1 dX8_copyFrom_1 rfl ?_
  obtain ⟨v1, e2, hf⟩ := ob1_s hf
  refine r_getI (ci := 8) (k := 1) K dX8_copyFrom_2 inX8 rfl (by decide) rfl q_332 e2 ?_
  obtain ⟨g3, e4, hf⟩ := ob1_s hf
  refine r_putV (ci := 8) (k := 1) (ty0 := tyX8) (ty := tyX8 1) K dX8_copyFrom_5 inX8 rfl (by decide) rfl q_332 tyX8_ok nmX8 rfl rfl rfl rfl e4 ?_
  refine r_aload_n K 0 dX8_copyFrom_8 rfl ?_
  refine r_aload_n K 1 dX8_copyFrom_9 rfl ?_
  obtain ⟨v5, e6, hf⟩ := ob1_s hf
  refine r_getI (ci := 8) (k := 0) K dX8_copyFrom_10 inX8 rfl (by decide) rfl q_330 e6 ?_
  obtain ⟨g7, e8, hf⟩ := ob1_s hf
  refine r_putV (ci := 8) (k := 0) (ty0 := tyX8) (ty := tyX8 0) K dX8_copyFrom_13 inX8 rfl (by decide) rfl q_330 tyX8_ok nmX8 rfl rfl rfl rfl e8 ?_
  refine r_iconst (v := (0 : Int32)) K dX8_copyFrom_16 (by decide) ?_
  refine r_istore_n (lv1 := [(2, .int (0 : Int32)), (0, .ref a0), (1, .ref a1)]) K dX8_copyFrom_17 (by decide) rfl ?_
  refine r_lv [1, 2, 0] rfl ?_
  refine wX8_copyFrom_L18 K ht _ (fun g19 hf => ?_) lf (0 : Int32) g7 hf
  exact r_vret K dX8_copyFrom_42 hf (Nat.le_of_ble_eq_true rfl) (Nat.le_of_ble_eq_true rfl)
theorem ceJ9_min_f86c9 : CE yJ9_min_f86c9 2 := ⟨by decide, by decide, by decide +kernel⟩
abbrev rmJ9_min_f86c9 : Room := { frames := 0, cells := 0, slots := 0, locals := 0 }
def fJ9_min_f86c9 (x0 : Int64) (x2 : Int64) : Option Int64 :=
  if x2 < x0 then
    some x2
  else
    some x0
set_option maxHeartbeats 4000000 in
set_option maxRecDepth 100000 in
theorem mJ9_min_f86c9 (l : Launch) {G : GG} {b0 : Nat} {h : AH} {x0 : Int64} {x2 : Int64} {rr : Int64} (hf : fJ9_min_f86c9 x0 x2 = some rr) : MM l yJ9_min_f86c9 cJ9_min_f86c9 4 (some .long) rmJ9_min_f86c9 G b0 h [.long x0, .long x2] (some (.long rr)) h := by
  refine MM.ofF (own := RJ9) (lv0 := [(0, .long x0), (2, .long x2)]) (by decide +kernel) rfl (Nat.le_of_ble_eq_true rfl) rfl ?_
  intro p e s m args below meth c K hnm
  unfold fJ9_min_f86c9 at hf
  refine r_lload_n K 0 dJ9_min_f86c9_0 rfl ?_
  refine r_lload_n K 1 dJ9_min_f86c9_1 rfl ?_
  refine r_lif_gt (tgt := 10) K dJ9_min_f86c9_2 dJ9_min_f86c9_3 (by decide) (fun c1 => ?_) (fun c1 => ?_)
  · replace hf := ite_t hf c1
    refine r_lload_n K 1 dJ9_min_f86c9_10 rfl ?_
    exact r_lret K dJ9_min_f86c9_11 (retp hf) (Nat.le_of_ble_eq_true rfl) (Nat.le_of_ble_eq_true rfl)
  · replace hf := ite_f hf c1
    refine r_lload_n K 0 dJ9_min_f86c9_6 rfl ?_
    refine r_goto (tgt := 11) K dJ9_min_f86c9_7 (by decide) ?_
    exact r_lret K dJ9_min_f86c9_11 (retp hf) (Nat.le_of_ble_eq_true rfl) (Nat.le_of_ble_eq_true rfl)
theorem ceJxf58ca_isNaN_12338 : CE yJxf58ca_isNaN_12338 1 := ⟨by decide, by decide, by decide +kernel⟩
abbrev rmJxf58ca_isNaN_12338 : Room := { frames := 0, cells := 0, slots := 0, locals := 0 }
def fJxf58ca_isNaN_12338 (x0 : UInt32) : Option Int32 :=
  if (Op.cmpValue (FP.fcmp x0 x0) CmpOp.l) = (0 : Int32) then
    some (0 : Int32)
  else
    some (1 : Int32)
set_option maxHeartbeats 4000000 in
set_option maxRecDepth 100000 in
theorem mJxf58ca_isNaN_12338 (l : Launch) {G : GG} {b0 : Nat} {h : AH} {x0 : UInt32} {rr : Int32} (hf : fJxf58ca_isNaN_12338 x0 = some rr) : MM l yJxf58ca_isNaN_12338 cJxf58ca_isNaN_12338 1 (some .boolean) rmJxf58ca_isNaN_12338 G b0 h [.float x0] (some (.int rr)) h := by
  refine MM.ofF (own := RJxf58ca) (lv0 := [(0, .float x0)]) (by decide +kernel) rfl (Nat.le_of_ble_eq_true rfl) rfl ?_
  intro p e s m args below meth c K hnm
  unfold fJxf58ca_isNaN_12338 at hf
  refine r_fload_n K 0 dJxf58ca_isNaN_12338_0 rfl ?_
  refine r_fload_n K 0 dJxf58ca_isNaN_12338_1 rfl ?_
  refine r_fcmp K dJxf58ca_isNaN_12338_2 ?_
  refine r_if_eq (tgt := 10) K dJxf58ca_isNaN_12338_3 (by decide) (fun c1 => ?_) (fun c1 => ?_)
  · replace hf := ite_t hf c1
    refine r_iconst (v := (0 : Int32)) K dJxf58ca_isNaN_12338_10 (by decide) ?_
    exact r_zret K dJxf58ca_isNaN_12338_11 rfl (retp hf) (Nat.le_of_ble_eq_true rfl) (Nat.le_of_ble_eq_true rfl)
  · replace hf := ite_f hf c1
    refine r_iconst (v := (1 : Int32)) K dJxf58ca_isNaN_12338_6 (by decide) ?_
    refine r_goto (tgt := 11) K dJxf58ca_isNaN_12338_7 (by decide) ?_
    exact r_zret K dJxf58ca_isNaN_12338_11 rfl (retp hf) (Nat.le_of_ble_eq_true rfl) (Nat.le_of_ble_eq_true rfl)
theorem ceJxf58ca_floatToIntBits_5c35a : CE yJxf58ca_floatToIntBits_5c35a 1 := ⟨by decide, by decide, by decide +kernel⟩
abbrev rmJxf58ca_floatToIntBits_5c35a : Room := { frames := 1, cells := 0, slots := 0, locals := 59 }
def fJxf58ca_floatToIntBits_5c35a (x0 : UInt32) : Option Int32 :=
  ob1 (fJxf58ca_isNaN_12338 x0) fun r1 =>
  if r1 = (0 : Int32) then
    some (UInt32.toInt32 x0)
  else
    some (2143289344 : Int32)
set_option maxHeartbeats 4000000 in
set_option maxRecDepth 100000 in
theorem mJxf58ca_floatToIntBits_5c35a (l : Launch) {G : GG} {b0 : Nat} {h : AH} {x0 : UInt32} {rr : Int32} (hf : fJxf58ca_floatToIntBits_5c35a x0 = some rr) : MM l yJxf58ca_floatToIntBits_5c35a cJxf58ca_floatToIntBits_5c35a 1 (some .int) rmJxf58ca_floatToIntBits_5c35a G b0 h [.float x0] (some (.int rr)) h := by
  refine MM.ofF (own := RJxf58ca) (lv0 := [(0, .float x0)]) (by decide +kernel) rfl (Nat.le_of_ble_eq_true rfl) rfl ?_
  intro p e s m args below meth c K hnm
  unfold fJxf58ca_floatToIntBits_5c35a at hf
  refine r_fload_n K 0 dJxf58ca_floatToIntBits_5c35a_0 rfl ?_
  obtain ⟨r1, e2, hf⟩ := ob1_s hf
  refine r_callS (As := [.float x0]) (rest := []) (st1 := [.int r1]) (cells1 := 0) (slots1 := 0) K (mJxf58ca_isNaN_12338 l e2) dJxf58ca_floatToIntBits_5c35a_1 ceJxf58ca_isNaN_12338 q_1257 q_1258 q_90 q_1259 ⟨Nat.le_of_ble_eq_true rfl, Nat.le_of_ble_eq_true rfl⟩ (Nat.le_of_ble_eq_true rfl) ⟨Nat.le_of_ble_eq_true rfl, Nat.le_of_ble_eq_true rfl⟩ ?_ rfl rfl rfl rfl
  refine r_if_ne (tgt := 12) K dJxf58ca_floatToIntBits_5c35a_4 (by decide) (fun c3 => ?_) (fun c3 => ?_)
  · replace hf := ite_f hf c3
    refine r_ldc K dJxf58ca_floatToIntBits_5c35a_12 q_1263 ?_
    exact r_iret K dJxf58ca_floatToIntBits_5c35a_14 (retp hf) (Nat.le_of_ble_eq_true rfl) (Nat.le_of_ble_eq_true rfl)
  · replace hf := ite_t hf c3
    refine r_fload_n K 0 dJxf58ca_floatToIntBits_5c35a_7 rfl ?_
    refine r_f2bits K dJxf58ca_floatToIntBits_5c35a_8 q_1260 q_1262 q_1261 q_90 (Nat.le_of_ble_eq_true rfl) (Nat.le_of_ble_eq_true rfl) ?_
    exact r_iret K dJxf58ca_floatToIntBits_5c35a_11 (retp hf) (Nat.le_of_ble_eq_true rfl) (Nat.le_of_ble_eq_true rfl)
