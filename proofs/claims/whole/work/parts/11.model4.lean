theorem ceX10_nearest : CE yX10_nearest 0 := ⟨by decide, by decide, by decide +kernel⟩
abbrev rmX10_nearest : Room := { frames := 0, cells := 0, slots := 0, locals := 0 }
def fX10_nearest_L4 (a0 : Nat) (h : AH) (k : Int32 → Option Int32) : Nat → Int32 → Int32 → Option Int32
  | 0, _, _ => none
  | n + 1, x1, x2 =>
    if (6 : Int32) ≤ x2 then
      k x1
    else
      ob1 (gR h a0 10 22) fun b1 =>
      ob1 (aI h b1 0 x2) fun v3 =>
      if v3 ≤ (0 : Int32) then
        bnd (x2 + (1 : Int32)) fun y5 =>
        fX10_nearest_L4 a0 h k n x1 y5
      else
        ob1 (gR h a0 10 23) fun b6 =>
        ob1 (aL h b6 x2) fun v8 =>
        if (9223372036854775807 : Int64) ≤ v8 then
          bnd (x2 + (1 : Int32)) fun y10 =>
          fX10_nearest_L4 a0 h k n x1 y10
        else
          if x1 < (0 : Int32) then
            bnd (x2 + (1 : Int32)) fun y11 =>
            fX10_nearest_L4 a0 h k n x2 y11
          else
            ob1 (gR h a0 10 23) fun b12 =>
            ob1 (aL h b12 x2) fun v14 =>
            ob1 (gR h a0 10 23) fun b16 =>
            ob1 (aL h b16 x1) fun v18 =>
            if v18 ≤ v14 then
              bnd (x2 + (1 : Int32)) fun y20 =>
              fX10_nearest_L4 a0 h k n x1 y20
            else
              bnd (x2 + (1 : Int32)) fun y21 =>
              fX10_nearest_L4 a0 h k n x2 y21
def fX10_nearest (a0 : Nat) (h : AH) : Option Int32 :=
  fX10_nearest_L4 a0 h (fun (y27 : Int32) =>
    some y27
  ) lf (-1 : Int32) (1 : Int32)
set_option maxHeartbeats 4000000 in
set_option maxRecDepth 100000 in
theorem wX10_nearest_L4 {p : Program} {l : Launch} {e : Env} {s : State} {m : MethodId} {args : Array Value} {below : List Frame} {meth : Method} {c : Code} {G : GG} {b0 : Nat} {h0 : AH} {a0 : Nat} {h : AH} {rr : Int32} (K : CX p s m args meth c cX10_nearest 3 RX10 (some .int) G b0) (ht : isO h0 a0 10) (k : Int32 → Option Int32) (hk : ∀ (x1 : Int32), k x1 = some rr → WA p l e rmX10_nearest s m args below meth c (MQ below (QG G b0 h0 (some (.int rr)) h) args s (rmX10_nearest).cells (rmX10_nearest).slots (AB b0)) G b0 3 h0 0 0 h 64 [(1, .int x1)] []) : ∀ (n : Nat) (x1 : Int32) (x2 : Int32), fX10_nearest_L4 a0 h k n x1 x2 = some rr → WA p l e rmX10_nearest s m args below meth c (MQ below (QG G b0 h0 (some (.int rr)) h) args s (rmX10_nearest).cells (rmX10_nearest).slots (AB b0)) G b0 3 h0 0 0 h 4 [(0, .ref a0), (1, .int x1), (2, .int x2)] [] := by
  intro n
  induction n with
  | zero =>
    intro x1 x2 hf
    rw [fX10_nearest_L4] at hf
    cases hf
  | succ n ih =>
    intro x1 x2 hf
    rw [fX10_nearest_L4] at hf
    refine r_iload_n K 2 dX10_nearest_4 rfl ?_
    refine r_bipush (v := (6 : Int32)) K dX10_nearest_5 (by decide) ?_
    refine r_icmp_ge (tgt := 64) K dX10_nearest_7 (by decide) (fun c26 => ?_) (fun c26 => ?_)
    · replace hf := ite_t hf c26
      refine r_lv [1] rfl ?_
      exact hk x1 hf
    · replace hf := ite_f hf c26
      refine r_aload_n K 0 dX10_nearest_10 rfl ?_
      obtain ⟨b1, e2, hf⟩ := ob1_s hf
      refine r_getR (ci := 10) (k := 22) K dX10_nearest_11 inX10 rfl (by decide) rfl q_928 e2 ?_
      refine r_iload_n K 2 dX10_nearest_14 rfl ?_
      obtain ⟨v3, e4, hf⟩ := ob1_s hf
      refine r_iaload K dX10_nearest_15 e4 ?_
      refine r_if_le (tgt := 56) K dX10_nearest_16 (by decide) (fun c25 => ?_) (fun c25 => ?_)
      · replace hf := ite_t hf c25
        refine r_iload_n K 1 dX10_nearest_56 rfl ?_
        refine r_istore_n (lv1 := [(1, .int x1), (0, .ref a0), (2, .int x2)]) K dX10_nearest_57 (by decide) rfl ?_
        obtain ⟨y5, ey5, hf⟩ := bnd_g hf
        refine r_iinc (lv1 := [(2, .int y5), (1, .int x1), (0, .ref a0)]) K 2 dX10_nearest_58 rfl (by rw [ey5]; rfl) (by decide) rfl ?_
        refine r_goto (tgt := 4) K dX10_nearest_61 (by decide) ?_
        refine r_lv [2, 1, 0] rfl ?_
        exact ih x1 y5 hf
      · replace hf := ite_f hf c25
        refine r_aload_n K 0 dX10_nearest_19 rfl ?_
        obtain ⟨b6, e7, hf⟩ := ob1_s hf
        refine r_getR (ci := 10) (k := 23) K dX10_nearest_20 inX10 rfl (by decide) rfl q_929 e7 ?_
        refine r_iload_n K 2 dX10_nearest_23 rfl ?_
        obtain ⟨v8, e9, hf⟩ := ob1_s hf
        refine r_laload K dX10_nearest_24 e9 ?_
        refine r_ldc2 K dX10_nearest_25 q_1177 ?_
        refine r_lif_ge (tgt := 56) K dX10_nearest_28 dX10_nearest_29 (by decide) (fun c24 => ?_) (fun c24 => ?_)
        · replace hf := ite_t hf c24
          refine r_iload_n K 1 dX10_nearest_56 rfl ?_
          refine r_istore_n (lv1 := [(1, .int x1), (0, .ref a0), (2, .int x2)]) K dX10_nearest_57 (by decide) rfl ?_
          obtain ⟨y10, ey10, hf⟩ := bnd_g hf
          refine r_iinc (lv1 := [(2, .int y10), (1, .int x1), (0, .ref a0)]) K 2 dX10_nearest_58 rfl (by rw [ey10]; rfl) (by decide) rfl ?_
          refine r_goto (tgt := 4) K dX10_nearest_61 (by decide) ?_
          refine r_lv [2, 1, 0] rfl ?_
          exact ih x1 y10 hf
        · replace hf := ite_f hf c24
          refine r_iload_n K 1 dX10_nearest_32 rfl ?_
          refine r_if_lt (tgt := 52) K dX10_nearest_33 (by decide) (fun c23 => ?_) (fun c23 => ?_)
          · replace hf := ite_t hf c23
            refine r_iload_n K 2 dX10_nearest_52 rfl ?_
            refine r_goto (tgt := 57) K dX10_nearest_53 (by decide) ?_
            refine r_istore_n (lv1 := [(1, .int x2), (0, .ref a0), (2, .int x2)]) K dX10_nearest_57 (by decide) rfl ?_
            obtain ⟨y11, ey11, hf⟩ := bnd_g hf
            refine r_iinc (lv1 := [(2, .int y11), (1, .int x2), (0, .ref a0)]) K 2 dX10_nearest_58 rfl (by rw [ey11]; rfl) (by decide) rfl ?_
            refine r_goto (tgt := 4) K dX10_nearest_61 (by decide) ?_
            refine r_lv [2, 1, 0] rfl ?_
            exact ih x2 y11 hf
          · replace hf := ite_f hf c23
            refine r_aload_n K 0 dX10_nearest_36 rfl ?_
            obtain ⟨b12, e13, hf⟩ := ob1_s hf
            refine r_getR (ci := 10) (k := 23) K dX10_nearest_37 inX10 rfl (by decide) rfl q_929 e13 ?_
            refine r_iload_n K 2 dX10_nearest_40 rfl ?_
            obtain ⟨v14, e15, hf⟩ := ob1_s hf
            refine r_laload K dX10_nearest_41 e15 ?_
            refine r_aload_n K 0 dX10_nearest_42 rfl ?_
            obtain ⟨b16, e17, hf⟩ := ob1_s hf
            refine r_getR (ci := 10) (k := 23) K dX10_nearest_43 inX10 rfl (by decide) rfl q_929 e17 ?_
            refine r_iload_n K 1 dX10_nearest_46 rfl ?_
            obtain ⟨v18, e19, hf⟩ := ob1_s hf
            refine r_laload K dX10_nearest_47 e19 ?_
            refine r_lif_ge (tgt := 56) K dX10_nearest_48 dX10_nearest_49 (by decide) (fun c22 => ?_) (fun c22 => ?_)
            · replace hf := ite_t hf c22
              refine r_iload_n K 1 dX10_nearest_56 rfl ?_
              refine r_istore_n (lv1 := [(1, .int x1), (0, .ref a0), (2, .int x2)]) K dX10_nearest_57 (by decide) rfl ?_
              obtain ⟨y20, ey20, hf⟩ := bnd_g hf
              refine r_iinc (lv1 := [(2, .int y20), (1, .int x1), (0, .ref a0)]) K 2 dX10_nearest_58 rfl (by rw [ey20]; rfl) (by decide) rfl ?_
              refine r_goto (tgt := 4) K dX10_nearest_61 (by decide) ?_
              refine r_lv [2, 1, 0] rfl ?_
              exact ih x1 y20 hf
            · replace hf := ite_f hf c22
              refine r_iload_n K 2 dX10_nearest_52 rfl ?_
              refine r_goto (tgt := 57) K dX10_nearest_53 (by decide) ?_
              refine r_istore_n (lv1 := [(1, .int x2), (0, .ref a0), (2, .int x2)]) K dX10_nearest_57 (by decide) rfl ?_
              obtain ⟨y21, ey21, hf⟩ := bnd_g hf
              refine r_iinc (lv1 := [(2, .int y21), (1, .int x2), (0, .ref a0)]) K 2 dX10_nearest_58 rfl (by rw [ey21]; rfl) (by decide) rfl ?_
              refine r_goto (tgt := 4) K dX10_nearest_61 (by decide) ?_
              refine r_lv [2, 1, 0] rfl ?_
              exact ih x2 y21 hf
set_option maxHeartbeats 4000000 in
set_option maxRecDepth 100000 in
theorem mX10_nearest (l : Launch) {G : GG} {b0 : Nat} {h : AH} {a0 : Nat} {rr : Int32} (ht : isO h a0 10) (hf : fX10_nearest a0 h = some rr) : MM l yX10_nearest cX10_nearest 3 (some .int) rmX10_nearest G b0 h [.ref a0] (some (.int rr)) h := by
  refine MM.of (own := RX10) (lv0 := [(0, .ref a0)]) (by decide) rfl (Nat.le_of_ble_eq_true rfl) rfl ?_
  intro p e s m args below meth c K hnm
  unfold fX10_nearest at hf
  refine r_iconst (v := (-1 : Int32)) K dX10_nearest_0 (by decide) ?_
  refine r_istore_n (lv1 := [(1, .int (-1 : Int32)), (0, .ref a0)]) K dX10_nearest_1 (by decide) rfl ?_
  refine r_iconst (v := (1 : Int32)) K dX10_nearest_2 (by decide) ?_
  refine r_istore_n (lv1 := [(2, .int (1 : Int32)), (1, .int (-1 : Int32)), (0, .ref a0)]) K dX10_nearest_3 (by decide) rfl ?_
  refine r_lv [2, 1, 0] rfl ?_
  refine wX10_nearest_L4 K ht _ (fun y27 hf => ?_) lf (-1 : Int32) (1 : Int32) hf
  refine r_iload_n K 0 dX10_nearest_64 rfl ?_
  exact r_iret K dX10_nearest_65 (retp hf) (Nat.le_of_ble_eq_true rfl) (Nat.le_of_ble_eq_true rfl)
theorem ceX10_bestOf : CE yX10_bestOf 0 := ⟨by decide, by decide, by decide +kernel⟩
abbrev rmX10_bestOf : Room := { frames := 4, cells := 0, slots := 0, locals := 101 }
def fX10_bestOf_L6 (a0 : Nat) (k : AH → Option (Int64 × AH)) : Nat → Int32 → AH → Option (Int64 × AH)
  | 0, _, _ => none
  | n + 1, x1, h =>
    if (6 : Int32) ≤ x1 then
      k h
    else
      ob1 (gR h a0 10 22) fun b3 =>
      ob1 (sI h b3 x1 (0 : Int32)) fun g5 =>
      bnd (x1 + (1 : Int32)) fun y7 =>
      fX10_bestOf_L6 a0 k n y7 g5
def fX10_bestOf_L29 (a0 : Nat) (k : Int32 → AH → Option (Int64 × AH)) : Nat → Int32 → Int32 → AH → Option (Int64 × AH)
  | 0, _, _, _ => none
  | n + 1, x1, x2, h =>
    if (3 : Int32) ≤ x2 then
      k x1 h
    else
      ob1 (fX10_ofClass a0 x2 (1 : Int32) h) fun r10 =>
      bnd (
        ob1 (gR h a0 10 22) fun b13 =>
        ob1 (fX10_ofClass a0 x2 (0 : Int32) h) fun r15 =>
        bnd (Int64.toInt32 r15) fun y17 =>
        ob1 (aI h b13 0 y17) fun v18 =>
        ob1 (fX10_ofClass a0 x2 (1 : Int32) h) fun r20 =>
        ob1 (sI h b13 y17 (v18 + (Int64.toInt32 r20))) fun g22 =>
        ob1 (fX10_ofClass a0 x2 (1 : Int32) g22) fun r24 =>
        bnd (x1 + (Int64.toInt32 r24)) fun y26 =>
        bnd (x2 + (1 : Int32)) fun y27 =>
        fX10_bestOf_L29 a0 k n y26 y27 g22
      ) fun j12 =>
      if r10 ≤ (0 : Int64) then
        j12
      else
        ob1 (gR h a0 10 10) fun b28 =>
        ob1 (aI h b28 0 x2) fun v30 =>
        if v30 = (0 : Int32) then
          some ((-3 : Int64), h)
        else
          j12
def fX10_bestOf_L98 (a0 : Nat) (x1 : Int32) (k : AH → Option (Int64 × AH)) : Nat → Int32 → AH → Option (Int64 × AH)
  | 0, _, _ => none
  | n + 1, x2, h =>
    if (13 : Int32) ≤ x2 then
      k h
    else
      ob1 (gR h a0 10 21) fun b37 =>
      ob1 (sI h b37 x2 (0 : Int32)) fun g39 =>
      bnd (x2 + (1 : Int32)) fun y41 =>
      fX10_bestOf_L98 a0 x1 k n y41 g39
def fX10_bestOf_L121 (a0 : Nat) (k : AH → Option (Int64 × AH)) : Nat → Int32 → AH → Option (Int64 × AH)
  | 0, _, _ => none
  | n + 1, x1, h =>
    if x1 ≤ (0 : Int32) then
      k h
    else
      ob1 (fX10_layFar a0 h) fun g46 =>
      ob1 (fX10_nearest a0 g46) fun r48 =>
      ob1 (gR g46 a0 10 23) fun b50 =>
      ob1 (aL g46 b50 r48) fun v52 =>
      ob1 (fX10_adds a0 v52 g46) fun g54 =>
      ob1 (fX10_sends a0 r48 g54) fun g56 =>
      ob1 (gR g56 a0 10 22) fun b58 =>
      ob1 (aI g56 b58 0 r48) fun v60 =>
      ob1 (sI g56 b58 r48 (v60 - (1 : Int32))) fun g62 =>
      bnd (x1 + (-1 : Int32)) fun y64 =>
      fX10_bestOf_L121 a0 k n y64 g62
def fX10_bestOf (a0 : Nat) (h : AH) : Option (Int64 × AH) :=
  ob1 (fX10_layAllWays a0 h) fun g1 =>
  fX10_bestOf_L6 a0 (fun (g9 : AH) =>
    fX10_bestOf_L29 a0 (fun (y35 : Int32) (g36 : AH) =>
      fX10_bestOf_L98 a0 y35 (fun (g43 : AH) =>
        ob1 (fX10_begins a0 g43) fun g44 =>
        fX10_bestOf_L121 a0 (fun (g66 : AH) =>
          ob1 (gI g66 a0 10 19) fun v67 =>
          if v67 = (0 : Int32) then
            ob1 (gL g66 a0 10 20) fun v69 =>
            some (v69, g66)
          else
            some ((-6 : Int64), g66)
        ) lf y35 g44
      ) lf (0 : Int32) g36
    ) lf (0 : Int32) (0 : Int32) g9
  ) lf (0 : Int32) g1
set_option maxHeartbeats 4000000 in
set_option maxRecDepth 100000 in
theorem wX10_bestOf_L6 {p : Program} {l : Launch} {e : Env} {s : State} {m : MethodId} {args : Array Value} {below : List Frame} {meth : Method} {c : Code} {G : GG} {b0 : Nat} {h0 : AH} {a0 : Nat} {rr : Int64} {hh : AH} (K : CX p s m args meth c cX10_bestOf 3 RX10 (some .long) G b0) (ht : isO h0 a0 10) (k : AH → Option (Int64 × AH)) (hk : ∀ (h : AH), k h = some (rr, hh) → WA p l e rmX10_bestOf s m args below meth c (MQ below (QG G b0 h0 (some (.long rr)) hh) args s (rmX10_bestOf).cells (rmX10_bestOf).slots (AB b0)) G b0 3 h0 0 0 h 25 [(0, .ref a0)] []) : ∀ (n : Nat) (x1 : Int32) (h : AH), fX10_bestOf_L6 a0 k n x1 h = some (rr, hh) → WA p l e rmX10_bestOf s m args below meth c (MQ below (QG G b0 h0 (some (.long rr)) hh) args s (rmX10_bestOf).cells (rmX10_bestOf).slots (AB b0)) G b0 3 h0 0 0 h 6 [(0, .ref a0), (1, .int x1)] [] := by
  intro n
  induction n with
  | zero =>
    intro x1 h hf
    rw [fX10_bestOf_L6] at hf
    cases hf
  | succ n ih =>
    intro x1 h hf
    rw [fX10_bestOf_L6] at hf
    refine r_iload_n K 1 dX10_bestOf_6 rfl ?_
    refine r_bipush (v := (6 : Int32)) K dX10_bestOf_7 (by decide) ?_
    refine r_icmp_ge (tgt := 25) K dX10_bestOf_9 (by decide) (fun c8 => ?_) (fun c8 => ?_)
    · replace hf := ite_t hf c8
      refine r_lv [0] rfl ?_
      exact hk h hf
    · replace hf := ite_f hf c8
      refine r_aload_n K 0 dX10_bestOf_12 rfl ?_
      obtain ⟨b3, e4, hf⟩ := ob1_s hf
      refine r_getR (ci := 10) (k := 22) K dX10_bestOf_13 inX10 rfl (by decide) rfl q_928 e4 ?_
      refine r_iload_n K 1 dX10_bestOf_16 rfl ?_
      refine r_iconst (v := (0 : Int32)) K dX10_bestOf_17 (by decide) ?_
      obtain ⟨g5, e6, hf⟩ := ob1_s hf
      refine r_iastore K dX10_bestOf_18 e6 ?_
      obtain ⟨y7, ey7, hf⟩ := bnd_g hf
      refine r_iinc (lv1 := [(1, .int y7), (0, .ref a0)]) K 1 dX10_bestOf_19 rfl (by rw [ey7]; rfl) (by decide) rfl ?_
      refine r_goto (tgt := 6) K dX10_bestOf_22 (by decide) ?_
      refine r_lv [1, 0] rfl ?_
      exact ih y7 g5 hf
set_option maxHeartbeats 4000000 in
set_option maxRecDepth 100000 in
theorem wX10_bestOf_L29 {p : Program} {l : Launch} {e : Env} {s : State} {m : MethodId} {args : Array Value} {below : List Frame} {meth : Method} {c : Code} {G : GG} {b0 : Nat} {h0 : AH} {a0 : Nat} {rr : Int64} {hh : AH} (K : CX p s m args meth c cX10_bestOf 3 RX10 (some .long) G b0) (ht : isO h0 a0 10) (k : Int32 → AH → Option (Int64 × AH)) (hk : ∀ (x1 : Int32) (h : AH), k x1 h = some (rr, hh) → WA p l e rmX10_bestOf s m args below meth c (MQ below (QG G b0 h0 (some (.long rr)) hh) args s (rmX10_bestOf).cells (rmX10_bestOf).slots (AB b0)) G b0 3 h0 0 0 h 96 [(0, .ref a0), (1, .int x1)] []) : ∀ (n : Nat) (x1 : Int32) (x2 : Int32) (h : AH), fX10_bestOf_L29 a0 k n x1 x2 h = some (rr, hh) → WA p l e rmX10_bestOf s m args below meth c (MQ below (QG G b0 h0 (some (.long rr)) hh) args s (rmX10_bestOf).cells (rmX10_bestOf).slots (AB b0)) G b0 3 h0 0 0 h 29 [(0, .ref a0), (1, .int x1), (2, .int x2)] [] := by
  intro n
  induction n with
  | zero =>
    intro x1 x2 h hf
    rw [fX10_bestOf_L29] at hf
    cases hf
  | succ n ih =>
    intro x1 x2 h hf
    rw [fX10_bestOf_L29] at hf
    refine r_iload_n K 2 dX10_bestOf_29 rfl ?_
    refine r_iconst (v := (3 : Int32)) K dX10_bestOf_30 (by decide) ?_
    refine r_icmp_ge (tgt := 96) K dX10_bestOf_31 (by decide) (fun c34 => ?_) (fun c34 => ?_)
    · replace hf := ite_t hf c34
      refine r_lv [0, 1] rfl ?_
      exact hk x1 h hf
    · replace hf := ite_f hf c34
      refine r_aload_n K 0 dX10_bestOf_34 rfl ?_
      refine r_iload_n K 2 dX10_bestOf_35 rfl ?_
      refine r_iconst (v := (1 : Int32)) K dX10_bestOf_36 (by decide) ?_
      obtain ⟨r10, e11, hf⟩ := ob1_s hf
      refine r_callV (As := [.int x2, .int (1 : Int32)]) (rest := []) (st1 := [.long r10]) (cells1 := 0) (slots1 := 0) (b := a0) (ci := 10) K (fun z => mX10_ofClass l z e11) dX10_bestOf_37 rfl (fun z => z _ _ ht) rfl ceX10_ofClass q_1086 q_1088 q_39 q_85 q_1089 ⟨Nat.le_of_ble_eq_true rfl, Nat.le_of_ble_eq_true rfl⟩ (Nat.le_of_ble_eq_true rfl) ⟨Nat.le_of_ble_eq_true rfl, Nat.le_of_ble_eq_true rfl⟩ ?_ rfl rfl rfl rfl
      refine r_lconst (v := (0 : Int64)) K dX10_bestOf_40 (by decide) ?_
      obtain ⟨j12, ej12, hf⟩ := bnd_g hf
      have Jj12 : j12 = some (rr, hh) → WA p l e rmX10_bestOf s m args below meth c (MQ below (QG G b0 h0 (some (.long rr)) hh) args s (rmX10_bestOf).cells (rmX10_bestOf).slots (AB b0)) G b0 3 h0 0 0 h 58 [(0, .ref a0), (1, .int x1), (2, .int x2)] [] := by
        intro  hf
        rw [ej12] at hf
        refine r_aload_n K 0 dX10_bestOf_58 rfl ?_
        obtain ⟨b13, e14, hf⟩ := ob1_s hf
        refine r_getR (ci := 10) (k := 22) K dX10_bestOf_59 inX10 rfl (by decide) rfl q_928 e14 ?_
        refine r_aload_n K 0 dX10_bestOf_62 rfl ?_
        refine r_iload_n K 2 dX10_bestOf_63 rfl ?_
        refine r_iconst (v := (0 : Int32)) K dX10_bestOf_64 (by decide) ?_
        obtain ⟨r15, e16, hf⟩ := ob1_s hf
        refine r_callV (As := [.int x2, .int (0 : Int32)]) (rest := [.ref b13]) (st1 := [.long r15, .ref b13]) (cells1 := 0) (slots1 := 0) (b := a0) (ci := 10) K (fun z => mX10_ofClass l z e16) dX10_bestOf_65 rfl (fun z => z _ _ ht) rfl ceX10_ofClass q_1086 q_1088 q_39 q_85 q_1089 ⟨Nat.le_of_ble_eq_true rfl, Nat.le_of_ble_eq_true rfl⟩ (Nat.le_of_ble_eq_true rfl) ⟨Nat.le_of_ble_eq_true rfl, Nat.le_of_ble_eq_true rfl⟩ ?_ rfl rfl rfl rfl
        refine r_l2i K dX10_bestOf_68 ?_
        obtain ⟨y17, ey17, hf⟩ := bnd_g hf
        refine r_nmi ey17 ?_
        refine r_dup2_11 K dX10_bestOf_69 rfl rfl ?_
        obtain ⟨v18, e19, hf⟩ := ob1_s hf
        refine r_iaload K dX10_bestOf_70 e19 ?_
        refine r_aload_n K 0 dX10_bestOf_71 rfl ?_
        refine r_iload_n K 2 dX10_bestOf_72 rfl ?_
        refine r_iconst (v := (1 : Int32)) K dX10_bestOf_73 (by decide) ?_
        obtain ⟨r20, e21, hf⟩ := ob1_s hf
        refine r_callV (As := [.int x2, .int (1 : Int32)]) (rest := [.int v18, .int y17, .ref b13]) (st1 := [.long r20, .int v18, .int y17, .ref b13]) (cells1 := 0) (slots1 := 0) (b := a0) (ci := 10) K (fun z => mX10_ofClass l z e21) dX10_bestOf_74 rfl (fun z => z _ _ ht) rfl ceX10_ofClass q_1086 q_1088 q_39 q_85 q_1089 ⟨Nat.le_of_ble_eq_true rfl, Nat.le_of_ble_eq_true rfl⟩ (Nat.le_of_ble_eq_true rfl) ⟨Nat.le_of_ble_eq_true rfl, Nat.le_of_ble_eq_true rfl⟩ ?_ rfl rfl rfl rfl
        refine r_l2i K dX10_bestOf_77 ?_
        refine r_iadd K dX10_bestOf_78 ?_
        obtain ⟨g22, e23, hf⟩ := ob1_s hf
        refine r_iastore K dX10_bestOf_79 e23 ?_
        refine r_iload_n K 1 dX10_bestOf_80 rfl ?_
        refine r_aload_n K 0 dX10_bestOf_81 rfl ?_
        refine r_iload_n K 2 dX10_bestOf_82 rfl ?_
        refine r_iconst (v := (1 : Int32)) K dX10_bestOf_83 (by decide) ?_
        obtain ⟨r24, e25, hf⟩ := ob1_s hf
        refine r_callV (As := [.int x2, .int (1 : Int32)]) (rest := [.int x1]) (st1 := [.long r24, .int x1]) (cells1 := 0) (slots1 := 0) (b := a0) (ci := 10) K (fun z => mX10_ofClass l z e25) dX10_bestOf_84 rfl (fun z => z _ _ ht) rfl ceX10_ofClass q_1086 q_1088 q_39 q_85 q_1089 ⟨Nat.le_of_ble_eq_true rfl, Nat.le_of_ble_eq_true rfl⟩ (Nat.le_of_ble_eq_true rfl) ⟨Nat.le_of_ble_eq_true rfl, Nat.le_of_ble_eq_true rfl⟩ ?_ rfl rfl rfl rfl
        refine r_l2i K dX10_bestOf_87 ?_
        refine r_iadd K dX10_bestOf_88 ?_
        obtain ⟨y26, ey26, hf⟩ := bnd_g hf
        refine r_nmi ey26 ?_
        refine r_istore_n (lv1 := [(1, .int y26), (0, .ref a0), (2, .int x2)]) K dX10_bestOf_89 (by decide) rfl ?_
        obtain ⟨y27, ey27, hf⟩ := bnd_g hf
        refine r_iinc (lv1 := [(2, .int y27), (1, .int y26), (0, .ref a0)]) K 2 dX10_bestOf_90 rfl (by rw [ey27]; rfl) (by decide) rfl ?_
        refine r_goto (tgt := 29) K dX10_bestOf_93 (by decide) ?_
        refine r_lv [2, 1, 0] rfl ?_
        exact ih y26 y27 g22 hf
      refine r_lif_le (tgt := 58) K dX10_bestOf_41 dX10_bestOf_42 (by decide) (fun c33 => ?_) (fun c33 => ?_)
      · replace hf := ite_t hf c33
        exact Jj12  hf
      · replace hf := ite_f hf c33
        refine r_aload_n K 0 dX10_bestOf_45 rfl ?_
        obtain ⟨b28, e29, hf⟩ := ob1_s hf
        refine r_getR (ci := 10) (k := 10) K dX10_bestOf_46 inX10 rfl (by decide) rfl q_916 e29 ?_
        refine r_iload_n K 2 dX10_bestOf_49 rfl ?_
        obtain ⟨v30, e31, hf⟩ := ob1_s hf
        refine r_iaload K dX10_bestOf_50 e31 ?_
        refine r_if_ne (tgt := 58) K dX10_bestOf_51 (by decide) (fun c32 => ?_) (fun c32 => ?_)
        · replace hf := ite_f hf c32
          exact Jj12  hf
        · replace hf := ite_t hf c32
          refine r_ldc2 K dX10_bestOf_54 q_1215 ?_
          exact r_lret K dX10_bestOf_57 hf (Nat.le_of_ble_eq_true rfl) (Nat.le_of_ble_eq_true rfl)
set_option maxHeartbeats 4000000 in
set_option maxRecDepth 100000 in
theorem wX10_bestOf_L98 {p : Program} {l : Launch} {e : Env} {s : State} {m : MethodId} {args : Array Value} {below : List Frame} {meth : Method} {c : Code} {G : GG} {b0 : Nat} {h0 : AH} {a0 : Nat} {x1 : Int32} {rr : Int64} {hh : AH} (K : CX p s m args meth c cX10_bestOf 3 RX10 (some .long) G b0) (ht : isO h0 a0 10) (k : AH → Option (Int64 × AH)) (hk : ∀ (h : AH), k h = some (rr, hh) → WA p l e rmX10_bestOf s m args below meth c (MQ below (QG G b0 h0 (some (.long rr)) hh) args s (rmX10_bestOf).cells (rmX10_bestOf).slots (AB b0)) G b0 3 h0 0 0 h 117 [(0, .ref a0), (1, .int x1)] []) : ∀ (n : Nat) (x2 : Int32) (h : AH), fX10_bestOf_L98 a0 x1 k n x2 h = some (rr, hh) → WA p l e rmX10_bestOf s m args below meth c (MQ below (QG G b0 h0 (some (.long rr)) hh) args s (rmX10_bestOf).cells (rmX10_bestOf).slots (AB b0)) G b0 3 h0 0 0 h 98 [(0, .ref a0), (1, .int x1), (2, .int x2)] [] := by
  intro n
  induction n with
  | zero =>
    intro x2 h hf
    rw [fX10_bestOf_L98] at hf
    cases hf
  | succ n ih =>
    intro x2 h hf
    rw [fX10_bestOf_L98] at hf
    refine r_iload_n K 2 dX10_bestOf_98 rfl ?_
    refine r_bipush (v := (13 : Int32)) K dX10_bestOf_99 (by decide) ?_
    refine r_icmp_ge (tgt := 117) K dX10_bestOf_101 (by decide) (fun c42 => ?_) (fun c42 => ?_)
    · replace hf := ite_t hf c42
      refine r_lv [0, 1] rfl ?_
      exact hk h hf
    · replace hf := ite_f hf c42
      refine r_aload_n K 0 dX10_bestOf_104 rfl ?_
      obtain ⟨b37, e38, hf⟩ := ob1_s hf
      refine r_getR (ci := 10) (k := 21) K dX10_bestOf_105 inX10 rfl (by decide) rfl q_927 e38 ?_
      refine r_iload_n K 2 dX10_bestOf_108 rfl ?_
      refine r_iconst (v := (0 : Int32)) K dX10_bestOf_109 (by decide) ?_
      obtain ⟨g39, e40, hf⟩ := ob1_s hf
      refine r_iastore K dX10_bestOf_110 e40 ?_
      obtain ⟨y41, ey41, hf⟩ := bnd_g hf
      refine r_iinc (lv1 := [(2, .int y41), (0, .ref a0), (1, .int x1)]) K 2 dX10_bestOf_111 rfl (by rw [ey41]; rfl) (by decide) rfl ?_
      refine r_goto (tgt := 98) K dX10_bestOf_114 (by decide) ?_
      refine r_lv [1, 2, 0] rfl ?_
      exact ih y41 g39 hf
set_option maxHeartbeats 4000000 in
set_option maxRecDepth 100000 in
theorem wX10_bestOf_L121 {p : Program} {l : Launch} {e : Env} {s : State} {m : MethodId} {args : Array Value} {below : List Frame} {meth : Method} {c : Code} {G : GG} {b0 : Nat} {h0 : AH} {a0 : Nat} {rr : Int64} {hh : AH} (K : CX p s m args meth c cX10_bestOf 3 RX10 (some .long) G b0) (ht : isO h0 a0 10) (k : AH → Option (Int64 × AH)) (hk : ∀ (h : AH), k h = some (rr, hh) → WA p l e rmX10_bestOf s m args below meth c (MQ below (QG G b0 h0 (some (.long rr)) hh) args s (rmX10_bestOf).cells (rmX10_bestOf).slots (AB b0)) G b0 3 h0 0 0 h 165 [(0, .ref a0)] []) : ∀ (n : Nat) (x1 : Int32) (h : AH), fX10_bestOf_L121 a0 k n x1 h = some (rr, hh) → WA p l e rmX10_bestOf s m args below meth c (MQ below (QG G b0 h0 (some (.long rr)) hh) args s (rmX10_bestOf).cells (rmX10_bestOf).slots (AB b0)) G b0 3 h0 0 0 h 121 [(0, .ref a0), (1, .int x1)] [] := by
  intro n
  induction n with
  | zero =>
    intro x1 h hf
    rw [fX10_bestOf_L121] at hf
    cases hf
  | succ n ih =>
    intro x1 h hf
    rw [fX10_bestOf_L121] at hf
    refine r_iload_n K 1 dX10_bestOf_121 rfl ?_
    refine r_if_le (tgt := 165) K dX10_bestOf_122 (by decide) (fun c65 => ?_) (fun c65 => ?_)
    · replace hf := ite_t hf c65
      refine r_lv [0] rfl ?_
      exact hk h hf
    · replace hf := ite_f hf c65
      refine r_aload_n K 0 dX10_bestOf_125 rfl ?_
      obtain ⟨g46, e47, hf⟩ := ob1_s hf
      refine r_callV (As := []) (rest := []) (st1 := []) (cells1 := 0) (slots1 := 0) (b := a0) (ci := 10) K (fun z => mX10_layFar l z e47) dX10_bestOf_126 rfl (fun z => z _ _ ht) rfl ceX10_layFar q_1280 q_1282 q_64 q_85 q_1283 ⟨Nat.le_of_ble_eq_true rfl, Nat.le_of_ble_eq_true rfl⟩ (Nat.le_of_ble_eq_true rfl) ⟨Nat.le_of_ble_eq_true rfl, Nat.le_of_ble_eq_true rfl⟩ ?_ rfl rfl rfl rfl
      refine r_aload_n K 0 dX10_bestOf_129 rfl ?_
      obtain ⟨r48, e49, hf⟩ := ob1_s hf
      refine r_callV (As := []) (rest := []) (st1 := [.int r48]) (cells1 := 0) (slots1 := 0) (b := a0) (ci := 10) K (fun z => mX10_nearest l z e49) dX10_bestOf_130 rfl (fun z => z _ _ ht) rfl ceX10_nearest q_1292 q_1294 q_67 q_85 q_1295 ⟨Nat.le_of_ble_eq_true rfl, Nat.le_of_ble_eq_true rfl⟩ (Nat.le_of_ble_eq_true rfl) ⟨Nat.le_of_ble_eq_true rfl, Nat.le_of_ble_eq_true rfl⟩ ?_ rfl rfl rfl rfl
      refine r_istore_n (lv1 := [(2, .int r48), (0, .ref a0), (1, .int x1)]) K dX10_bestOf_133 (by decide) rfl ?_
      refine r_aload_n K 1 dX10_bestOf_134 rfl ?_
      refine r_aload_n K 1 dX10_bestOf_135 rfl ?_
      obtain ⟨b50, e51, hf⟩ := ob1_s hf
      refine r_getR (ci := 10) (k := 23) K dX10_bestOf_136 inX10 rfl (by decide) rfl q_929 e51 ?_
      refine r_iload_n K 0 dX10_bestOf_139 rfl ?_
      obtain ⟨v52, e53, hf⟩ := ob1_s hf
      refine r_laload K dX10_bestOf_140 e53 ?_
      obtain ⟨g54, e55, hf⟩ := ob1_s hf
      refine r_callV (As := [.long v52]) (rest := []) (st1 := []) (cells1 := 0) (slots1 := 0) (b := a0) (ci := 10) K (fun z => mX10_adds l z e55) dX10_bestOf_141 rfl (fun z => z _ _ ht) rfl ceX10_adds q_1210 q_1212 q_61 q_85 q_1213 ⟨Nat.le_of_ble_eq_true rfl, Nat.le_of_ble_eq_true rfl⟩ (Nat.le_of_ble_eq_true rfl) ⟨Nat.le_of_ble_eq_true rfl, Nat.le_of_ble_eq_true rfl⟩ ?_ rfl rfl rfl rfl
      refine r_aload_n K 1 dX10_bestOf_144 rfl ?_
      refine r_iload_n K 0 dX10_bestOf_145 rfl ?_
      obtain ⟨g56, e57, hf⟩ := ob1_s hf
      refine r_callV (As := [.int r48]) (rest := []) (st1 := []) (cells1 := 0) (slots1 := 0) (b := a0) (ci := 10) K (fun z => mX10_sends l z e57) dX10_bestOf_146 rfl (fun z => z _ _ ht) rfl ceX10_sends q_1296 q_1298 q_68 q_85 q_1299 ⟨Nat.le_of_ble_eq_true rfl, Nat.le_of_ble_eq_true rfl⟩ (Nat.le_of_ble_eq_true rfl) ⟨Nat.le_of_ble_eq_true rfl, Nat.le_of_ble_eq_true rfl⟩ ?_ rfl rfl rfl rfl
      refine r_aload_n K 1 dX10_bestOf_149 rfl ?_
      obtain ⟨b58, e59, hf⟩ := ob1_s hf
      refine r_getR (ci := 10) (k := 22) K dX10_bestOf_150 inX10 rfl (by decide) rfl q_928 e59 ?_
      refine r_iload_n K 0 dX10_bestOf_153 rfl ?_
      refine r_dup2_11 K dX10_bestOf_154 rfl rfl ?_
      obtain ⟨v60, e61, hf⟩ := ob1_s hf
      refine r_iaload K dX10_bestOf_155 e61 ?_
      refine r_iconst (v := (1 : Int32)) K dX10_bestOf_156 (by decide) ?_
      refine r_isub K dX10_bestOf_157 ?_
      obtain ⟨g62, e63, hf⟩ := ob1_s hf
      refine r_iastore K dX10_bestOf_158 e63 ?_
      obtain ⟨y64, ey64, hf⟩ := bnd_g hf
      refine r_iinc (lv1 := [(1, .int y64), (2, .int r48), (0, .ref a0)]) K 2 dX10_bestOf_159 rfl (by rw [ey64]; rfl) (by decide) rfl ?_
      refine r_goto (tgt := 121) K dX10_bestOf_162 (by decide) ?_
      refine r_lv [2, 0] rfl ?_
      exact ih y64 g62 hf
set_option maxHeartbeats 4000000 in
set_option maxRecDepth 100000 in
theorem mX10_bestOf (l : Launch) {G : GG} {b0 : Nat} {h : AH} {a0 : Nat} {rr : Int64} {hh : AH} (ht : isO h a0 10) (hf : fX10_bestOf a0 h = some (rr, hh)) : MM l yX10_bestOf cX10_bestOf 3 (some .long) rmX10_bestOf G b0 h [.ref a0] (some (.long rr)) hh := by
  refine MM.of (own := RX10) (lv0 := [(0, .ref a0)]) (by decide) rfl (Nat.le_of_ble_eq_true rfl) rfl ?_
  intro p e s m args below meth c K hnm
  unfold fX10_bestOf at hf
  refine r_aload_n K 0 dX10_bestOf_0 rfl ?_
  obtain ⟨g1, e2, hf⟩ := ob1_s hf
  refine r_callV (As := []) (rest := []) (st1 := []) (cells1 := 0) (slots1 := 0) (b := a0) (ci := 10) K (fun z => mX10_layAllWays l z e2) dX10_bestOf_1 rfl (fun z => z _ _ ht) rfl ceX10_layAllWays q_1169 q_1171 q_51 q_85 q_1172 ⟨Nat.le_of_ble_eq_true rfl, Nat.le_of_ble_eq_true rfl⟩ (Nat.le_of_ble_eq_true rfl) ⟨Nat.le_of_ble_eq_true rfl, Nat.le_of_ble_eq_true rfl⟩ ?_ rfl rfl rfl rfl
  refine r_iconst (v := (0 : Int32)) K dX10_bestOf_4 (by decide) ?_
  refine r_istore_n (lv1 := [(1, .int (0 : Int32)), (0, .ref a0)]) K dX10_bestOf_5 (by decide) rfl ?_
  refine r_lv [1, 0] rfl ?_
  refine wX10_bestOf_L6 K ht _ (fun g9 hf => ?_) lf (0 : Int32) g1 hf
  refine r_iconst (v := (0 : Int32)) K dX10_bestOf_25 (by decide) ?_
  refine r_istore_n (lv1 := [(1, .int (0 : Int32)), (0, .ref a0)]) K dX10_bestOf_26 (by decide) rfl ?_
  refine r_iconst (v := (0 : Int32)) K dX10_bestOf_27 (by decide) ?_
  refine r_istore_n (lv1 := [(2, .int (0 : Int32)), (1, .int (0 : Int32)), (0, .ref a0)]) K dX10_bestOf_28 (by decide) rfl ?_
  refine r_lv [2, 1, 0] rfl ?_
  refine wX10_bestOf_L29 K ht _ (fun y35 g36 hf => ?_) lf (0 : Int32) (0 : Int32) g9 hf
  refine r_iconst (v := (0 : Int32)) K dX10_bestOf_96 (by decide) ?_
  refine r_istore_n (lv1 := [(2, .int (0 : Int32)), (0, .ref a0), (1, .int y35)]) K dX10_bestOf_97 (by decide) rfl ?_
  refine r_lv [1, 2, 0] rfl ?_
  refine wX10_bestOf_L98 K ht _ (fun g43 hf => ?_) lf (0 : Int32) g36 hf
  refine r_aload_n K 0 dX10_bestOf_117 rfl ?_
  obtain ⟨g44, e45, hf⟩ := ob1_s hf
  refine r_callV (As := []) (rest := []) (st1 := []) (cells1 := 0) (slots1 := 0) (b := a0) (ci := 10) K (fun z => mX10_begins l z e45) dX10_bestOf_118 rfl (fun z => z _ _ ht) rfl ceX10_begins q_1202 q_1204 q_59 q_85 q_1205 ⟨Nat.le_of_ble_eq_true rfl, Nat.le_of_ble_eq_true rfl⟩ (Nat.le_of_ble_eq_true rfl) ⟨Nat.le_of_ble_eq_true rfl, Nat.le_of_ble_eq_true rfl⟩ ?_ rfl rfl rfl rfl
  refine wX10_bestOf_L121 K ht _ (fun g66 hf => ?_) lf y35 g44 hf
  refine r_aload_n K 0 dX10_bestOf_165 rfl ?_
  obtain ⟨v67, e68, hf⟩ := ob1_s hf
  refine r_getI (ci := 10) (k := 19) K dX10_bestOf_166 inX10 rfl (by decide) rfl q_925 e68 ?_
  refine r_if_eq (tgt := 178) K dX10_bestOf_169 (by decide) (fun c71 => ?_) (fun c71 => ?_)
  · replace hf := ite_t hf c71
    refine r_aload_n K 0 dX10_bestOf_178 rfl ?_
    obtain ⟨v69, e70, hf⟩ := ob1_s hf
    refine r_getL (ci := 10) (k := 20) K dX10_bestOf_179 inX10 rfl (by decide) rfl q_926 e70 ?_
    exact r_lret K dX10_bestOf_182 hf (Nat.le_of_ble_eq_true rfl) (Nat.le_of_ble_eq_true rfl)
  · replace hf := ite_f hf c71
    refine r_ldc2 K dX10_bestOf_172 q_1214 ?_
    refine r_goto (tgt := 182) K dX10_bestOf_175 (by decide) ?_
    exact r_lret K dX10_bestOf_182 hf (Nat.le_of_ble_eq_true rfl) (Nat.le_of_ble_eq_true rfl)
theorem ceX10_best : CE yX10_best 0 := ⟨by decide, by decide, by decide +kernel⟩
abbrev rmX10_best : Room := { frames := 5, cells := 0, slots := 0, locals := 123 }
def fX10_best (a0 : Nat) (h : AH) : Option (Int64 × AH) :=
  ob2 (fX10_bestOf a0 h) fun r1 g2 =>
  if (0 : Int64) ≤ r1 then
    some (r1, g2)
  else
    some ((-9223372036854775808 : Int64), g2)
set_option maxHeartbeats 4000000 in
set_option maxRecDepth 100000 in
theorem mX10_best (l : Launch) {G : GG} {b0 : Nat} {h : AH} {a0 : Nat} {rr : Int64} {hh : AH} (ht : isO h a0 10) (hf : fX10_best a0 h = some (rr, hh)) : MM l yX10_best cX10_best 3 (some .long) rmX10_best G b0 h [.ref a0] (some (.long rr)) hh := by
  refine MM.of (own := RX10) (lv0 := [(0, .ref a0)]) (by decide) rfl (Nat.le_of_ble_eq_true rfl) rfl ?_
  intro p e s m args below meth c K hnm
  unfold fX10_best at hf
  refine r_aload_n K 0 dX10_best_0 rfl ?_
  obtain ⟨r1, g2, e3, hf⟩ := ob2_s hf
  refine r_callV (As := []) (rest := []) (st1 := [.long r1]) (cells1 := 0) (slots1 := 0) (b := a0) (ci := 10) K (fun z => mX10_bestOf l z e3) dX10_best_1 rfl (fun z => z _ _ ht) rfl ceX10_bestOf q_1276 q_1278 q_63 q_85 q_1279 ⟨Nat.le_of_ble_eq_true rfl, Nat.le_of_ble_eq_true rfl⟩ (Nat.le_of_ble_eq_true rfl) ⟨Nat.le_of_ble_eq_true rfl, Nat.le_of_ble_eq_true rfl⟩ ?_ rfl rfl rfl rfl
  refine r_lstore_n (lv1 := [(1, .long r1), (0, .ref a0)]) K dX10_best_4 (by decide) rfl ?_
  refine r_lload_n K 0 dX10_best_5 rfl ?_
  refine r_lconst (v := (0 : Int64)) K dX10_best_6 (by decide) ?_
  refine r_lif_ge (tgt := 17) K dX10_best_7 dX10_best_8 (by decide) (fun c4 => ?_) (fun c4 => ?_)
  · replace hf := ite_t hf c4
    refine r_lload_n K 0 dX10_best_17 rfl ?_
    exact r_lret K dX10_best_18 hf (Nat.le_of_ble_eq_true rfl) (Nat.le_of_ble_eq_true rfl)
  · replace hf := ite_f hf c4
    refine r_ldc2 K dX10_best_11 q_1060 ?_
    refine r_goto (tgt := 18) K dX10_best_14 (by decide) ?_
    exact r_lret K dX10_best_18 hf (Nat.le_of_ble_eq_true rfl) (Nat.le_of_ble_eq_true rfl)
theorem ceX10_worse : CE yX10_worse 2 := ⟨by decide, by decide, by decide +kernel⟩
abbrev rmX10_worse : Room := { frames := 10, cells := 0, slots := 0, locals := 251 }
def fX10_worse (a0 : Nat) (x1 : Int32) (x2 : Int32) (h : AH) : Option (Int64 × AH) :=
  ob1 (fX10_isMode x1) fun r1 =>
  if r1 = (0 : Int32) then
    some ((-9223372036854775808 : Int64), h)
  else
    ob1 (fX10_in (Int32.toInt64 x2) (0 : Int64) (1 : Int64)) fun r3 =>
    if r3 = (0 : Int32) then
      some ((-9223372036854775808 : Int64), h)
    else
      ob2 (fX10_totalBy a0 x1 h) fun r5 g6 =>
      ob2 (fX10_bestOf a0 g6) fun r8 g9 =>
      if r5 < (0 : Int64) then
        some ((-9223372036854775808 : Int64), g9)
      else
        if r8 < (0 : Int64) then
          some ((-9223372036854775808 : Int64), g9)
        else
          bnd (
            if r8 = (0 : Int64) then
              some (Int32.toInt64 x2, g9)
            else
              ob1 (fX10_partOf (r5 - r8) r8 x2) fun r12 =>
              some (r12, g9)
          ) fun j11 =>
          if r8 = (0 : Int64) then
            if r5 ≤ (0 : Int64) then
              j11
            else
              some ((-9223372036854775808 : Int64), g9)
          else
            j11
set_option maxHeartbeats 4000000 in
set_option maxRecDepth 100000 in
theorem mX10_worse (l : Launch) {G : GG} {b0 : Nat} {h : AH} {a0 : Nat} {x1 : Int32} {x2 : Int32} {rr : Int64} {hh : AH} (ht : isO h a0 10) (hf : fX10_worse a0 x1 x2 h = some (rr, hh)) : MM l yX10_worse cX10_worse 7 (some .long) rmX10_worse G b0 h [.ref a0, .int x1, .int x2] (some (.long rr)) hh := by
  refine MM.of (own := RX10) (lv0 := [(0, .ref a0), (1, .int x1), (2, .int x2)]) (by decide) rfl (Nat.le_of_ble_eq_true rfl) rfl ?_
  intro p e s m args below meth c K hnm
  unfold fX10_worse at hf
  refine r_iload_n K 1 dX10_worse_0 rfl ?_
  obtain ⟨r1, e2, hf⟩ := ob1_s hf
  refine r_callS (As := [.int x1]) (rest := []) (st1 := [.int r1]) (cells1 := 0) (slots1 := 0) K (mX10_isMode l e2) dX10_worse_1 ceX10_isMode q_1158 q_1159 q_85 q_1160 ⟨Nat.le_of_ble_eq_true rfl, Nat.le_of_ble_eq_true rfl⟩ (Nat.le_of_ble_eq_true rfl) ⟨Nat.le_of_ble_eq_true rfl, Nat.le_of_ble_eq_true rfl⟩ ?_ rfl rfl rfl rfl
  refine r_if_eq (tgt := 17) K dX10_worse_4 (by decide) (fun c20 => ?_) (fun c20 => ?_)
  · replace hf := ite_t hf c20
    refine r_ldc2 K dX10_worse_17 q_1060 ?_
    exact r_lret K dX10_worse_20 hf (Nat.le_of_ble_eq_true rfl) (Nat.le_of_ble_eq_true rfl)
  · replace hf := ite_f hf c20
    refine r_iload_n K 2 dX10_worse_7 rfl ?_
    refine r_i2l K dX10_worse_8 ?_
    refine r_lconst (v := (0 : Int64)) K dX10_worse_9 (by decide) ?_
    refine r_lconst (v := (1 : Int64)) K dX10_worse_10 (by decide) ?_
    obtain ⟨r3, e4, hf⟩ := ob1_s hf
    refine r_callS (As := [.long (Int32.toInt64 x2), .long (0 : Int64), .long (1 : Int64)]) (rest := []) (st1 := [.int r3]) (cells1 := 0) (slots1 := 0) K (mX10_in l e4) dX10_worse_11 ceX10_in q_1005 q_1006 q_85 q_1007 ⟨Nat.le_of_ble_eq_true rfl, Nat.le_of_ble_eq_true rfl⟩ (Nat.le_of_ble_eq_true rfl) ⟨Nat.le_of_ble_eq_true rfl, Nat.le_of_ble_eq_true rfl⟩ ?_ rfl rfl rfl rfl
    refine r_if_ne (tgt := 21) K dX10_worse_14 (by decide) (fun c19 => ?_) (fun c19 => ?_)
    · replace hf := ite_f hf c19
      refine r_aload_n K 0 dX10_worse_21 rfl ?_
      refine r_iload_n K 1 dX10_worse_22 rfl ?_
      obtain ⟨r5, g6, e7, hf⟩ := ob2_s hf
      refine r_callV (As := [.int x1]) (rest := []) (st1 := [.long r5]) (cells1 := 0) (slots1 := 0) (b := a0) (ci := 10) K (fun z => mX10_totalBy l z e7) dX10_worse_23 rfl (fun z => z _ _ ht) rfl ceX10_totalBy q_1161 q_1163 q_49 q_85 q_1164 ⟨Nat.le_of_ble_eq_true rfl, Nat.le_of_ble_eq_true rfl⟩ (Nat.le_of_ble_eq_true rfl) ⟨Nat.le_of_ble_eq_true rfl, Nat.le_of_ble_eq_true rfl⟩ ?_ rfl rfl rfl rfl
      refine r_lstore_n (lv1 := [(3, .long r5), (0, .ref a0), (1, .int x1), (2, .int x2)]) K dX10_worse_26 (by decide) rfl ?_
      refine r_aload_n K 1 dX10_worse_27 rfl ?_
      obtain ⟨r8, g9, e10, hf⟩ := ob2_s hf
      refine r_callV (As := []) (rest := []) (st1 := [.long r8]) (cells1 := 0) (slots1 := 0) (b := a0) (ci := 10) K (fun z => mX10_bestOf l z e10) dX10_worse_28 rfl (fun z => z _ _ ht) rfl ceX10_bestOf q_1276 q_1278 q_63 q_85 q_1279 ⟨Nat.le_of_ble_eq_true rfl, Nat.le_of_ble_eq_true rfl⟩ (Nat.le_of_ble_eq_true rfl) ⟨Nat.le_of_ble_eq_true rfl, Nat.le_of_ble_eq_true rfl⟩ ?_ rfl rfl rfl rfl
      refine r_lstore (lv1 := [(5, .long r8), (3, .long r5), (0, .ref a0), (1, .int x1), (2, .int x2)]) K dX10_worse_31 (by decide) rfl ?_
      refine r_lload_n K 1 dX10_worse_33 rfl ?_
      refine r_lconst (v := (0 : Int64)) K dX10_worse_34 (by decide) ?_
      refine r_lif_lt (tgt := 59) K dX10_worse_35 dX10_worse_36 (by decide) (fun c18 => ?_) (fun c18 => ?_)
      · replace hf := ite_t hf c18
        refine r_ldc2 K dX10_worse_59 q_1060 ?_
        exact r_lret K dX10_worse_62 hf (Nat.le_of_ble_eq_true rfl) (Nat.le_of_ble_eq_true rfl)
      · replace hf := ite_f hf c18
        refine r_lload K 0 dX10_worse_39 rfl ?_
        refine r_lconst (v := (0 : Int64)) K dX10_worse_41 (by decide) ?_
        refine r_lif_lt (tgt := 59) K dX10_worse_42 dX10_worse_43 (by decide) (fun c17 => ?_) (fun c17 => ?_)
        · replace hf := ite_t hf c17
          refine r_ldc2 K dX10_worse_59 q_1060 ?_
          exact r_lret K dX10_worse_62 hf (Nat.le_of_ble_eq_true rfl) (Nat.le_of_ble_eq_true rfl)
        · replace hf := ite_f hf c17
          refine r_lload K 0 dX10_worse_46 rfl ?_
          refine r_lconst (v := (0 : Int64)) K dX10_worse_48 (by decide) ?_
          obtain ⟨j11, ej11, hf⟩ := bnd_g hf
          have Jj11 : j11 = some (rr, hh) → WA p l e rmX10_worse s m args below meth c (MQ below (QG G b0 h (some (.long rr)) hh) args s (rmX10_worse).cells (rmX10_worse).slots (AB b0)) G b0 7 h 0 0 g9 63 [(2, .int x2), (3, .long r5), (5, .long r8)] [] := by
            intro  hf
            rw [ej11] at hf
            refine r_lload K 2 dX10_worse_63 rfl ?_
            refine r_lconst (v := (0 : Int64)) K dX10_worse_65 (by decide) ?_
            refine r_lif_ne (tgt := 75) K dX10_worse_66 dX10_worse_67 (by decide) (fun c14 => ?_) (fun c14 => ?_)
            · replace hf := ite_f hf c14
              refine r_lload_n K 1 dX10_worse_75 rfl ?_
              refine r_lload K 2 dX10_worse_76 rfl ?_
              refine r_lsub K dX10_worse_78 ?_
              refine r_lload K 2 dX10_worse_79 rfl ?_
              refine r_iload_n K 0 dX10_worse_81 rfl ?_
              obtain ⟨r12, e13, hf⟩ := ob1_s hf
              refine r_callS (As := [.long (r5 - r8), .long r8, .int x2]) (rest := []) (st1 := [.long r12]) (cells1 := 0) (slots1 := 0) K (mX10_partOf l e13) dX10_worse_82 ceX10_partOf q_1244 q_1245 q_85 q_1246 ⟨Nat.le_of_ble_eq_true rfl, Nat.le_of_ble_eq_true rfl⟩ (Nat.le_of_ble_eq_true rfl) ⟨Nat.le_of_ble_eq_true rfl, Nat.le_of_ble_eq_true rfl⟩ ?_ rfl rfl rfl rfl
              exact r_lret K dX10_worse_85 hf (Nat.le_of_ble_eq_true rfl) (Nat.le_of_ble_eq_true rfl)
            · replace hf := ite_t hf c14
              refine r_iload_n K 0 dX10_worse_70 rfl ?_
              refine r_i2l K dX10_worse_71 ?_
              refine r_goto (tgt := 85) K dX10_worse_72 (by decide) ?_
              exact r_lret K dX10_worse_85 hf (Nat.le_of_ble_eq_true rfl) (Nat.le_of_ble_eq_true rfl)
          refine r_lif_ne (tgt := 63) K dX10_worse_49 dX10_worse_50 (by decide) (fun c16 => ?_) (fun c16 => ?_)
          · replace hf := ite_f hf c16
            refine r_lv [4, 1, 0] rfl ?_
            exact Jj11  hf
          · replace hf := ite_t hf c16
            refine r_lload_n K 1 dX10_worse_53 rfl ?_
            refine r_lconst (v := (0 : Int64)) K dX10_worse_54 (by decide) ?_
            refine r_lif_le (tgt := 63) K dX10_worse_55 dX10_worse_56 (by decide) (fun c15 => ?_) (fun c15 => ?_)
            · replace hf := ite_t hf c15
              refine r_lv [4, 1, 0] rfl ?_
              exact Jj11  hf
            · replace hf := ite_f hf c15
              refine r_ldc2 K dX10_worse_59 q_1060 ?_
              exact r_lret K dX10_worse_62 hf (Nat.le_of_ble_eq_true rfl) (Nat.le_of_ble_eq_true rfl)
    · replace hf := ite_t hf c19
      refine r_ldc2 K dX10_worse_17 q_1060 ?_
      exact r_lret K dX10_worse_20 hf (Nat.le_of_ble_eq_true rfl) (Nat.le_of_ble_eq_true rfl)
theorem ceX10_totalWithout : CE yX10_totalWithout 2 := ⟨by decide, by decide, by decide +kernel⟩
abbrev rmX10_totalWithout : Room := { frames := 10, cells := 0, slots := 0, locals := 251 }
def fX10_totalWithout (a0 : Nat) (x1 : Int32) (x2 : Int32) (h : AH) : Option (Int64 × AH) :=
  ob1 (gR h a0 10 0) fun b1 =>
  ob1 (gR h a0 10 2) fun b3 =>
  ob1 (fX10_copies b1 b3 h) fun g5 =>
  ob1 (fX10_takesOut a0 x2 g5) fun g7 =>
  ob2 (fX10_totalBy a0 x1 g7) fun r9 g10 =>
  ob1 (gR g10 a0 10 2) fun b12 =>
  ob1 (gR g10 a0 10 0) fun b14 =>
  ob1 (fX10_copies b12 b14 g10) fun g16 =>
  some (r9, g16)
set_option maxHeartbeats 4000000 in
set_option maxRecDepth 100000 in
theorem mX10_totalWithout (l : Launch) {G : GG} {b0 : Nat} {h : AH} {a0 : Nat} {x1 : Int32} {x2 : Int32} {rr : Int64} {hh : AH} (ht : isO h a0 10) (hf : fX10_totalWithout a0 x1 x2 h = some (rr, hh)) : MM l yX10_totalWithout cX10_totalWithout 5 (some .long) rmX10_totalWithout G b0 h [.ref a0, .int x1, .int x2] (some (.long rr)) hh := by
  refine MM.of (own := RX10) (lv0 := [(0, .ref a0), (1, .int x1), (2, .int x2)]) (by decide) rfl (Nat.le_of_ble_eq_true rfl) rfl ?_
  intro p e s m args below meth c K hnm
  unfold fX10_totalWithout at hf
  refine r_aload_n K 0 dX10_totalWithout_0 rfl ?_
  obtain ⟨b1, e2, hf⟩ := ob1_s hf
  refine r_getR (ci := 10) (k := 0) K dX10_totalWithout_1 inX10 rfl (by decide) rfl q_906 e2 ?_
  refine r_aload_n K 0 dX10_totalWithout_4 rfl ?_
  obtain ⟨b3, e4, hf⟩ := ob1_s hf
  refine r_getR (ci := 10) (k := 2) K dX10_totalWithout_5 inX10 rfl (by decide) rfl q_908 e4 ?_
  obtain ⟨g5, e6, hf⟩ := ob1_s hf
  refine r_callS (As := [.ref b1, .ref b3]) (rest := []) (st1 := []) (cells1 := 0) (slots1 := 0) K (mX10_copies l e6) dX10_totalWithout_8 ceX10_copies q_1312 q_1313 q_85 q_1314 ⟨Nat.le_of_ble_eq_true rfl, Nat.le_of_ble_eq_true rfl⟩ (Nat.le_of_ble_eq_true rfl) ⟨Nat.le_of_ble_eq_true rfl, Nat.le_of_ble_eq_true rfl⟩ ?_ rfl rfl rfl rfl
  refine r_aload_n K 0 dX10_totalWithout_11 rfl ?_
  refine r_iload_n K 2 dX10_totalWithout_12 rfl ?_
  obtain ⟨g7, e8, hf⟩ := ob1_s hf
  refine r_callV (As := [.int x2]) (rest := []) (st1 := []) (cells1 := 0) (slots1 := 0) (b := a0) (ci := 10) K (fun z => mX10_takesOut l z e8) dX10_totalWithout_13 rfl (fun z => z _ _ ht) rfl ceX10_takesOut q_1040 q_1042 q_35 q_85 q_1043 ⟨Nat.le_of_ble_eq_true rfl, Nat.le_of_ble_eq_true rfl⟩ (Nat.le_of_ble_eq_true rfl) ⟨Nat.le_of_ble_eq_true rfl, Nat.le_of_ble_eq_true rfl⟩ ?_ rfl rfl rfl rfl
  refine r_aload_n K 0 dX10_totalWithout_16 rfl ?_
  refine r_iload_n K 1 dX10_totalWithout_17 rfl ?_
  obtain ⟨r9, g10, e11, hf⟩ := ob2_s hf
  refine r_callV (As := [.int x1]) (rest := []) (st1 := [.long r9]) (cells1 := 0) (slots1 := 0) (b := a0) (ci := 10) K (fun z => mX10_totalBy l z e11) dX10_totalWithout_18 rfl (fun z => z _ _ ht) rfl ceX10_totalBy q_1161 q_1163 q_49 q_85 q_1164 ⟨Nat.le_of_ble_eq_true rfl, Nat.le_of_ble_eq_true rfl⟩ (Nat.le_of_ble_eq_true rfl) ⟨Nat.le_of_ble_eq_true rfl, Nat.le_of_ble_eq_true rfl⟩ ?_ rfl rfl rfl rfl
  refine r_lstore_n (lv1 := [(3, .long r9), (0, .ref a0), (1, .int x1), (2, .int x2)]) K dX10_totalWithout_21 (by decide) rfl ?_
  refine r_aload_n K 1 dX10_totalWithout_22 rfl ?_
  obtain ⟨b12, e13, hf⟩ := ob1_s hf
  refine r_getR (ci := 10) (k := 2) K dX10_totalWithout_23 inX10 rfl (by decide) rfl q_908 e13 ?_
  refine r_aload_n K 1 dX10_totalWithout_26 rfl ?_
  obtain ⟨b14, e15, hf⟩ := ob1_s hf
  refine r_getR (ci := 10) (k := 0) K dX10_totalWithout_27 inX10 rfl (by decide) rfl q_906 e15 ?_
  obtain ⟨g16, e17, hf⟩ := ob1_s hf
  refine r_callS (As := [.ref b12, .ref b14]) (rest := []) (st1 := []) (cells1 := 0) (slots1 := 0) K (mX10_copies l e17) dX10_totalWithout_30 ceX10_copies q_1312 q_1313 q_85 q_1314 ⟨Nat.le_of_ble_eq_true rfl, Nat.le_of_ble_eq_true rfl⟩ (Nat.le_of_ble_eq_true rfl) ⟨Nat.le_of_ble_eq_true rfl, Nat.le_of_ble_eq_true rfl⟩ ?_ rfl rfl rfl rfl
  refine r_lload_n K 0 dX10_totalWithout_33 rfl ?_
  exact r_lret K dX10_totalWithout_34 hf (Nat.le_of_ble_eq_true rfl) (Nat.le_of_ble_eq_true rfl)
theorem ceX10_without : CE yX10_without 2 := ⟨by decide, by decide, by decide +kernel⟩
abbrev rmX10_without : Room := { frames := 11, cells := 0, slots := 0, locals := 275 }
def fX10_without (a0 : Nat) (x1 : Int32) (x2 : Int32) (h : AH) : Option (Int64 × AH) :=
  ob1 (fX10_isMode x1) fun r1 =>
  if r1 = (0 : Int32) then
    some ((-9223372036854775808 : Int64), h)
  else
    ob1 (fX10_isRoad a0 x2 h) fun r3 =>
    if r3 = (0 : Int32) then
      some ((-9223372036854775808 : Int64), h)
    else
      ob2 (fX10_totalBy a0 x1 h) fun r5 g6 =>
      ob2 (fX10_totalWithout a0 x1 x2 g6) fun r8 g9 =>
      if r5 < (0 : Int64) then
        some ((-9223372036854775808 : Int64), g9)
      else
        if (0 : Int64) ≤ r8 then
          some (r8 - r5, g9)
        else
          some ((-9223372036854775808 : Int64), g9)
set_option maxHeartbeats 4000000 in
set_option maxRecDepth 100000 in
theorem mX10_without (l : Launch) {G : GG} {b0 : Nat} {h : AH} {a0 : Nat} {x1 : Int32} {x2 : Int32} {rr : Int64} {hh : AH} (ht : isO h a0 10) (hf : fX10_without a0 x1 x2 h = some (rr, hh)) : MM l yX10_without cX10_without 7 (some .long) rmX10_without G b0 h [.ref a0, .int x1, .int x2] (some (.long rr)) hh := by
  refine MM.of (own := RX10) (lv0 := [(0, .ref a0), (1, .int x1), (2, .int x2)]) (by decide) rfl (Nat.le_of_ble_eq_true rfl) rfl ?_
  intro p e s m args below meth c K hnm
  unfold fX10_without at hf
  refine r_iload_n K 1 dX10_without_0 rfl ?_
  obtain ⟨r1, e2, hf⟩ := ob1_s hf
  refine r_callS (As := [.int x1]) (rest := []) (st1 := [.int r1]) (cells1 := 0) (slots1 := 0) K (mX10_isMode l e2) dX10_without_1 ceX10_isMode q_1158 q_1159 q_85 q_1160 ⟨Nat.le_of_ble_eq_true rfl, Nat.le_of_ble_eq_true rfl⟩ (Nat.le_of_ble_eq_true rfl) ⟨Nat.le_of_ble_eq_true rfl, Nat.le_of_ble_eq_true rfl⟩ ?_ rfl rfl rfl rfl
  refine r_if_eq (tgt := 15) K dX10_without_4 (by decide) (fun c14 => ?_) (fun c14 => ?_)
  · replace hf := ite_t hf c14
    refine r_ldc2 K dX10_without_15 q_1060 ?_
    exact r_lret K dX10_without_18 hf (Nat.le_of_ble_eq_true rfl) (Nat.le_of_ble_eq_true rfl)
  · replace hf := ite_f hf c14
    refine r_aload_n K 0 dX10_without_7 rfl ?_
    refine r_iload_n K 2 dX10_without_8 rfl ?_
    obtain ⟨r3, e4, hf⟩ := ob1_s hf
    refine r_callV (As := [.int x2]) (rest := []) (st1 := [.int r3]) (cells1 := 0) (slots1 := 0) (b := a0) (ci := 10) K (fun z => mX10_isRoad l z e4) dX10_without_9 rfl (fun z => z _ _ ht) rfl ceX10_isRoad q_1036 q_1038 q_34 q_85 q_1039 ⟨Nat.le_of_ble_eq_true rfl, Nat.le_of_ble_eq_true rfl⟩ (Nat.le_of_ble_eq_true rfl) ⟨Nat.le_of_ble_eq_true rfl, Nat.le_of_ble_eq_true rfl⟩ ?_ rfl rfl rfl rfl
    refine r_if_ne (tgt := 19) K dX10_without_12 (by decide) (fun c13 => ?_) (fun c13 => ?_)
    · replace hf := ite_f hf c13
      refine r_aload_n K 0 dX10_without_19 rfl ?_
      refine r_iload_n K 1 dX10_without_20 rfl ?_
      obtain ⟨r5, g6, e7, hf⟩ := ob2_s hf
      refine r_callV (As := [.int x1]) (rest := []) (st1 := [.long r5]) (cells1 := 0) (slots1 := 0) (b := a0) (ci := 10) K (fun z => mX10_totalBy l z e7) dX10_without_21 rfl (fun z => z _ _ ht) rfl ceX10_totalBy q_1161 q_1163 q_49 q_85 q_1164 ⟨Nat.le_of_ble_eq_true rfl, Nat.le_of_ble_eq_true rfl⟩ (Nat.le_of_ble_eq_true rfl) ⟨Nat.le_of_ble_eq_true rfl, Nat.le_of_ble_eq_true rfl⟩ ?_ rfl rfl rfl rfl
      refine r_lstore_n (lv1 := [(3, .long r5), (0, .ref a0), (1, .int x1), (2, .int x2)]) K dX10_without_24 (by decide) rfl ?_
      refine r_aload_n K 1 dX10_without_25 rfl ?_
      refine r_iload_n K 2 dX10_without_26 rfl ?_
      refine r_iload_n K 3 dX10_without_27 rfl ?_
      obtain ⟨r8, g9, e10, hf⟩ := ob2_s hf
      refine r_callV (As := [.int x1, .int x2]) (rest := []) (st1 := [.long r8]) (cells1 := 0) (slots1 := 0) (b := a0) (ci := 10) K (fun z => mX10_totalWithout l z e10) dX10_without_28 rfl (fun z => z _ _ ht) rfl ceX10_totalWithout q_1308 q_1310 q_69 q_85 q_1311 ⟨Nat.le_of_ble_eq_true rfl, Nat.le_of_ble_eq_true rfl⟩ (Nat.le_of_ble_eq_true rfl) ⟨Nat.le_of_ble_eq_true rfl, Nat.le_of_ble_eq_true rfl⟩ ?_ rfl rfl rfl rfl
      refine r_lstore (lv1 := [(5, .long r8), (3, .long r5), (0, .ref a0), (1, .int x1), (2, .int x2)]) K dX10_without_31 (by decide) rfl ?_
      refine r_lload_n K 1 dX10_without_33 rfl ?_
      refine r_lconst (v := (0 : Int64)) K dX10_without_34 (by decide) ?_
      refine r_lif_lt (tgt := 46) K dX10_without_35 dX10_without_36 (by decide) (fun c12 => ?_) (fun c12 => ?_)
      · replace hf := ite_t hf c12
        refine r_ldc2 K dX10_without_46 q_1060 ?_
        refine r_goto (tgt := 56) K dX10_without_49 (by decide) ?_
        exact r_lret K dX10_without_56 hf (Nat.le_of_ble_eq_true rfl) (Nat.le_of_ble_eq_true rfl)
      · replace hf := ite_f hf c12
        refine r_lload K 0 dX10_without_39 rfl ?_
        refine r_lconst (v := (0 : Int64)) K dX10_without_41 (by decide) ?_
        refine r_lif_ge (tgt := 52) K dX10_without_42 dX10_without_43 (by decide) (fun c11 => ?_) (fun c11 => ?_)
        · replace hf := ite_t hf c11
          refine r_lload K 0 dX10_without_52 rfl ?_
          refine r_lload_n K 1 dX10_without_54 rfl ?_
          refine r_lsub K dX10_without_55 ?_
          exact r_lret K dX10_without_56 hf (Nat.le_of_ble_eq_true rfl) (Nat.le_of_ble_eq_true rfl)
        · replace hf := ite_f hf c11
          refine r_ldc2 K dX10_without_46 q_1060 ?_
          refine r_goto (tgt := 56) K dX10_without_49 (by decide) ?_
          exact r_lret K dX10_without_56 hf (Nat.le_of_ble_eq_true rfl) (Nat.le_of_ble_eq_true rfl)
    · replace hf := ite_t hf c13
      refine r_ldc2 K dX10_without_15 q_1060 ?_
      exact r_lret K dX10_without_18 hf (Nat.le_of_ble_eq_true rfl) (Nat.le_of_ble_eq_true rfl)
theorem ceX10_paradoxOf : CE yX10_paradoxOf 2 := ⟨by decide, by decide, by decide +kernel⟩
abbrev rmX10_paradoxOf : Room := { frames := 11, cells := 0, slots := 0, locals := 275 }
def fX10_paradoxOf (a0 : Nat) (x1 : Int32) (x2 : Int32) (h : AH) : Option (Int32 × AH) :=
  ob2 (fX10_totalBy a0 x1 h) fun r1 g2 =>
  ob2 (fX10_totalWithout a0 x1 x2 g2) fun r4 g5 =>
  if r1 = (-3 : Int64) then
    some ((-3 : Int32), g5)
  else
    if r4 = (-3 : Int64) then
      some ((-3 : Int32), g5)
    else
      if r1 < (0 : Int64) then
        some ((-6 : Int32), g5)
      else
        if (0 : Int64) ≤ r4 then
          if r1 ≤ r4 then
            some ((0 : Int32), g5)
          else
            some ((1 : Int32), g5)
        else
          some ((-6 : Int32), g5)
set_option maxHeartbeats 4000000 in
set_option maxRecDepth 100000 in
theorem mX10_paradoxOf (l : Launch) {G : GG} {b0 : Nat} {h : AH} {a0 : Nat} {x1 : Int32} {x2 : Int32} {rr : Int32} {hh : AH} (ht : isO h a0 10) (hf : fX10_paradoxOf a0 x1 x2 h = some (rr, hh)) : MM l yX10_paradoxOf cX10_paradoxOf 7 (some .int) rmX10_paradoxOf G b0 h [.ref a0, .int x1, .int x2] (some (.int rr)) hh := by
  refine MM.of (own := RX10) (lv0 := [(0, .ref a0), (1, .int x1), (2, .int x2)]) (by decide) rfl (Nat.le_of_ble_eq_true rfl) rfl ?_
  intro p e s m args below meth c K hnm
  unfold fX10_paradoxOf at hf
  refine r_aload_n K 0 dX10_paradoxOf_0 rfl ?_
  refine r_iload_n K 1 dX10_paradoxOf_1 rfl ?_
  obtain ⟨r1, g2, e3, hf⟩ := ob2_s hf
  refine r_callV (As := [.int x1]) (rest := []) (st1 := [.long r1]) (cells1 := 0) (slots1 := 0) (b := a0) (ci := 10) K (fun z => mX10_totalBy l z e3) dX10_paradoxOf_2 rfl (fun z => z _ _ ht) rfl ceX10_totalBy q_1161 q_1163 q_49 q_85 q_1164 ⟨Nat.le_of_ble_eq_true rfl, Nat.le_of_ble_eq_true rfl⟩ (Nat.le_of_ble_eq_true rfl) ⟨Nat.le_of_ble_eq_true rfl, Nat.le_of_ble_eq_true rfl⟩ ?_ rfl rfl rfl rfl
  refine r_lstore_n (lv1 := [(3, .long r1), (0, .ref a0), (1, .int x1), (2, .int x2)]) K dX10_paradoxOf_5 (by decide) rfl ?_
  refine r_aload_n K 1 dX10_paradoxOf_6 rfl ?_
  refine r_iload_n K 2 dX10_paradoxOf_7 rfl ?_
  refine r_iload_n K 3 dX10_paradoxOf_8 rfl ?_
  obtain ⟨r4, g5, e6, hf⟩ := ob2_s hf
  refine r_callV (As := [.int x1, .int x2]) (rest := []) (st1 := [.long r4]) (cells1 := 0) (slots1 := 0) (b := a0) (ci := 10) K (fun z => mX10_totalWithout l z e6) dX10_paradoxOf_9 rfl (fun z => z _ _ ht) rfl ceX10_totalWithout q_1308 q_1310 q_69 q_85 q_1311 ⟨Nat.le_of_ble_eq_true rfl, Nat.le_of_ble_eq_true rfl⟩ (Nat.le_of_ble_eq_true rfl) ⟨Nat.le_of_ble_eq_true rfl, Nat.le_of_ble_eq_true rfl⟩ ?_ rfl rfl rfl rfl
  refine r_lstore (lv1 := [(5, .long r4), (3, .long r1), (0, .ref a0), (1, .int x1), (2, .int x2)]) K dX10_paradoxOf_12 (by decide) rfl ?_
  refine r_lload_n K 1 dX10_paradoxOf_14 rfl ?_
  refine r_ldc2 K dX10_paradoxOf_15 q_1215 ?_
  refine r_lif_eq (tgt := 31) K dX10_paradoxOf_18 dX10_paradoxOf_19 (by decide) (fun c11 => ?_) (fun c11 => ?_)
  · replace hf := ite_t hf c11
    refine r_bipush (v := (-3 : Int32)) K dX10_paradoxOf_31 (by decide) ?_
    exact r_iret K dX10_paradoxOf_33 hf (Nat.le_of_ble_eq_true rfl) (Nat.le_of_ble_eq_true rfl)
  · replace hf := ite_f hf c11
    refine r_lload K 0 dX10_paradoxOf_22 rfl ?_
    refine r_ldc2 K dX10_paradoxOf_24 q_1215 ?_
    refine r_lif_ne (tgt := 34) K dX10_paradoxOf_27 dX10_paradoxOf_28 (by decide) (fun c10 => ?_) (fun c10 => ?_)
    · replace hf := ite_f hf c10
      refine r_lload_n K 1 dX10_paradoxOf_34 rfl ?_
      refine r_lconst (v := (0 : Int64)) K dX10_paradoxOf_35 (by decide) ?_
      refine r_lif_lt (tgt := 47) K dX10_paradoxOf_36 dX10_paradoxOf_37 (by decide) (fun c9 => ?_) (fun c9 => ?_)
      · replace hf := ite_t hf c9
        refine r_bipush (v := (-6 : Int32)) K dX10_paradoxOf_47 (by decide) ?_
        refine r_goto (tgt := 64) K dX10_paradoxOf_49 (by decide) ?_
        exact r_iret K dX10_paradoxOf_64 hf (Nat.le_of_ble_eq_true rfl) (Nat.le_of_ble_eq_true rfl)
      · replace hf := ite_f hf c9
        refine r_lload K 0 dX10_paradoxOf_40 rfl ?_
        refine r_lconst (v := (0 : Int64)) K dX10_paradoxOf_42 (by decide) ?_
        refine r_lif_ge (tgt := 52) K dX10_paradoxOf_43 dX10_paradoxOf_44 (by decide) (fun c8 => ?_) (fun c8 => ?_)
        · replace hf := ite_t hf c8
          refine r_lload K 0 dX10_paradoxOf_52 rfl ?_
          refine r_lload_n K 1 dX10_paradoxOf_54 rfl ?_
          refine r_lif_ge (tgt := 63) K dX10_paradoxOf_55 dX10_paradoxOf_56 (by decide) (fun c7 => ?_) (fun c7 => ?_)
          · replace hf := ite_t hf c7
            refine r_iconst (v := (0 : Int32)) K dX10_paradoxOf_63 (by decide) ?_
            exact r_iret K dX10_paradoxOf_64 hf (Nat.le_of_ble_eq_true rfl) (Nat.le_of_ble_eq_true rfl)
          · replace hf := ite_f hf c7
            refine r_iconst (v := (1 : Int32)) K dX10_paradoxOf_59 (by decide) ?_
            refine r_goto (tgt := 64) K dX10_paradoxOf_60 (by decide) ?_
            exact r_iret K dX10_paradoxOf_64 hf (Nat.le_of_ble_eq_true rfl) (Nat.le_of_ble_eq_true rfl)
        · replace hf := ite_f hf c8
          refine r_bipush (v := (-6 : Int32)) K dX10_paradoxOf_47 (by decide) ?_
          refine r_goto (tgt := 64) K dX10_paradoxOf_49 (by decide) ?_
          exact r_iret K dX10_paradoxOf_64 hf (Nat.le_of_ble_eq_true rfl) (Nat.le_of_ble_eq_true rfl)
    · replace hf := ite_t hf c10
      refine r_bipush (v := (-3 : Int32)) K dX10_paradoxOf_31 (by decide) ?_
      exact r_iret K dX10_paradoxOf_33 hf (Nat.le_of_ble_eq_true rfl) (Nat.le_of_ble_eq_true rfl)
theorem ceX10_paradox : CE yX10_paradox 2 := ⟨by decide, by decide, by decide +kernel⟩
abbrev rmX10_paradox : Room := { frames := 12, cells := 0, slots := 0, locals := 301 }
def fX10_paradox (a0 : Nat) (x1 : Int32) (x2 : Int32) (h : AH) : Option (Int32 × AH) :=
  ob1 (fX10_isMode x1) fun r1 =>
  if r1 = (0 : Int32) then
    some ((-1 : Int32), h)
  else
    ob1 (fX10_isRoad a0 x2 h) fun r3 =>
    if r3 = (0 : Int32) then
      some ((-1 : Int32), h)
    else
      ob2 (fX10_paradoxOf a0 x1 x2 h) fun r5 g6 =>
      some (r5, g6)
set_option maxHeartbeats 4000000 in
set_option maxRecDepth 100000 in
theorem mX10_paradox (l : Launch) {G : GG} {b0 : Nat} {h : AH} {a0 : Nat} {x1 : Int32} {x2 : Int32} {rr : Int32} {hh : AH} (ht : isO h a0 10) (hf : fX10_paradox a0 x1 x2 h = some (rr, hh)) : MM l yX10_paradox cX10_paradox 3 (some .int) rmX10_paradox G b0 h [.ref a0, .int x1, .int x2] (some (.int rr)) hh := by
  refine MM.of (own := RX10) (lv0 := [(0, .ref a0), (1, .int x1), (2, .int x2)]) (by decide) rfl (Nat.le_of_ble_eq_true rfl) rfl ?_
  intro p e s m args below meth c K hnm
  unfold fX10_paradox at hf
  refine r_iload_n K 1 dX10_paradox_0 rfl ?_
  obtain ⟨r1, e2, hf⟩ := ob1_s hf
  refine r_callS (As := [.int x1]) (rest := []) (st1 := [.int r1]) (cells1 := 0) (slots1 := 0) K (mX10_isMode l e2) dX10_paradox_1 ceX10_isMode q_1158 q_1159 q_85 q_1160 ⟨Nat.le_of_ble_eq_true rfl, Nat.le_of_ble_eq_true rfl⟩ (Nat.le_of_ble_eq_true rfl) ⟨Nat.le_of_ble_eq_true rfl, Nat.le_of_ble_eq_true rfl⟩ ?_ rfl rfl rfl rfl
  refine r_if_eq (tgt := 24) K dX10_paradox_4 (by decide) (fun c9 => ?_) (fun c9 => ?_)
  · replace hf := ite_t hf c9
    refine r_iconst (v := (-1 : Int32)) K dX10_paradox_24 (by decide) ?_
    exact r_iret K dX10_paradox_25 hf (Nat.le_of_ble_eq_true rfl) (Nat.le_of_ble_eq_true rfl)
  · replace hf := ite_f hf c9
    refine r_aload_n K 0 dX10_paradox_7 rfl ?_
    refine r_iload_n K 2 dX10_paradox_8 rfl ?_
    obtain ⟨r3, e4, hf⟩ := ob1_s hf
    refine r_callV (As := [.int x2]) (rest := []) (st1 := [.int r3]) (cells1 := 0) (slots1 := 0) (b := a0) (ci := 10) K (fun z => mX10_isRoad l z e4) dX10_paradox_9 rfl (fun z => z _ _ ht) rfl ceX10_isRoad q_1036 q_1038 q_34 q_85 q_1039 ⟨Nat.le_of_ble_eq_true rfl, Nat.le_of_ble_eq_true rfl⟩ (Nat.le_of_ble_eq_true rfl) ⟨Nat.le_of_ble_eq_true rfl, Nat.le_of_ble_eq_true rfl⟩ ?_ rfl rfl rfl rfl
    refine r_if_eq (tgt := 24) K dX10_paradox_12 (by decide) (fun c8 => ?_) (fun c8 => ?_)
    · replace hf := ite_t hf c8
      refine r_iconst (v := (-1 : Int32)) K dX10_paradox_24 (by decide) ?_
      exact r_iret K dX10_paradox_25 hf (Nat.le_of_ble_eq_true rfl) (Nat.le_of_ble_eq_true rfl)
    · replace hf := ite_f hf c8
      refine r_aload_n K 0 dX10_paradox_15 rfl ?_
      refine r_iload_n K 1 dX10_paradox_16 rfl ?_
      refine r_iload_n K 2 dX10_paradox_17 rfl ?_
      obtain ⟨r5, g6, e7, hf⟩ := ob2_s hf
      refine r_callV (As := [.int x1, .int x2]) (rest := []) (st1 := [.int r5]) (cells1 := 0) (slots1 := 0) (b := a0) (ci := 10) K (fun z => mX10_paradoxOf l z e7) dX10_paradox_18 rfl (fun z => z _ _ ht) rfl ceX10_paradoxOf q_1319 q_1321 q_70 q_85 q_1322 ⟨Nat.le_of_ble_eq_true rfl, Nat.le_of_ble_eq_true rfl⟩ (Nat.le_of_ble_eq_true rfl) ⟨Nat.le_of_ble_eq_true rfl, Nat.le_of_ble_eq_true rfl⟩ ?_ rfl rfl rfl rfl
      refine r_goto (tgt := 25) K dX10_paradox_21 (by decide) ?_
      exact r_iret K dX10_paradox_25 hf (Nat.le_of_ble_eq_true rfl) (Nat.le_of_ble_eq_true rfl)
theorem ceX10_paradoxes : CE yX10_paradoxes 1 := ⟨by decide, by decide, by decide +kernel⟩
abbrev rmX10_paradoxes : Room := { frames := 12, cells := 0, slots := 0, locals := 301 }
def fX10_paradoxes_L24 (a0 : Nat) (x1 : Int32) (k : Int32 → AH → Option (Int32 × AH)) : Nat → Int32 → Int32 → AH → Option (Int32 × AH)
  | 0, _, _, _ => none
  | n + 1, x2, x3, h =>
    ob1 (fX10_roadMany a0 h) fun r6 =>
    if r6 ≤ x3 then
      k x2 h
    else
      ob2 (fX10_paradoxOf a0 x1 x3 h) fun r8 g9 =>
      if r8 = (1 : Int32) then
        bnd (x2 ||| ((1 : Int32) <<< (x3 &&& 31))) fun y13 =>
        bnd (x3 + (1 : Int32)) fun y14 =>
        fX10_paradoxes_L24 a0 x1 k n y13 y14 g9
      else
        bnd (x2 ||| (0 : Int32)) fun y11 =>
        bnd (x3 + (1 : Int32)) fun y12 =>
        fX10_paradoxes_L24 a0 x1 k n y11 y12 g9
def fX10_paradoxes (a0 : Nat) (x1 : Int32) (h : AH) : Option (Int32 × AH) :=
  ob1 (fX10_isMode x1) fun r1 =>
  if r1 = (0 : Int32) then
    some ((-1 : Int32), h)
  else
    ob2 (fX10_steady a0 x1 h) fun r3 g4 =>
    if r3 = (0 : Int32) then
      some ((-3 : Int32), g4)
    else
      fX10_paradoxes_L24 a0 x1 (fun (y17 : Int32) (g18 : AH) =>
        some (y17, g18)
      ) lf (0 : Int32) (0 : Int32) g4
set_option maxHeartbeats 4000000 in
set_option maxRecDepth 100000 in
theorem wX10_paradoxes_L24 {p : Program} {l : Launch} {e : Env} {s : State} {m : MethodId} {args : Array Value} {below : List Frame} {meth : Method} {c : Code} {G : GG} {b0 : Nat} {h0 : AH} {a0 : Nat} {x1 : Int32} {rr : Int32} {hh : AH} (K : CX p s m args meth c cX10_paradoxes 4 RX10 (some .int) G b0) (ht : isO h0 a0 10) (k : Int32 → AH → Option (Int32 × AH)) (hk : ∀ (x2 : Int32) (h : AH), k x2 h = some (rr, hh) → WA p l e rmX10_paradoxes s m args below meth c (MQ below (QG G b0 h0 (some (.int rr)) hh) args s (rmX10_paradoxes).cells (rmX10_paradoxes).slots (AB b0)) G b0 4 h0 0 0 h 58 [(2, .int x2)] []) : ∀ (n : Nat) (x2 : Int32) (x3 : Int32) (h : AH), fX10_paradoxes_L24 a0 x1 k n x2 x3 h = some (rr, hh) → WA p l e rmX10_paradoxes s m args below meth c (MQ below (QG G b0 h0 (some (.int rr)) hh) args s (rmX10_paradoxes).cells (rmX10_paradoxes).slots (AB b0)) G b0 4 h0 0 0 h 24 [(0, .ref a0), (1, .int x1), (2, .int x2), (3, .int x3)] [] := by
  intro n
  induction n with
  | zero =>
    intro x2 x3 h hf
    rw [fX10_paradoxes_L24] at hf
    cases hf
  | succ n ih =>
    intro x2 x3 h hf
    rw [fX10_paradoxes_L24] at hf
    refine r_iload_n K 3 dX10_paradoxes_24 rfl ?_
    refine r_aload_n K 0 dX10_paradoxes_25 rfl ?_
    obtain ⟨r6, e7, hf⟩ := ob1_s hf
    refine r_callV (As := []) (rest := [.int x3]) (st1 := [.int r6, .int x3]) (cells1 := 0) (slots1 := 0) (b := a0) (ci := 10) K (fun z => mX10_roadMany l z e7) dX10_paradoxes_26 rfl (fun z => z _ _ ht) rfl ceX10_roadMany q_1028 q_1030 q_33 q_85 q_1031 ⟨Nat.le_of_ble_eq_true rfl, Nat.le_of_ble_eq_true rfl⟩ (Nat.le_of_ble_eq_true rfl) ⟨Nat.le_of_ble_eq_true rfl, Nat.le_of_ble_eq_true rfl⟩ ?_ rfl rfl rfl rfl
    refine r_icmp_ge (tgt := 58) K dX10_paradoxes_29 (by decide) (fun c16 => ?_) (fun c16 => ?_)
    · replace hf := ite_t hf c16
      refine r_lv [2] rfl ?_
      exact hk x2 h hf
    · replace hf := ite_f hf c16
      refine r_iload_n K 2 dX10_paradoxes_32 rfl ?_
      refine r_aload_n K 0 dX10_paradoxes_33 rfl ?_
      refine r_iload_n K 1 dX10_paradoxes_34 rfl ?_
      refine r_iload_n K 3 dX10_paradoxes_35 rfl ?_
      obtain ⟨r8, g9, e10, hf⟩ := ob2_s hf
      refine r_callV (As := [.int x1, .int x3]) (rest := [.int x2]) (st1 := [.int r8, .int x2]) (cells1 := 0) (slots1 := 0) (b := a0) (ci := 10) K (fun z => mX10_paradoxOf l z e10) dX10_paradoxes_36 rfl (fun z => z _ _ ht) rfl ceX10_paradoxOf q_1319 q_1321 q_70 q_85 q_1322 ⟨Nat.le_of_ble_eq_true rfl, Nat.le_of_ble_eq_true rfl⟩ (Nat.le_of_ble_eq_true rfl) ⟨Nat.le_of_ble_eq_true rfl, Nat.le_of_ble_eq_true rfl⟩ ?_ rfl rfl rfl rfl
      refine r_iconst (v := (1 : Int32)) K dX10_paradoxes_39 (by decide) ?_
      refine r_icmp_ne (tgt := 49) K dX10_paradoxes_40 (by decide) (fun c15 => ?_) (fun c15 => ?_)
      · replace hf := ite_f hf c15
        refine r_iconst (v := (0 : Int32)) K dX10_paradoxes_49 (by decide) ?_
        refine r_ior K dX10_paradoxes_50 ?_
        obtain ⟨y11, ey11, hf⟩ := bnd_g hf
        refine r_nmi ey11 ?_
        refine r_istore_n (lv1 := [(2, .int y11), (0, .ref a0), (1, .int x1), (3, .int x3)]) K dX10_paradoxes_51 (by decide) rfl ?_
        obtain ⟨y12, ey12, hf⟩ := bnd_g hf
        refine r_iinc (lv1 := [(3, .int y12), (2, .int y11), (0, .ref a0), (1, .int x1)]) K 3 dX10_paradoxes_52 rfl (by rw [ey12]; rfl) (by decide) rfl ?_
        refine r_goto (tgt := 24) K dX10_paradoxes_55 (by decide) ?_
        refine r_lv [2, 3, 1, 0] rfl ?_
        exact ih y11 y12 g9 hf
      · replace hf := ite_t hf c15
        refine r_iconst (v := (1 : Int32)) K dX10_paradoxes_43 (by decide) ?_
        refine r_iload_n K 3 dX10_paradoxes_44 rfl ?_
        refine r_ishl K dX10_paradoxes_45 ?_
        refine r_goto (tgt := 50) K dX10_paradoxes_46 (by decide) ?_
        refine r_ior K dX10_paradoxes_50 ?_
        obtain ⟨y13, ey13, hf⟩ := bnd_g hf
        refine r_nmi ey13 ?_
        refine r_istore_n (lv1 := [(2, .int y13), (0, .ref a0), (1, .int x1), (3, .int x3)]) K dX10_paradoxes_51 (by decide) rfl ?_
        obtain ⟨y14, ey14, hf⟩ := bnd_g hf
        refine r_iinc (lv1 := [(3, .int y14), (2, .int y13), (0, .ref a0), (1, .int x1)]) K 3 dX10_paradoxes_52 rfl (by rw [ey14]; rfl) (by decide) rfl ?_
        refine r_goto (tgt := 24) K dX10_paradoxes_55 (by decide) ?_
        refine r_lv [2, 3, 1, 0] rfl ?_
        exact ih y13 y14 g9 hf
set_option maxHeartbeats 4000000 in
set_option maxRecDepth 100000 in
theorem mX10_paradoxes (l : Launch) {G : GG} {b0 : Nat} {h : AH} {a0 : Nat} {x1 : Int32} {rr : Int32} {hh : AH} (ht : isO h a0 10) (hf : fX10_paradoxes a0 x1 h = some (rr, hh)) : MM l yX10_paradoxes cX10_paradoxes 4 (some .int) rmX10_paradoxes G b0 h [.ref a0, .int x1] (some (.int rr)) hh := by
  refine MM.of (own := RX10) (lv0 := [(0, .ref a0), (1, .int x1)]) (by decide) rfl (Nat.le_of_ble_eq_true rfl) rfl ?_
  intro p e s m args below meth c K hnm
  unfold fX10_paradoxes at hf
  refine r_iload_n K 1 dX10_paradoxes_0 rfl ?_
  obtain ⟨r1, e2, hf⟩ := ob1_s hf
  refine r_callS (As := [.int x1]) (rest := []) (st1 := [.int r1]) (cells1 := 0) (slots1 := 0) K (mX10_isMode l e2) dX10_paradoxes_1 ceX10_isMode q_1158 q_1159 q_85 q_1160 ⟨Nat.le_of_ble_eq_true rfl, Nat.le_of_ble_eq_true rfl⟩ (Nat.le_of_ble_eq_true rfl) ⟨Nat.le_of_ble_eq_true rfl, Nat.le_of_ble_eq_true rfl⟩ ?_ rfl rfl rfl rfl
  refine r_if_ne (tgt := 9) K dX10_paradoxes_4 (by decide) (fun c20 => ?_) (fun c20 => ?_)
  · replace hf := ite_f hf c20
    refine r_aload_n K 0 dX10_paradoxes_9 rfl ?_
    refine r_iload_n K 1 dX10_paradoxes_10 rfl ?_
    obtain ⟨r3, g4, e5, hf⟩ := ob2_s hf
    refine r_callV (As := [.int x1]) (rest := []) (st1 := [.int r3]) (cells1 := 0) (slots1 := 0) (b := a0) (ci := 10) K (fun z => mX10_steady l z e5) dX10_paradoxes_11 rfl (fun z => z _ _ ht) rfl ceX10_steady q_1165 q_1167 q_50 q_85 q_1168 ⟨Nat.le_of_ble_eq_true rfl, Nat.le_of_ble_eq_true rfl⟩ (Nat.le_of_ble_eq_true rfl) ⟨Nat.le_of_ble_eq_true rfl, Nat.le_of_ble_eq_true rfl⟩ ?_ rfl rfl rfl rfl
    refine r_if_ne (tgt := 20) K dX10_paradoxes_14 (by decide) (fun c19 => ?_) (fun c19 => ?_)
    · replace hf := ite_f hf c19
      refine r_iconst (v := (0 : Int32)) K dX10_paradoxes_20 (by decide) ?_
      refine r_istore_n (lv1 := [(2, .int (0 : Int32)), (0, .ref a0), (1, .int x1)]) K dX10_paradoxes_21 (by decide) rfl ?_
      refine r_iconst (v := (0 : Int32)) K dX10_paradoxes_22 (by decide) ?_
      refine r_istore_n (lv1 := [(3, .int (0 : Int32)), (2, .int (0 : Int32)), (0, .ref a0), (1, .int x1)]) K dX10_paradoxes_23 (by decide) rfl ?_
      refine r_lv [2, 3, 1, 0] rfl ?_
      refine wX10_paradoxes_L24 K ht _ (fun y17 g18 hf => ?_) lf (0 : Int32) (0 : Int32) g4 hf
      refine r_iload_n K 0 dX10_paradoxes_58 rfl ?_
      exact r_iret K dX10_paradoxes_59 hf (Nat.le_of_ble_eq_true rfl) (Nat.le_of_ble_eq_true rfl)
    · replace hf := ite_t hf c19
      refine r_bipush (v := (-3 : Int32)) K dX10_paradoxes_17 (by decide) ?_
      exact r_iret K dX10_paradoxes_19 hf (Nat.le_of_ble_eq_true rfl) (Nat.le_of_ble_eq_true rfl)
  · replace hf := ite_t hf c20
    refine r_iconst (v := (-1 : Int32)) K dX10_paradoxes_7 (by decide) ?_
    exact r_iret K dX10_paradoxes_8 hf (Nat.le_of_ble_eq_true rfl) (Nat.le_of_ble_eq_true rfl)
theorem ceX10_adding : CE yX10_adding 5 := ⟨by decide, by decide, by decide +kernel⟩
abbrev rmX10_adding : Room := { frames := 10, cells := 0, slots := 0, locals := 251 }
def fX10_adding (a0 : Nat) (x1 : Int32) (x2 : Int32) (x3 : Int32) (x4 : Int64) (x6 : Int64) (h : AH) : Option (Int64 × AH) :=
  ob1 (fX10_isMode x1) fun r1 =>
  if r1 = (0 : Int32) then
    some ((-9223372036854775808 : Int64), h)
  else
    ob1 (fX10_areTowns a0 x2 x3 h) fun r3 =>
    if r3 = (0 : Int32) then
      some ((-9223372036854775808 : Int64), h)
    else
      ob1 (fX10_in x4 (0 : Int64) (100000000000000000 : Int64)) fun r5 =>
      if r5 = (0 : Int32) then
        some ((-9223372036854775808 : Int64), h)
      else
        ob1 (fX10_in x6 (0 : Int64) (100000000000000 : Int64)) fun r7 =>
        if r7 = (0 : Int32) then
          some ((-9223372036854775808 : Int64), h)
        else
          ob2 (fX10_totalBy a0 x1 h) fun r9 g10 =>
          ob1 (gR g10 a0 10 0) fun b12 =>
          ob1 (gR g10 a0 10 2) fun b14 =>
          ob1 (fX10_copies b12 b14 g10) fun g16 =>
          ob1 (fX10_puts a0 x2 x3 (1 : Int32) x4 x6 (0 : Int64) (0 : Int32) g16) fun g18 =>
          ob2 (fX10_totalBy a0 x1 g18) fun r20 g21 =>
          ob1 (gR g21 a0 10 2) fun b23 =>
          ob1 (gR g21 a0 10 0) fun b25 =>
          ob1 (fX10_copies b23 b25 g21) fun g27 =>
          if r9 < (0 : Int64) then
            some ((-9223372036854775808 : Int64), g27)
          else
            if (0 : Int64) ≤ r20 then
              some (r20 - r9, g27)
            else
              some ((-9223372036854775808 : Int64), g27)
set_option maxHeartbeats 4000000 in
set_option maxRecDepth 100000 in
theorem mX10_adding (l : Launch) {G : GG} {b0 : Nat} {h : AH} {a0 : Nat} {x1 : Int32} {x2 : Int32} {x3 : Int32} {x4 : Int64} {x6 : Int64} {rr : Int64} {hh : AH} (ht : isO h a0 10) (hf : fX10_adding a0 x1 x2 x3 x4 x6 h = some (rr, hh)) : MM l yX10_adding cX10_adding 12 (some .long) rmX10_adding G b0 h [.ref a0, .int x1, .int x2, .int x3, .long x4, .long x6] (some (.long rr)) hh := by
  refine MM.of (own := RX10) (lv0 := [(0, .ref a0), (1, .int x1), (2, .int x2), (3, .int x3), (4, .long x4), (6, .long x6)]) (by decide) rfl (Nat.le_of_ble_eq_true rfl) rfl ?_
  intro p e s m args below meth c K hnm
  unfold fX10_adding at hf
  refine r_iload_n K 1 dX10_adding_0 rfl ?_
  obtain ⟨r1, e2, hf⟩ := ob1_s hf
  refine r_callS (As := [.int x1]) (rest := []) (st1 := [.int r1]) (cells1 := 0) (slots1 := 0) K (mX10_isMode l e2) dX10_adding_1 ceX10_isMode q_1158 q_1159 q_85 q_1160 ⟨Nat.le_of_ble_eq_true rfl, Nat.le_of_ble_eq_true rfl⟩ (Nat.le_of_ble_eq_true rfl) ⟨Nat.le_of_ble_eq_true rfl, Nat.le_of_ble_eq_true rfl⟩ ?_ rfl rfl rfl rfl
  refine r_if_eq (tgt := 40) K dX10_adding_4 (by decide) (fun c34 => ?_) (fun c34 => ?_)
  · replace hf := ite_t hf c34
    refine r_ldc2 K dX10_adding_40 q_1060 ?_
    exact r_lret K dX10_adding_43 hf (Nat.le_of_ble_eq_true rfl) (Nat.le_of_ble_eq_true rfl)
  · replace hf := ite_f hf c34
    refine r_aload_n K 0 dX10_adding_7 rfl ?_
    refine r_iload_n K 2 dX10_adding_8 rfl ?_
    refine r_iload_n K 3 dX10_adding_9 rfl ?_
    obtain ⟨r3, e4, hf⟩ := ob1_s hf
    refine r_callV (As := [.int x2, .int x3]) (rest := []) (st1 := [.int r3]) (cells1 := 0) (slots1 := 0) (b := a0) (ci := 10) K (fun z => mX10_areTowns l z e4) dX10_adding_10 rfl (fun z => z _ _ ht) rfl ceX10_areTowns q_1012 q_1014 q_30 q_85 q_1015 ⟨Nat.le_of_ble_eq_true rfl, Nat.le_of_ble_eq_true rfl⟩ (Nat.le_of_ble_eq_true rfl) ⟨Nat.le_of_ble_eq_true rfl, Nat.le_of_ble_eq_true rfl⟩ ?_ rfl rfl rfl rfl
    refine r_if_eq (tgt := 40) K dX10_adding_13 (by decide) (fun c33 => ?_) (fun c33 => ?_)
    · replace hf := ite_t hf c33
      refine r_ldc2 K dX10_adding_40 q_1060 ?_
      exact r_lret K dX10_adding_43 hf (Nat.le_of_ble_eq_true rfl) (Nat.le_of_ble_eq_true rfl)
    · replace hf := ite_f hf c33
      refine r_lload K 4 dX10_adding_16 rfl ?_
      refine r_lconst (v := (0 : Int64)) K dX10_adding_18 (by decide) ?_
      refine r_ldc2 K dX10_adding_19 q_1020 ?_
      obtain ⟨r5, e6, hf⟩ := ob1_s hf
      refine r_callS (As := [.long x4, .long (0 : Int64), .long (100000000000000000 : Int64)]) (rest := []) (st1 := [.int r5]) (cells1 := 0) (slots1 := 0) K (mX10_in l e6) dX10_adding_22 ceX10_in q_1005 q_1006 q_85 q_1007 ⟨Nat.le_of_ble_eq_true rfl, Nat.le_of_ble_eq_true rfl⟩ (Nat.le_of_ble_eq_true rfl) ⟨Nat.le_of_ble_eq_true rfl, Nat.le_of_ble_eq_true rfl⟩ ?_ rfl rfl rfl rfl
      refine r_if_eq (tgt := 40) K dX10_adding_25 (by decide) (fun c32 => ?_) (fun c32 => ?_)
      · replace hf := ite_t hf c32
        refine r_ldc2 K dX10_adding_40 q_1060 ?_
        exact r_lret K dX10_adding_43 hf (Nat.le_of_ble_eq_true rfl) (Nat.le_of_ble_eq_true rfl)
      · replace hf := ite_f hf c32
        refine r_lload K 5 dX10_adding_28 rfl ?_
        refine r_lconst (v := (0 : Int64)) K dX10_adding_30 (by decide) ?_
        refine r_ldc2 K dX10_adding_31 q_1021 ?_
        obtain ⟨r7, e8, hf⟩ := ob1_s hf
        refine r_callS (As := [.long x6, .long (0 : Int64), .long (100000000000000 : Int64)]) (rest := []) (st1 := [.int r7]) (cells1 := 0) (slots1 := 0) K (mX10_in l e8) dX10_adding_34 ceX10_in q_1005 q_1006 q_85 q_1007 ⟨Nat.le_of_ble_eq_true rfl, Nat.le_of_ble_eq_true rfl⟩ (Nat.le_of_ble_eq_true rfl) ⟨Nat.le_of_ble_eq_true rfl, Nat.le_of_ble_eq_true rfl⟩ ?_ rfl rfl rfl rfl
        refine r_if_ne (tgt := 44) K dX10_adding_37 (by decide) (fun c31 => ?_) (fun c31 => ?_)
        · replace hf := ite_f hf c31
          refine r_aload_n K 0 dX10_adding_44 rfl ?_
          refine r_iload_n K 1 dX10_adding_45 rfl ?_
          obtain ⟨r9, g10, e11, hf⟩ := ob2_s hf
          refine r_callV (As := [.int x1]) (rest := []) (st1 := [.long r9]) (cells1 := 0) (slots1 := 0) (b := a0) (ci := 10) K (fun z => mX10_totalBy l z e11) dX10_adding_46 rfl (fun z => z _ _ ht) rfl ceX10_totalBy q_1161 q_1163 q_49 q_85 q_1164 ⟨Nat.le_of_ble_eq_true rfl, Nat.le_of_ble_eq_true rfl⟩ (Nat.le_of_ble_eq_true rfl) ⟨Nat.le_of_ble_eq_true rfl, Nat.le_of_ble_eq_true rfl⟩ ?_ rfl rfl rfl rfl
          refine r_lstore (lv1 := [(8, .long r9), (0, .ref a0), (1, .int x1), (2, .int x2), (3, .int x3), (4, .long x4), (6, .long x6)]) K dX10_adding_49 (by decide) rfl ?_
          refine r_aload_n K 1 dX10_adding_51 rfl ?_
          obtain ⟨b12, e13, hf⟩ := ob1_s hf
          refine r_getR (ci := 10) (k := 0) K dX10_adding_52 inX10 rfl (by decide) rfl q_906 e13 ?_
          refine r_aload_n K 1 dX10_adding_55 rfl ?_
          obtain ⟨b14, e15, hf⟩ := ob1_s hf
          refine r_getR (ci := 10) (k := 2) K dX10_adding_56 inX10 rfl (by decide) rfl q_908 e15 ?_
          obtain ⟨g16, e17, hf⟩ := ob1_s hf
          refine r_callS (As := [.ref b12, .ref b14]) (rest := []) (st1 := []) (cells1 := 0) (slots1 := 0) K (mX10_copies l e17) dX10_adding_59 ceX10_copies q_1312 q_1313 q_85 q_1314 ⟨Nat.le_of_ble_eq_true rfl, Nat.le_of_ble_eq_true rfl⟩ (Nat.le_of_ble_eq_true rfl) ⟨Nat.le_of_ble_eq_true rfl, Nat.le_of_ble_eq_true rfl⟩ ?_ rfl rfl rfl rfl
          refine r_aload_n K 1 dX10_adding_62 rfl ?_
          refine r_iload_n K 3 dX10_adding_63 rfl ?_
          refine r_iload_n K 4 dX10_adding_64 rfl ?_
          refine r_iconst (v := (1 : Int32)) K dX10_adding_65 (by decide) ?_
          refine r_lload K 5 dX10_adding_66 rfl ?_
          refine r_lload K 6 dX10_adding_68 rfl ?_
          refine r_lconst (v := (0 : Int64)) K dX10_adding_70 (by decide) ?_
          refine r_iconst (v := (0 : Int32)) K dX10_adding_71 (by decide) ?_
          obtain ⟨g18, e19, hf⟩ := ob1_s hf
          refine r_callV (As := [.int x2, .int x3, .int (1 : Int32), .long x4, .long x6, .long (0 : Int64), .int (0 : Int32)]) (rest := []) (st1 := []) (cells1 := 0) (slots1 := 0) (b := a0) (ci := 10) K (fun z => mX10_puts l z e19) dX10_adding_72 rfl (fun z => z _ _ ht) rfl ceX10_puts q_1024 q_1026 q_32 q_85 q_1027 ⟨Nat.le_of_ble_eq_true rfl, Nat.le_of_ble_eq_true rfl⟩ (Nat.le_of_ble_eq_true rfl) ⟨Nat.le_of_ble_eq_true rfl, Nat.le_of_ble_eq_true rfl⟩ ?_ rfl rfl rfl rfl
          refine r_aload_n K 1 dX10_adding_75 rfl ?_
          refine r_iload_n K 2 dX10_adding_76 rfl ?_
          obtain ⟨r20, g21, e22, hf⟩ := ob2_s hf
          refine r_callV (As := [.int x1]) (rest := []) (st1 := [.long r20]) (cells1 := 0) (slots1 := 0) (b := a0) (ci := 10) K (fun z => mX10_totalBy l z e22) dX10_adding_77 rfl (fun z => z _ _ ht) rfl ceX10_totalBy q_1161 q_1163 q_49 q_85 q_1164 ⟨Nat.le_of_ble_eq_true rfl, Nat.le_of_ble_eq_true rfl⟩ (Nat.le_of_ble_eq_true rfl) ⟨Nat.le_of_ble_eq_true rfl, Nat.le_of_ble_eq_true rfl⟩ ?_ rfl rfl rfl rfl
          refine r_lstore (lv1 := [(10, .long r20), (8, .long r9), (0, .ref a0), (1, .int x1), (2, .int x2), (3, .int x3), (4, .long x4), (6, .long x6)]) K dX10_adding_80 (by decide) rfl ?_
          refine r_aload_n K 2 dX10_adding_82 rfl ?_
          obtain ⟨b23, e24, hf⟩ := ob1_s hf
          refine r_getR (ci := 10) (k := 2) K dX10_adding_83 inX10 rfl (by decide) rfl q_908 e24 ?_
          refine r_aload_n K 2 dX10_adding_86 rfl ?_
          obtain ⟨b25, e26, hf⟩ := ob1_s hf
          refine r_getR (ci := 10) (k := 0) K dX10_adding_87 inX10 rfl (by decide) rfl q_906 e26 ?_
          obtain ⟨g27, e28, hf⟩ := ob1_s hf
          refine r_callS (As := [.ref b23, .ref b25]) (rest := []) (st1 := []) (cells1 := 0) (slots1 := 0) K (mX10_copies l e28) dX10_adding_90 ceX10_copies q_1312 q_1313 q_85 q_1314 ⟨Nat.le_of_ble_eq_true rfl, Nat.le_of_ble_eq_true rfl⟩ (Nat.le_of_ble_eq_true rfl) ⟨Nat.le_of_ble_eq_true rfl, Nat.le_of_ble_eq_true rfl⟩ ?_ rfl rfl rfl rfl
          refine r_lload K 1 dX10_adding_93 rfl ?_
          refine r_lconst (v := (0 : Int64)) K dX10_adding_95 (by decide) ?_
          refine r_lif_lt (tgt := 107) K dX10_adding_96 dX10_adding_97 (by decide) (fun c30 => ?_) (fun c30 => ?_)
          · replace hf := ite_t hf c30
            refine r_ldc2 K dX10_adding_107 q_1060 ?_
            refine r_goto (tgt := 118) K dX10_adding_110 (by decide) ?_
            exact r_lret K dX10_adding_118 hf (Nat.le_of_ble_eq_true rfl) (Nat.le_of_ble_eq_true rfl)
          · replace hf := ite_f hf c30
            refine r_lload K 0 dX10_adding_100 rfl ?_
            refine r_lconst (v := (0 : Int64)) K dX10_adding_102 (by decide) ?_
            refine r_lif_ge (tgt := 113) K dX10_adding_103 dX10_adding_104 (by decide) (fun c29 => ?_) (fun c29 => ?_)
            · replace hf := ite_t hf c29
              refine r_lload K 0 dX10_adding_113 rfl ?_
              refine r_lload K 1 dX10_adding_115 rfl ?_
              refine r_lsub K dX10_adding_117 ?_
              exact r_lret K dX10_adding_118 hf (Nat.le_of_ble_eq_true rfl) (Nat.le_of_ble_eq_true rfl)
            · replace hf := ite_f hf c29
              refine r_ldc2 K dX10_adding_107 q_1060 ?_
              refine r_goto (tgt := 118) K dX10_adding_110 (by decide) ?_
              exact r_lret K dX10_adding_118 hf (Nat.le_of_ble_eq_true rfl) (Nat.le_of_ble_eq_true rfl)
        · replace hf := ite_t hf c31
          refine r_ldc2 K dX10_adding_40 q_1060 ?_
          exact r_lret K dX10_adding_43 hf (Nat.le_of_ble_eq_true rfl) (Nat.le_of_ble_eq_true rfl)
theorem ceX10_becomes : CE yX10_becomes 2 := ⟨by decide, by decide, by decide +kernel⟩
abbrev rmX10_becomes : Room := { frames := 1, cells := 0, slots := 0, locals := 22 }
def fX10_becomes (a0 : Nat) (x1 : Int32) (x2 : Int64) (h : AH) : Option (Int32 × AH) :=
  ob1 (fX10_ofRoad a0 x1 (7 : Int32) h) fun r1 =>
  bnd (fun (v4 : Int32) =>
    ob1 (gR h a0 10 0) fun b5 =>
    ob1 (sL h b5 (((2 : Int32) + ((8 : Int32) * x1)) + (7 : Int32)) x2) fun g7 =>
    some (v4, g7)
  ) fun j3 =>
  if r1 = x2 then
    j3 (0 : Int32)
  else
    j3 (1 : Int32)
set_option maxHeartbeats 4000000 in
set_option maxRecDepth 100000 in
theorem mX10_becomes (l : Launch) {G : GG} {b0 : Nat} {h : AH} {a0 : Nat} {x1 : Int32} {x2 : Int64} {rr : Int32} {hh : AH} (ht : isO h a0 10) (hf : fX10_becomes a0 x1 x2 h = some (rr, hh)) : MM l yX10_becomes cX10_becomes 5 (some .int) rmX10_becomes G b0 h [.ref a0, .int x1, .long x2] (some (.int rr)) hh := by
  refine MM.of (own := RX10) (lv0 := [(0, .ref a0), (1, .int x1), (2, .long x2)]) (by decide) rfl (Nat.le_of_ble_eq_true rfl) rfl ?_
  intro p e s m args below meth c K hnm
  unfold fX10_becomes at hf
  refine r_aload_n K 0 dX10_becomes_0 rfl ?_
  refine r_iload_n K 1 dX10_becomes_1 rfl ?_
  refine r_bipush (v := (7 : Int32)) K dX10_becomes_2 (by decide) ?_
  obtain ⟨r1, e2, hf⟩ := ob1_s hf
  refine r_callV (As := [.int x1, .int (7 : Int32)]) (rest := []) (st1 := [.long r1]) (cells1 := 0) (slots1 := 0) (b := a0) (ci := 10) K (fun z => mX10_ofRoad l z e2) dX10_becomes_4 rfl (fun z => z _ _ ht) rfl ceX10_ofRoad q_1051 q_1053 q_36 q_85 q_1054 ⟨Nat.le_of_ble_eq_true rfl, Nat.le_of_ble_eq_true rfl⟩ (Nat.le_of_ble_eq_true rfl) ⟨Nat.le_of_ble_eq_true rfl, Nat.le_of_ble_eq_true rfl⟩ ?_ rfl rfl rfl rfl
  refine r_lload_n K 2 dX10_becomes_7 rfl ?_
  obtain ⟨j3, ej3, hf⟩ := bnd_g hf
  have Jj3 : ∀ (v4 : Int32), j3 v4 = some (rr, hh) → WA p l e rmX10_becomes s m args below meth c (MQ below (QG G b0 h (some (.int rr)) hh) args s (rmX10_becomes).cells (rmX10_becomes).slots (AB b0)) G b0 5 h 0 0 h 17 [(0, .ref a0), (1, .int x1), (2, .long x2)] [.int v4] := by
    intro v4 hf
    rw [ej3] at hf
    refine r_istore (lv1 := [(4, .int v4), (0, .ref a0), (1, .int x1), (2, .long x2)]) K dX10_becomes_17 (by decide) rfl ?_
    refine r_aload_n K 1 dX10_becomes_19 rfl ?_
    obtain ⟨b5, e6, hf⟩ := ob1_s hf
    refine r_getR (ci := 10) (k := 0) K dX10_becomes_20 inX10 rfl (by decide) rfl q_906 e6 ?_
    refine r_iconst (v := (2 : Int32)) K dX10_becomes_23 (by decide) ?_
    refine r_bipush (v := (8 : Int32)) K dX10_becomes_24 (by decide) ?_
    refine r_iload_n K 2 dX10_becomes_26 rfl ?_
    refine r_imul K dX10_becomes_27 ?_
    refine r_iadd K dX10_becomes_28 ?_
    refine r_bipush (v := (7 : Int32)) K dX10_becomes_29 (by decide) ?_
    refine r_iadd K dX10_becomes_31 ?_
    refine r_lload_n K 3 dX10_becomes_32 rfl ?_
    obtain ⟨g7, e8, hf⟩ := ob1_s hf
    refine r_lastore K dX10_becomes_33 e8 ?_
    refine r_iload K 0 dX10_becomes_34 rfl ?_
    exact r_iret K dX10_becomes_36 hf (Nat.le_of_ble_eq_true rfl) (Nat.le_of_ble_eq_true rfl)
  refine r_lif_ne (tgt := 16) K dX10_becomes_8 dX10_becomes_9 (by decide) (fun c9 => ?_) (fun c9 => ?_)
  · replace hf := ite_f hf c9
    refine r_iconst (v := (1 : Int32)) K dX10_becomes_16 (by decide) ?_
    exact Jj3 (1 : Int32) hf
  · replace hf := ite_t hf c9
    refine r_iconst (v := (0 : Int32)) K dX10_becomes_12 (by decide) ?_
    refine r_goto (tgt := 17) K dX10_becomes_13 (by decide) ?_
    exact Jj3 (0 : Int32) hf
theorem ceX10_fix : CE yX10_fix 0 := ⟨by decide, by decide, by decide +kernel⟩
abbrev rmX10_fix : Room := { frames := 9, cells := 0, slots := 0, locals := 230 }
def fX10_fix_L15 (a0 : Nat) (k : Int32 → AH → Option (Int32 × AH)) : Nat → Int32 → Int32 → AH → Option (Int32 × AH)
  | 0, _, _, _ => none
  | n + 1, x1, x2, h =>
    ob1 (fX10_roadMany a0 h) fun r4 =>
    if r4 ≤ x2 then
      k x1 h
    else
      ob1 (gR h a0 10 16) fun b6 =>
      ob1 (aI h b6 0 x2) fun v8 =>
      ob1 (fX10_lossBy a0 x2 v8 h) fun r10 =>
      if r10 ≤ (1000000000 : Int64) then
        ob2 (fX10_becomes a0 x2 r10 h) fun r12 g13 =>
        bnd (x1 + r12) fun y15 =>
        bnd (x2 + (1 : Int32)) fun y16 =>
        fX10_fix_L15 a0 k n y15 y16 g13
      else
        ob2 (fX10_becomes a0 x2 (1000000000 : Int64) h) fun r17 g18 =>
        bnd (x1 + r17) fun y20 =>
        bnd (x2 + (1 : Int32)) fun y21 =>
        fX10_fix_L15 a0 k n y20 y21 g18
def fX10_fix (a0 : Nat) (h : AH) : Option (Int32 × AH) :=
  ob2 (fX10_steady a0 (2 : Int32) h) fun r1 g2 =>
  if r1 = (0 : Int32) then
    some ((-3 : Int32), g2)
  else
    fX10_fix_L15 a0 (fun (y24 : Int32) (g25 : AH) =>
      some (y24, g25)
    ) lf (0 : Int32) (0 : Int32) g2
set_option maxHeartbeats 4000000 in
set_option maxRecDepth 100000 in
theorem wX10_fix_L15 {p : Program} {l : Launch} {e : Env} {s : State} {m : MethodId} {args : Array Value} {below : List Frame} {meth : Method} {c : Code} {G : GG} {b0 : Nat} {h0 : AH} {a0 : Nat} {rr : Int32} {hh : AH} (K : CX p s m args meth c cX10_fix 5 RX10 (some .int) G b0) (ht : isO h0 a0 10) (k : Int32 → AH → Option (Int32 × AH)) (hk : ∀ (x1 : Int32) (h : AH), k x1 h = some (rr, hh) → WA p l e rmX10_fix s m args below meth c (MQ below (QG G b0 h0 (some (.int rr)) hh) args s (rmX10_fix).cells (rmX10_fix).slots (AB b0)) G b0 5 h0 0 0 h 64 [(1, .int x1)] []) : ∀ (n : Nat) (x1 : Int32) (x2 : Int32) (h : AH), fX10_fix_L15 a0 k n x1 x2 h = some (rr, hh) → WA p l e rmX10_fix s m args below meth c (MQ below (QG G b0 h0 (some (.int rr)) hh) args s (rmX10_fix).cells (rmX10_fix).slots (AB b0)) G b0 5 h0 0 0 h 15 [(0, .ref a0), (1, .int x1), (2, .int x2)] [] := by
  intro n
  induction n with
  | zero =>
    intro x1 x2 h hf
    rw [fX10_fix_L15] at hf
    cases hf
  | succ n ih =>
    intro x1 x2 h hf
    rw [fX10_fix_L15] at hf
    refine r_iload_n K 2 dX10_fix_15 rfl ?_
    refine r_aload_n K 0 dX10_fix_16 rfl ?_
    obtain ⟨r4, e5, hf⟩ := ob1_s hf
    refine r_callV (As := []) (rest := [.int x2]) (st1 := [.int r4, .int x2]) (cells1 := 0) (slots1 := 0) (b := a0) (ci := 10) K (fun z => mX10_roadMany l z e5) dX10_fix_17 rfl (fun z => z _ _ ht) rfl ceX10_roadMany q_1028 q_1030 q_33 q_85 q_1031 ⟨Nat.le_of_ble_eq_true rfl, Nat.le_of_ble_eq_true rfl⟩ (Nat.le_of_ble_eq_true rfl) ⟨Nat.le_of_ble_eq_true rfl, Nat.le_of_ble_eq_true rfl⟩ ?_ rfl rfl rfl rfl
    refine r_icmp_ge (tgt := 64) K dX10_fix_20 (by decide) (fun c23 => ?_) (fun c23 => ?_)
    · replace hf := ite_t hf c23
      refine r_lv [1] rfl ?_
      exact hk x1 h hf
    · replace hf := ite_f hf c23
      refine r_aload_n K 0 dX10_fix_23 rfl ?_
      refine r_iload_n K 2 dX10_fix_24 rfl ?_
      refine r_aload_n K 0 dX10_fix_25 rfl ?_
      obtain ⟨b6, e7, hf⟩ := ob1_s hf
      refine r_getR (ci := 10) (k := 16) K dX10_fix_26 inX10 rfl (by decide) rfl q_922 e7 ?_
      refine r_iload_n K 2 dX10_fix_29 rfl ?_
      obtain ⟨v8, e9, hf⟩ := ob1_s hf
      refine r_iaload K dX10_fix_30 e9 ?_
      obtain ⟨r10, e11, hf⟩ := ob1_s hf
      refine r_callV (As := [.int x2, .int v8]) (rest := []) (st1 := [.long r10]) (cells1 := 0) (slots1 := 0) (b := a0) (ci := 10) K (fun z => mX10_lossBy l z e11) dX10_fix_31 rfl (fun z => z _ _ ht) rfl ceX10_lossBy q_1069 q_1071 q_38 q_85 q_1072 ⟨Nat.le_of_ble_eq_true rfl, Nat.le_of_ble_eq_true rfl⟩ (Nat.le_of_ble_eq_true rfl) ⟨Nat.le_of_ble_eq_true rfl, Nat.le_of_ble_eq_true rfl⟩ ?_ rfl rfl rfl rfl
      refine r_lstore_n (lv1 := [(3, .long r10), (0, .ref a0), (1, .int x1), (2, .int x2)]) K dX10_fix_34 (by decide) rfl ?_
      refine r_iload_n K 2 dX10_fix_35 rfl ?_
      refine r_aload_n K 1 dX10_fix_36 rfl ?_
      refine r_iload_n K 3 dX10_fix_37 rfl ?_
      refine r_lload_n K 0 dX10_fix_38 rfl ?_
      refine r_ldc2 K dX10_fix_39 q_1049 ?_
      refine r_lif_le (tgt := 52) K dX10_fix_42 dX10_fix_43 (by decide) (fun c22 => ?_) (fun c22 => ?_)
      · replace hf := ite_t hf c22
        refine r_lload_n K 0 dX10_fix_52 rfl ?_
        obtain ⟨r12, g13, e14, hf⟩ := ob2_s hf
        refine r_callV (As := [.int x2, .long r10]) (rest := [.int x1]) (st1 := [.int r12, .int x1]) (cells1 := 0) (slots1 := 0) (b := a0) (ci := 10) K (fun z => mX10_becomes l z e14) dX10_fix_53 rfl (fun z => z _ _ ht) rfl ceX10_becomes q_1335 q_1337 q_71 q_85 q_1338 ⟨Nat.le_of_ble_eq_true rfl, Nat.le_of_ble_eq_true rfl⟩ (Nat.le_of_ble_eq_true rfl) ⟨Nat.le_of_ble_eq_true rfl, Nat.le_of_ble_eq_true rfl⟩ ?_ rfl rfl rfl rfl
        refine r_iadd K dX10_fix_56 ?_
        obtain ⟨y15, ey15, hf⟩ := bnd_g hf
        refine r_nmi ey15 ?_
        refine r_istore_n (lv1 := [(1, .int y15), (3, .long r10), (0, .ref a0), (2, .int x2)]) K dX10_fix_57 (by decide) rfl ?_
        obtain ⟨y16, ey16, hf⟩ := bnd_g hf
        refine r_iinc (lv1 := [(2, .int y16), (1, .int y15), (3, .long r10), (0, .ref a0)]) K 3 dX10_fix_58 rfl (by rw [ey16]; rfl) (by decide) rfl ?_
        refine r_goto (tgt := 15) K dX10_fix_61 (by decide) ?_
        refine r_lv [3, 1, 0] rfl ?_
        exact ih y15 y16 g13 hf
      · replace hf := ite_f hf c22
        refine r_ldc2 K dX10_fix_46 q_1049 ?_
        refine r_goto (tgt := 53) K dX10_fix_49 (by decide) ?_
        obtain ⟨r17, g18, e19, hf⟩ := ob2_s hf
        refine r_callV (As := [.int x2, .long (1000000000 : Int64)]) (rest := [.int x1]) (st1 := [.int r17, .int x1]) (cells1 := 0) (slots1 := 0) (b := a0) (ci := 10) K (fun z => mX10_becomes l z e19) dX10_fix_53 rfl (fun z => z _ _ ht) rfl ceX10_becomes q_1335 q_1337 q_71 q_85 q_1338 ⟨Nat.le_of_ble_eq_true rfl, Nat.le_of_ble_eq_true rfl⟩ (Nat.le_of_ble_eq_true rfl) ⟨Nat.le_of_ble_eq_true rfl, Nat.le_of_ble_eq_true rfl⟩ ?_ rfl rfl rfl rfl
        refine r_iadd K dX10_fix_56 ?_
        obtain ⟨y20, ey20, hf⟩ := bnd_g hf
        refine r_nmi ey20 ?_
        refine r_istore_n (lv1 := [(1, .int y20), (3, .long r10), (0, .ref a0), (2, .int x2)]) K dX10_fix_57 (by decide) rfl ?_
        obtain ⟨y21, ey21, hf⟩ := bnd_g hf
        refine r_iinc (lv1 := [(2, .int y21), (1, .int y20), (3, .long r10), (0, .ref a0)]) K 3 dX10_fix_58 rfl (by rw [ey21]; rfl) (by decide) rfl ?_
        refine r_goto (tgt := 15) K dX10_fix_61 (by decide) ?_
        refine r_lv [3, 1, 0] rfl ?_
        exact ih y20 y21 g18 hf
set_option maxHeartbeats 4000000 in
set_option maxRecDepth 100000 in
theorem mX10_fix (l : Launch) {G : GG} {b0 : Nat} {h : AH} {a0 : Nat} {rr : Int32} {hh : AH} (ht : isO h a0 10) (hf : fX10_fix a0 h = some (rr, hh)) : MM l yX10_fix cX10_fix 5 (some .int) rmX10_fix G b0 h [.ref a0] (some (.int rr)) hh := by
  refine MM.of (own := RX10) (lv0 := [(0, .ref a0)]) (by decide) rfl (Nat.le_of_ble_eq_true rfl) rfl ?_
  intro p e s m args below meth c K hnm
  unfold fX10_fix at hf
  refine r_aload_n K 0 dX10_fix_0 rfl ?_
  refine r_iconst (v := (2 : Int32)) K dX10_fix_1 (by decide) ?_
  obtain ⟨r1, g2, e3, hf⟩ := ob2_s hf
  refine r_callV (As := [.int (2 : Int32)]) (rest := []) (st1 := [.int r1]) (cells1 := 0) (slots1 := 0) (b := a0) (ci := 10) K (fun z => mX10_steady l z e3) dX10_fix_2 rfl (fun z => z _ _ ht) rfl ceX10_steady q_1165 q_1167 q_50 q_85 q_1168 ⟨Nat.le_of_ble_eq_true rfl, Nat.le_of_ble_eq_true rfl⟩ (Nat.le_of_ble_eq_true rfl) ⟨Nat.le_of_ble_eq_true rfl, Nat.le_of_ble_eq_true rfl⟩ ?_ rfl rfl rfl rfl
  refine r_if_ne (tgt := 11) K dX10_fix_5 (by decide) (fun c26 => ?_) (fun c26 => ?_)
  · replace hf := ite_f hf c26
    refine r_iconst (v := (0 : Int32)) K dX10_fix_11 (by decide) ?_
    refine r_istore_n (lv1 := [(1, .int (0 : Int32)), (0, .ref a0)]) K dX10_fix_12 (by decide) rfl ?_
    refine r_iconst (v := (0 : Int32)) K dX10_fix_13 (by decide) ?_
    refine r_istore_n (lv1 := [(2, .int (0 : Int32)), (1, .int (0 : Int32)), (0, .ref a0)]) K dX10_fix_14 (by decide) rfl ?_
    refine r_lv [2, 1, 0] rfl ?_
    refine wX10_fix_L15 K ht _ (fun y24 g25 hf => ?_) lf (0 : Int32) (0 : Int32) g2 hf
    refine r_iload_n K 0 dX10_fix_64 rfl ?_
    exact r_iret K dX10_fix_65 hf (Nat.le_of_ble_eq_true rfl) (Nat.le_of_ble_eq_true rfl)
  · replace hf := ite_t hf c26
    refine r_bipush (v := (-3 : Int32)) K dX10_fix_8 (by decide) ?_
    exact r_iret K dX10_fix_10 hf (Nat.le_of_ble_eq_true rfl) (Nat.le_of_ble_eq_true rfl)
theorem ceX10_free : CE yX10_free 0 := ⟨by decide, by decide, by decide +kernel⟩
abbrev rmX10_free : Room := { frames := 2, cells := 0, slots := 0, locals := 46 }
def fX10_free_L4 (a0 : Nat) (k : Int32 → AH → Option (Int32 × AH)) : Nat → Int32 → Int32 → AH → Option (Int32 × AH)
  | 0, _, _, _ => none
  | n + 1, x1, x2, h =>
    ob1 (fX10_roadMany a0 h) fun r1 =>
    if r1 ≤ x2 then
      k x1 h
    else
      ob2 (fX10_becomes a0 x2 (0 : Int64) h) fun r3 g4 =>
      bnd (x1 + r3) fun y6 =>
      bnd (x2 + (1 : Int32)) fun y7 =>
      fX10_free_L4 a0 k n y6 y7 g4
def fX10_free (a0 : Nat) (h : AH) : Option (Int32 × AH) :=
  fX10_free_L4 a0 (fun (y9 : Int32) (g10 : AH) =>
    some (y9, g10)
  ) lf (0 : Int32) (0 : Int32) h
set_option maxHeartbeats 4000000 in
set_option maxRecDepth 100000 in
theorem wX10_free_L4 {p : Program} {l : Launch} {e : Env} {s : State} {m : MethodId} {args : Array Value} {below : List Frame} {meth : Method} {c : Code} {G : GG} {b0 : Nat} {h0 : AH} {a0 : Nat} {rr : Int32} {hh : AH} (K : CX p s m args meth c cX10_free 3 RX10 (some .int) G b0) (ht : isO h0 a0 10) (k : Int32 → AH → Option (Int32 × AH)) (hk : ∀ (x1 : Int32) (h : AH), k x1 h = some (rr, hh) → WA p l e rmX10_free s m args below meth c (MQ below (QG G b0 h0 (some (.int rr)) hh) args s (rmX10_free).cells (rmX10_free).slots (AB b0)) G b0 3 h0 0 0 h 27 [(1, .int x1)] []) : ∀ (n : Nat) (x1 : Int32) (x2 : Int32) (h : AH), fX10_free_L4 a0 k n x1 x2 h = some (rr, hh) → WA p l e rmX10_free s m args below meth c (MQ below (QG G b0 h0 (some (.int rr)) hh) args s (rmX10_free).cells (rmX10_free).slots (AB b0)) G b0 3 h0 0 0 h 4 [(0, .ref a0), (1, .int x1), (2, .int x2)] [] := by
  intro n
  induction n with
  | zero =>
    intro x1 x2 h hf
    rw [fX10_free_L4] at hf
    cases hf
  | succ n ih =>
    intro x1 x2 h hf
    rw [fX10_free_L4] at hf
    refine r_iload_n K 2 dX10_free_4 rfl ?_
    refine r_aload_n K 0 dX10_free_5 rfl ?_
    obtain ⟨r1, e2, hf⟩ := ob1_s hf
    refine r_callV (As := []) (rest := [.int x2]) (st1 := [.int r1, .int x2]) (cells1 := 0) (slots1 := 0) (b := a0) (ci := 10) K (fun z => mX10_roadMany l z e2) dX10_free_6 rfl (fun z => z _ _ ht) rfl ceX10_roadMany q_1028 q_1030 q_33 q_85 q_1031 ⟨Nat.le_of_ble_eq_true rfl, Nat.le_of_ble_eq_true rfl⟩ (Nat.le_of_ble_eq_true rfl) ⟨Nat.le_of_ble_eq_true rfl, Nat.le_of_ble_eq_true rfl⟩ ?_ rfl rfl rfl rfl
    refine r_icmp_ge (tgt := 27) K dX10_free_9 (by decide) (fun c8 => ?_) (fun c8 => ?_)
    · replace hf := ite_t hf c8
      refine r_lv [1] rfl ?_
      exact hk x1 h hf
    · replace hf := ite_f hf c8
      refine r_iload_n K 1 dX10_free_12 rfl ?_
      refine r_aload_n K 0 dX10_free_13 rfl ?_
      refine r_iload_n K 2 dX10_free_14 rfl ?_
      refine r_lconst (v := (0 : Int64)) K dX10_free_15 (by decide) ?_
      obtain ⟨r3, g4, e5, hf⟩ := ob2_s hf
      refine r_callV (As := [.int x2, .long (0 : Int64)]) (rest := [.int x1]) (st1 := [.int r3, .int x1]) (cells1 := 0) (slots1 := 0) (b := a0) (ci := 10) K (fun z => mX10_becomes l z e5) dX10_free_16 rfl (fun z => z _ _ ht) rfl ceX10_becomes q_1335 q_1337 q_71 q_85 q_1338 ⟨Nat.le_of_ble_eq_true rfl, Nat.le_of_ble_eq_true rfl⟩ (Nat.le_of_ble_eq_true rfl) ⟨Nat.le_of_ble_eq_true rfl, Nat.le_of_ble_eq_true rfl⟩ ?_ rfl rfl rfl rfl
      refine r_iadd K dX10_free_19 ?_
      obtain ⟨y6, ey6, hf⟩ := bnd_g hf
      refine r_nmi ey6 ?_
      refine r_istore_n (lv1 := [(1, .int y6), (0, .ref a0), (2, .int x2)]) K dX10_free_20 (by decide) rfl ?_
      obtain ⟨y7, ey7, hf⟩ := bnd_g hf
      refine r_iinc (lv1 := [(2, .int y7), (1, .int y6), (0, .ref a0)]) K 2 dX10_free_21 rfl (by rw [ey7]; rfl) (by decide) rfl ?_
      refine r_goto (tgt := 4) K dX10_free_24 (by decide) ?_
      refine r_lv [2, 1, 0] rfl ?_
      exact ih y6 y7 g4 hf
set_option maxHeartbeats 4000000 in
set_option maxRecDepth 100000 in
theorem mX10_free (l : Launch) {G : GG} {b0 : Nat} {h : AH} {a0 : Nat} {rr : Int32} {hh : AH} (ht : isO h a0 10) (hf : fX10_free a0 h = some (rr, hh)) : MM l yX10_free cX10_free 3 (some .int) rmX10_free G b0 h [.ref a0] (some (.int rr)) hh := by
  refine MM.of (own := RX10) (lv0 := [(0, .ref a0)]) (by decide) rfl (Nat.le_of_ble_eq_true rfl) rfl ?_
  intro p e s m args below meth c K hnm
  unfold fX10_free at hf
  refine r_iconst (v := (0 : Int32)) K dX10_free_0 (by decide) ?_
  refine r_istore_n (lv1 := [(1, .int (0 : Int32)), (0, .ref a0)]) K dX10_free_1 (by decide) rfl ?_
  refine r_iconst (v := (0 : Int32)) K dX10_free_2 (by decide) ?_
  refine r_istore_n (lv1 := [(2, .int (0 : Int32)), (1, .int (0 : Int32)), (0, .ref a0)]) K dX10_free_3 (by decide) rfl ?_
  refine r_lv [2, 1, 0] rfl ?_
  refine wX10_free_L4 K ht _ (fun y9 g10 hf => ?_) lf (0 : Int32) (0 : Int32) h hf
  refine r_iload_n K 0 dX10_free_27 rfl ?_
  exact r_iret K dX10_free_28 hf (Nat.le_of_ble_eq_true rfl) (Nat.le_of_ble_eq_true rfl)
theorem ceX10_isList : CE yX10_isList 1 := ⟨by decide, by decide, by decide +kernel⟩
abbrev rmX10_isList : Room := { frames := 1, cells := 0, slots := 0, locals := 25 }
def fX10_isList (x0 : Int32) : Option Int32 :=
  ob1 (fX10_in (Int32.toInt64 x0) (0 : Int64) (3 : Int64)) fun r1 =>
  gd (zb r1) <|
  some r1
set_option maxHeartbeats 4000000 in
set_option maxRecDepth 100000 in
theorem mX10_isList (l : Launch) {G : GG} {b0 : Nat} {h : AH} {x0 : Int32} {rr : Int32} (hf : fX10_isList x0 = some rr) : MM l yX10_isList cX10_isList 1 (some .boolean) rmX10_isList G b0 h [.int x0] (some (.int rr)) h := by
  refine MM.of (own := RX10) (lv0 := [(0, .int x0)]) (by decide) rfl (Nat.le_of_ble_eq_true rfl) rfl ?_
  intro p e s m args below meth c K hnm
  unfold fX10_isList at hf
  refine r_iload_n K 0 dX10_isList_0 rfl ?_
  refine r_i2l K dX10_isList_1 ?_
  refine r_lconst (v := (0 : Int64)) K dX10_isList_2 (by decide) ?_
  refine r_ldc2 K dX10_isList_3 q_1080 ?_
  obtain ⟨r1, e2, hf⟩ := ob1_s hf
  refine r_callS (As := [.long (Int32.toInt64 x0), .long (0 : Int64), .long (3 : Int64)]) (rest := []) (st1 := [.int r1]) (cells1 := 0) (slots1 := 0) K (mX10_in l e2) dX10_isList_6 ceX10_in q_1005 q_1006 q_85 q_1007 ⟨Nat.le_of_ble_eq_true rfl, Nat.le_of_ble_eq_true rfl⟩ (Nat.le_of_ble_eq_true rfl) ⟨Nat.le_of_ble_eq_true rfl, Nat.le_of_ble_eq_true rfl⟩ ?_ rfl rfl rfl rfl
  obtain ⟨z3, hf⟩ := gd_s hf
  exact r_zret K dX10_isList_9 (zb_n z3) (retp hf) (Nat.le_of_ble_eq_true rfl) (Nat.le_of_ble_eq_true rfl)
theorem ceX10_list : CE yX10_list 2 := ⟨by decide, by decide, by decide +kernel⟩
abbrev rmX10_list : Room := { frames := 2, cells := 0, slots := 0, locals := 45 }
def fX10_list_L40 (a0 : Nat) (x1 : Int32) (k : AH → Option (Int32 × AH)) : Nat → Int32 → AH → Option (Int32 × AH)
  | 0, _, _ => none
  | n + 1, x3, h =>
    if (24 : Int32) ≤ x3 then
      k h
    else
      ob1 (gR h a0 10 26) fun b8 =>
      ob1 (sL h b8 (((24 : Int32) * x1) + x3) (0 : Int64)) fun g10 =>
      bnd (x3 + (1 : Int32)) fun y12 =>
      fX10_list_L40 a0 x1 k n y12 g10
def fX10_list (a0 : Nat) (x1 : Int32) (x2 : Int32) (h : AH) : Option (Int32 × AH) :=
  ob1 (fX10_isList x1) fun r1 =>
  if r1 = (0 : Int32) then
    some ((-1 : Int32), h)
  else
    if (24 : Int32) < x2 then
      if (0 : Int32) ≤ x2 then
        some ((-2 : Int32), h)
      else
        some ((-14 : Int32), h)
    else
      if (0 : Int32) ≤ x2 then
        ob1 (gR h a0 10 25) fun b4 =>
        ob1 (sI h b4 x1 x2) fun g6 =>
        fX10_list_L40 a0 x1 (fun (g14 : AH) =>
          some ((1 : Int32), g14)
        ) lf (0 : Int32) g6
      else
        if (0 : Int32) ≤ x2 then
          some ((-2 : Int32), h)
        else
          some ((-14 : Int32), h)
set_option maxHeartbeats 4000000 in
set_option maxRecDepth 100000 in
theorem wX10_list_L40 {p : Program} {l : Launch} {e : Env} {s : State} {m : MethodId} {args : Array Value} {below : List Frame} {meth : Method} {c : Code} {G : GG} {b0 : Nat} {h0 : AH} {a0 : Nat} {x1 : Int32} {rr : Int32} {hh : AH} (K : CX p s m args meth c cX10_list 4 RX10 (some .int) G b0) (ht : isO h0 a0 10) (k : AH → Option (Int32 × AH)) (hk : ∀ (h : AH), k h = some (rr, hh) → WA p l e rmX10_list s m args below meth c (MQ below (QG G b0 h0 (some (.int rr)) hh) args s (rmX10_list).cells (rmX10_list).slots (AB b0)) G b0 4 h0 0 0 h 64 [] []) : ∀ (n : Nat) (x3 : Int32) (h : AH), fX10_list_L40 a0 x1 k n x3 h = some (rr, hh) → WA p l e rmX10_list s m args below meth c (MQ below (QG G b0 h0 (some (.int rr)) hh) args s (rmX10_list).cells (rmX10_list).slots (AB b0)) G b0 4 h0 0 0 h 40 [(0, .ref a0), (1, .int x1), (3, .int x3)] [] := by
  intro n
  induction n with
  | zero =>
    intro x3 h hf
    rw [fX10_list_L40] at hf
    cases hf
  | succ n ih =>
    intro x3 h hf
    rw [fX10_list_L40] at hf
    refine r_iload_n K 2 dX10_list_40 rfl ?_
    refine r_bipush (v := (24 : Int32)) K dX10_list_41 (by decide) ?_
    refine r_icmp_ge (tgt := 64) K dX10_list_43 (by decide) (fun c13 => ?_) (fun c13 => ?_)
    · replace hf := ite_t hf c13
      refine r_lv [] rfl ?_
      exact hk h hf
    · replace hf := ite_f hf c13
      refine r_aload_n K 0 dX10_list_46 rfl ?_
      obtain ⟨b8, e9, hf⟩ := ob1_s hf
      refine r_getR (ci := 10) (k := 26) K dX10_list_47 inX10 rfl (by decide) rfl q_932 e9 ?_
      refine r_bipush (v := (24 : Int32)) K dX10_list_50 (by decide) ?_
      refine r_iload_n K 1 dX10_list_52 rfl ?_
      refine r_imul K dX10_list_53 ?_
      refine r_iload_n K 2 dX10_list_54 rfl ?_
      refine r_iadd K dX10_list_55 ?_
      refine r_lconst (v := (0 : Int64)) K dX10_list_56 (by decide) ?_
      obtain ⟨g10, e11, hf⟩ := ob1_s hf
      refine r_lastore K dX10_list_57 e11 ?_
      obtain ⟨y12, ey12, hf⟩ := bnd_g hf
      refine r_iinc (lv1 := [(3, .int y12), (0, .ref a0), (1, .int x1)]) K 2 dX10_list_58 rfl (by rw [ey12]; rfl) (by decide) rfl ?_
      refine r_goto (tgt := 40) K dX10_list_61 (by decide) ?_
      refine r_lv [1, 2, 0] rfl ?_
      exact ih y12 g10 hf
set_option maxHeartbeats 4000000 in
set_option maxRecDepth 100000 in
theorem mX10_list (l : Launch) {G : GG} {b0 : Nat} {h : AH} {a0 : Nat} {x1 : Int32} {x2 : Int32} {rr : Int32} {hh : AH} (ht : isO h a0 10) (hf : fX10_list a0 x1 x2 h = some (rr, hh)) : MM l yX10_list cX10_list 4 (some .int) rmX10_list G b0 h [.ref a0, .int x1, .int x2] (some (.int rr)) hh := by
  refine MM.of (own := RX10) (lv0 := [(0, .ref a0), (1, .int x1), (2, .int x2)]) (by decide) rfl (Nat.le_of_ble_eq_true rfl) rfl ?_
  intro p e s m args below meth c K hnm
  unfold fX10_list at hf
  refine r_iload_n K 1 dX10_list_0 rfl ?_
  obtain ⟨r1, e2, hf⟩ := ob1_s hf
  refine r_callS (As := [.int x1]) (rest := []) (st1 := [.int r1]) (cells1 := 0) (slots1 := 0) K (mX10_isList l e2) dX10_list_1 ceX10_isList q_1347 q_1348 q_85 q_1349 ⟨Nat.le_of_ble_eq_true rfl, Nat.le_of_ble_eq_true rfl⟩ (Nat.le_of_ble_eq_true rfl) ⟨Nat.le_of_ble_eq_true rfl, Nat.le_of_ble_eq_true rfl⟩ ?_ rfl rfl rfl rfl
  refine r_if_ne (tgt := 9) K dX10_list_4 (by decide) (fun c18 => ?_) (fun c18 => ?_)
  · replace hf := ite_f hf c18
    refine r_iload_n K 2 dX10_list_9 rfl ?_
    refine r_bipush (v := (24 : Int32)) K dX10_list_10 (by decide) ?_
    refine r_icmp_gt (tgt := 19) K dX10_list_12 (by decide) (fun c17 => ?_) (fun c17 => ?_)
    · replace hf := ite_t hf c17
      refine r_iload_n K 2 dX10_list_19 rfl ?_
      refine r_if_ge (tgt := 28) K dX10_list_20 (by decide) (fun c3 => ?_) (fun c3 => ?_)
      · replace hf := ite_t hf c3
        refine r_bipush (v := (-2 : Int32)) K dX10_list_28 (by decide) ?_
        exact r_iret K dX10_list_30 hf (Nat.le_of_ble_eq_true rfl) (Nat.le_of_ble_eq_true rfl)
      · replace hf := ite_f hf c3
        refine r_bipush (v := (-14 : Int32)) K dX10_list_23 (by decide) ?_
        refine r_goto (tgt := 30) K dX10_list_25 (by decide) ?_
        exact r_iret K dX10_list_30 hf (Nat.le_of_ble_eq_true rfl) (Nat.le_of_ble_eq_true rfl)
    · replace hf := ite_f hf c17
      refine r_iload_n K 2 dX10_list_15 rfl ?_
      refine r_if_ge (tgt := 31) K dX10_list_16 (by decide) (fun c16 => ?_) (fun c16 => ?_)
      · replace hf := ite_t hf c16
        refine r_aload_n K 0 dX10_list_31 rfl ?_
        obtain ⟨b4, e5, hf⟩ := ob1_s hf
        refine r_getR (ci := 10) (k := 25) K dX10_list_32 inX10 rfl (by decide) rfl q_931 e5 ?_
        refine r_iload_n K 1 dX10_list_35 rfl ?_
        refine r_iload_n K 2 dX10_list_36 rfl ?_
        obtain ⟨g6, e7, hf⟩ := ob1_s hf
        refine r_iastore K dX10_list_37 e7 ?_
        refine r_iconst (v := (0 : Int32)) K dX10_list_38 (by decide) ?_
        refine r_istore_n (lv1 := [(3, .int (0 : Int32)), (0, .ref a0), (1, .int x1), (2, .int x2)]) K dX10_list_39 (by decide) rfl ?_
        refine r_lv [1, 2, 0] rfl ?_
        refine wX10_list_L40 K ht _ (fun g14 hf => ?_) lf (0 : Int32) g6 hf
        refine r_iconst (v := (1 : Int32)) K dX10_list_64 (by decide) ?_
        exact r_iret K dX10_list_65 hf (Nat.le_of_ble_eq_true rfl) (Nat.le_of_ble_eq_true rfl)
      · replace hf := ite_f hf c16
        refine r_iload_n K 2 dX10_list_19 rfl ?_
        refine r_if_ge (tgt := 28) K dX10_list_20 (by decide) (fun c15 => ?_) (fun c15 => ?_)
        · replace hf := ite_t hf c15
          refine r_bipush (v := (-2 : Int32)) K dX10_list_28 (by decide) ?_
          exact r_iret K dX10_list_30 hf (Nat.le_of_ble_eq_true rfl) (Nat.le_of_ble_eq_true rfl)
        · replace hf := ite_f hf c15
          refine r_bipush (v := (-14 : Int32)) K dX10_list_23 (by decide) ?_
          refine r_goto (tgt := 30) K dX10_list_25 (by decide) ?_
          exact r_iret K dX10_list_30 hf (Nat.le_of_ble_eq_true rfl) (Nat.le_of_ble_eq_true rfl)
  · replace hf := ite_t hf c18
    refine r_iconst (v := (-1 : Int32)) K dX10_list_7 (by decide) ?_
    exact r_iret K dX10_list_8 hf (Nat.le_of_ble_eq_true rfl) (Nat.le_of_ble_eq_true rfl)
theorem ceX10_set : CE yX10_set 3 := ⟨by decide, by decide, by decide +kernel⟩
abbrev rmX10_set : Room := { frames := 2, cells := 0, slots := 0, locals := 45 }
def fX10_set (a0 : Nat) (x1 : Int32) (x2 : Int32) (x3 : Int64) (h : AH) : Option (Int32 × AH) :=
  ob1 (fX10_isList x1) fun r1 =>
  if r1 = (0 : Int32) then
    some ((-1 : Int32), h)
  else
    ob1 (gR h a0 10 25) fun b3 =>
    ob1 (aI h b3 0 x1) fun v5 =>
    if (0 : Int32) ≤ v5 then
      ob1 (gR h a0 10 25) fun b7 =>
      ob1 (aI h b7 0 x1) fun v9 =>
      ob1 (fX10_in (Int32.toInt64 x2) (0 : Int64) (Int32.toInt64 (v9 - (1 : Int32)))) fun r11 =>
      if r11 = (0 : Int32) then
        some ((-13 : Int32), h)
      else
        ob1 (gR h a0 10 26) fun b13 =>
        ob1 (sL h b13 (((24 : Int32) * x1) + x2) x3) fun g15 =>
        some ((1 : Int32), g15)
    else
      some ((-11 : Int32), h)
set_option maxHeartbeats 4000000 in
set_option maxRecDepth 100000 in
theorem mX10_set (l : Launch) {G : GG} {b0 : Nat} {h : AH} {a0 : Nat} {x1 : Int32} {x2 : Int32} {x3 : Int64} {rr : Int32} {hh : AH} (ht : isO h a0 10) (hf : fX10_set a0 x1 x2 x3 h = some (rr, hh)) : MM l yX10_set cX10_set 5 (some .int) rmX10_set G b0 h [.ref a0, .int x1, .int x2, .long x3] (some (.int rr)) hh := by
  refine MM.of (own := RX10) (lv0 := [(0, .ref a0), (1, .int x1), (2, .int x2), (3, .long x3)]) (by decide) rfl (Nat.le_of_ble_eq_true rfl) rfl ?_
  intro p e s m args below meth c K hnm
  unfold fX10_set at hf
  refine r_iload_n K 1 dX10_set_0 rfl ?_
  obtain ⟨r1, e2, hf⟩ := ob1_s hf
  refine r_callS (As := [.int x1]) (rest := []) (st1 := [.int r1]) (cells1 := 0) (slots1 := 0) K (mX10_isList l e2) dX10_set_1 ceX10_isList q_1347 q_1348 q_85 q_1349 ⟨Nat.le_of_ble_eq_true rfl, Nat.le_of_ble_eq_true rfl⟩ (Nat.le_of_ble_eq_true rfl) ⟨Nat.le_of_ble_eq_true rfl, Nat.le_of_ble_eq_true rfl⟩ ?_ rfl rfl rfl rfl
  refine r_if_ne (tgt := 9) K dX10_set_4 (by decide) (fun c19 => ?_) (fun c19 => ?_)
  · replace hf := ite_f hf c19
    refine r_aload_n K 0 dX10_set_9 rfl ?_
    obtain ⟨b3, e4, hf⟩ := ob1_s hf
    refine r_getR (ci := 10) (k := 25) K dX10_set_10 inX10 rfl (by decide) rfl q_931 e4 ?_
    refine r_iload_n K 1 dX10_set_13 rfl ?_
    obtain ⟨v5, e6, hf⟩ := ob1_s hf
    refine r_iaload K dX10_set_14 e6 ?_
    refine r_if_ge (tgt := 21) K dX10_set_15 (by decide) (fun c18 => ?_) (fun c18 => ?_)
    · replace hf := ite_t hf c18
      refine r_iload_n K 2 dX10_set_21 rfl ?_
      refine r_i2l K dX10_set_22 ?_
      refine r_lconst (v := (0 : Int64)) K dX10_set_23 (by decide) ?_
      refine r_aload_n K 0 dX10_set_24 rfl ?_
      obtain ⟨b7, e8, hf⟩ := ob1_s hf
      refine r_getR (ci := 10) (k := 25) K dX10_set_25 inX10 rfl (by decide) rfl q_931 e8 ?_
      refine r_iload_n K 1 dX10_set_28 rfl ?_
      obtain ⟨v9, e10, hf⟩ := ob1_s hf
      refine r_iaload K dX10_set_29 e10 ?_
      refine r_iconst (v := (1 : Int32)) K dX10_set_30 (by decide) ?_
      refine r_isub K dX10_set_31 ?_
      refine r_i2l K dX10_set_32 ?_
      obtain ⟨r11, e12, hf⟩ := ob1_s hf
      refine r_callS (As := [.long (Int32.toInt64 x2), .long (0 : Int64), .long (Int32.toInt64 (v9 - (1 : Int32)))]) (rest := []) (st1 := [.int r11]) (cells1 := 0) (slots1 := 0) K (mX10_in l e12) dX10_set_33 ceX10_in q_1005 q_1006 q_85 q_1007 ⟨Nat.le_of_ble_eq_true rfl, Nat.le_of_ble_eq_true rfl⟩ (Nat.le_of_ble_eq_true rfl) ⟨Nat.le_of_ble_eq_true rfl, Nat.le_of_ble_eq_true rfl⟩ ?_ rfl rfl rfl rfl
      refine r_if_ne (tgt := 42) K dX10_set_36 (by decide) (fun c17 => ?_) (fun c17 => ?_)
      · replace hf := ite_f hf c17
        refine r_aload_n K 0 dX10_set_42 rfl ?_
        obtain ⟨b13, e14, hf⟩ := ob1_s hf
        refine r_getR (ci := 10) (k := 26) K dX10_set_43 inX10 rfl (by decide) rfl q_932 e14 ?_
        refine r_bipush (v := (24 : Int32)) K dX10_set_46 (by decide) ?_
        refine r_iload_n K 1 dX10_set_48 rfl ?_
        refine r_imul K dX10_set_49 ?_
        refine r_iload_n K 2 dX10_set_50 rfl ?_
        refine r_iadd K dX10_set_51 ?_
        refine r_lload_n K 3 dX10_set_52 rfl ?_
        obtain ⟨g15, e16, hf⟩ := ob1_s hf
        refine r_lastore K dX10_set_53 e16 ?_
        refine r_iconst (v := (1 : Int32)) K dX10_set_54 (by decide) ?_
        exact r_iret K dX10_set_55 hf (Nat.le_of_ble_eq_true rfl) (Nat.le_of_ble_eq_true rfl)
      · replace hf := ite_t hf c17
        refine r_bipush (v := (-13 : Int32)) K dX10_set_39 (by decide) ?_
        exact r_iret K dX10_set_41 hf (Nat.le_of_ble_eq_true rfl) (Nat.le_of_ble_eq_true rfl)
    · replace hf := ite_f hf c18
      refine r_bipush (v := (-11 : Int32)) K dX10_set_18 (by decide) ?_
      exact r_iret K dX10_set_20 hf (Nat.le_of_ble_eq_true rfl) (Nat.le_of_ble_eq_true rfl)
  · replace hf := ite_t hf c19
    refine r_iconst (v := (-1 : Int32)) K dX10_set_7 (by decide) ?_
    exact r_iret K dX10_set_8 hf (Nat.le_of_ble_eq_true rfl) (Nat.le_of_ble_eq_true rfl)
theorem ceX10_get : CE yX10_get 2 := ⟨by decide, by decide, by decide +kernel⟩
abbrev rmX10_get : Room := { frames := 2, cells := 0, slots := 0, locals := 45 }
def fX10_get (a0 : Nat) (x1 : Int32) (x2 : Int32) (h : AH) : Option Int64 :=
  ob1 (fX10_isList x1) fun r1 =>
  if r1 = (0 : Int32) then
    some (-9223372036854775808 : Int64)
  else
    ob1 (gR h a0 10 25) fun b3 =>
    ob1 (aI h b3 0 x1) fun v5 =>
    ob1 (fX10_in (Int32.toInt64 x2) (0 : Int64) (Int32.toInt64 (v5 - (1 : Int32)))) fun r7 =>
    if r7 = (0 : Int32) then
      some (-9223372036854775808 : Int64)
    else
      ob1 (gR h a0 10 26) fun b9 =>
      ob1 (aL h b9 (((24 : Int32) * x1) + x2)) fun v11 =>
      some v11
set_option maxHeartbeats 4000000 in
set_option maxRecDepth 100000 in
theorem mX10_get (l : Launch) {G : GG} {b0 : Nat} {h : AH} {a0 : Nat} {x1 : Int32} {x2 : Int32} {rr : Int64} (ht : isO h a0 10) (hf : fX10_get a0 x1 x2 h = some rr) : MM l yX10_get cX10_get 3 (some .long) rmX10_get G b0 h [.ref a0, .int x1, .int x2] (some (.long rr)) h := by
  refine MM.of (own := RX10) (lv0 := [(0, .ref a0), (1, .int x1), (2, .int x2)]) (by decide) rfl (Nat.le_of_ble_eq_true rfl) rfl ?_
  intro p e s m args below meth c K hnm
  unfold fX10_get at hf
  refine r_iload_n K 1 dX10_get_0 rfl ?_
  obtain ⟨r1, e2, hf⟩ := ob1_s hf
  refine r_callS (As := [.int x1]) (rest := []) (st1 := [.int r1]) (cells1 := 0) (slots1 := 0) K (mX10_isList l e2) dX10_get_1 ceX10_isList q_1347 q_1348 q_85 q_1349 ⟨Nat.le_of_ble_eq_true rfl, Nat.le_of_ble_eq_true rfl⟩ (Nat.le_of_ble_eq_true rfl) ⟨Nat.le_of_ble_eq_true rfl, Nat.le_of_ble_eq_true rfl⟩ ?_ rfl rfl rfl rfl
  refine r_if_eq (tgt := 39) K dX10_get_4 (by decide) (fun c14 => ?_) (fun c14 => ?_)
  · replace hf := ite_t hf c14
    refine r_ldc2 K dX10_get_39 q_1060 ?_
    exact r_lret K dX10_get_42 (retp hf) (Nat.le_of_ble_eq_true rfl) (Nat.le_of_ble_eq_true rfl)
  · replace hf := ite_f hf c14
    refine r_iload_n K 2 dX10_get_7 rfl ?_
    refine r_i2l K dX10_get_8 ?_
    refine r_lconst (v := (0 : Int64)) K dX10_get_9 (by decide) ?_
    refine r_aload_n K 0 dX10_get_10 rfl ?_
    obtain ⟨b3, e4, hf⟩ := ob1_s hf
    refine r_getR (ci := 10) (k := 25) K dX10_get_11 inX10 rfl (by decide) rfl q_931 e4 ?_
    refine r_iload_n K 1 dX10_get_14 rfl ?_
    obtain ⟨v5, e6, hf⟩ := ob1_s hf
    refine r_iaload K dX10_get_15 e6 ?_
    refine r_iconst (v := (1 : Int32)) K dX10_get_16 (by decide) ?_
    refine r_isub K dX10_get_17 ?_
    refine r_i2l K dX10_get_18 ?_
    obtain ⟨r7, e8, hf⟩ := ob1_s hf
    refine r_callS (As := [.long (Int32.toInt64 x2), .long (0 : Int64), .long (Int32.toInt64 (v5 - (1 : Int32)))]) (rest := []) (st1 := [.int r7]) (cells1 := 0) (slots1 := 0) K (mX10_in l e8) dX10_get_19 ceX10_in q_1005 q_1006 q_85 q_1007 ⟨Nat.le_of_ble_eq_true rfl, Nat.le_of_ble_eq_true rfl⟩ (Nat.le_of_ble_eq_true rfl) ⟨Nat.le_of_ble_eq_true rfl, Nat.le_of_ble_eq_true rfl⟩ ?_ rfl rfl rfl rfl
    refine r_if_eq (tgt := 39) K dX10_get_22 (by decide) (fun c13 => ?_) (fun c13 => ?_)
    · replace hf := ite_t hf c13
      refine r_ldc2 K dX10_get_39 q_1060 ?_
      exact r_lret K dX10_get_42 (retp hf) (Nat.le_of_ble_eq_true rfl) (Nat.le_of_ble_eq_true rfl)
    · replace hf := ite_f hf c13
      refine r_aload_n K 0 dX10_get_25 rfl ?_
      obtain ⟨b9, e10, hf⟩ := ob1_s hf
      refine r_getR (ci := 10) (k := 26) K dX10_get_26 inX10 rfl (by decide) rfl q_932 e10 ?_
      refine r_bipush (v := (24 : Int32)) K dX10_get_29 (by decide) ?_
      refine r_iload_n K 1 dX10_get_31 rfl ?_
      refine r_imul K dX10_get_32 ?_
      refine r_iload_n K 2 dX10_get_33 rfl ?_
      refine r_iadd K dX10_get_34 ?_
      obtain ⟨v11, e12, hf⟩ := ob1_s hf
      refine r_laload K dX10_get_35 e12 ?_
      refine r_goto (tgt := 42) K dX10_get_36 (by decide) ?_
      exact r_lret K dX10_get_42 (retp hf) (Nat.le_of_ble_eq_true rfl) (Nat.le_of_ble_eq_true rfl)
theorem ceX10_lay : CE yX10_lay 3 := ⟨by decide, by decide, by decide +kernel⟩
abbrev rmX10_lay : Room := { frames := 9, cells := 0, slots := 0, locals := 230 }
def fX10_lay_L45 (a0 : Nat) (x1 : Int32) (x2 : Int32) (k : Int32 → AH → Option (Int32 × AH)) : Nat → Int32 → Int32 → AH → Option (Int32 × AH)
  | 0, _, _, _ => none
  | n + 1, x4, x5, h =>
    ob1 (fX10_roadMany a0 h) fun r12 =>
    if r12 ≤ x5 then
      k x4 h
    else
      if x2 < (0 : Int32) then
        bnd (x5 + (1 : Int32)) fun y14 =>
        fX10_lay_L45 a0 x1 x2 k n x4 y14 h
      else
        ob1 (gR h a0 10 25) fun b15 =>
        ob1 (aI h b15 0 x1) fun v17 =>
        if (Int32.toInt64 v17) ≤ ((Int32.toInt64 x2) + (Int32.toInt64 x5)) then
          bnd (x5 + (1 : Int32)) fun y19 =>
          fX10_lay_L45 a0 x1 x2 k n x4 y19 h
        else
          ob1 (gR h a0 10 26) fun b20 =>
          ob1 (gR h a0 10 16) fun b22 =>
          ob1 (aI h b22 0 x5) fun v24 =>
          ob1 (sL h b20 ((((24 : Int32) * x1) + x2) + x5) (Int32.toInt64 v24)) fun g26 =>
          bnd (x4 + (1 : Int32)) fun y28 =>
          bnd (x5 + (1 : Int32)) fun y29 =>
          fX10_lay_L45 a0 x1 x2 k n y28 y29 g26
def fX10_lay (a0 : Nat) (x1 : Int32) (x2 : Int32) (x3 : Int32) (h : AH) : Option (Int32 × AH) :=
  ob1 (fX10_isList x1) fun r1 =>
  if r1 = (0 : Int32) then
    some ((-1 : Int32), h)
  else
    ob1 (fX10_isMode x3) fun r3 =>
    if r3 = (0 : Int32) then
      some ((-1 : Int32), h)
    else
      ob1 (gR h a0 10 25) fun b5 =>
      ob1 (aI h b5 0 x1) fun v7 =>
      if (0 : Int32) ≤ v7 then
        ob2 (fX10_steady a0 x3 h) fun r9 g10 =>
        if r9 = (0 : Int32) then
          some ((-3 : Int32), g10)
        else
          fX10_lay_L45 a0 x1 x2 (fun (y33 : Int32) (g34 : AH) =>
            ob1 (fX10_roadMany a0 g34) fun r35 =>
            if y33 = r35 then
              some (y33, g34)
            else
              some ((-13 : Int32), g34)
          ) lf (0 : Int32) (0 : Int32) g10
      else
        some ((-11 : Int32), h)
set_option maxHeartbeats 4000000 in
set_option maxRecDepth 100000 in
theorem wX10_lay_L45 {p : Program} {l : Launch} {e : Env} {s : State} {m : MethodId} {args : Array Value} {below : List Frame} {meth : Method} {c : Code} {G : GG} {b0 : Nat} {h0 : AH} {a0 : Nat} {x1 : Int32} {x2 : Int32} {rr : Int32} {hh : AH} (K : CX p s m args meth c cX10_lay 6 RX10 (some .int) G b0) (ht : isO h0 a0 10) (k : Int32 → AH → Option (Int32 × AH)) (hk : ∀ (x4 : Int32) (h : AH), k x4 h = some (rr, hh) → WA p l e rmX10_lay s m args below meth c (MQ below (QG G b0 h0 (some (.int rr)) hh) args s (rmX10_lay).cells (rmX10_lay).slots (AB b0)) G b0 6 h0 0 0 h 106 [(0, .ref a0), (4, .int x4)] []) : ∀ (n : Nat) (x4 : Int32) (x5 : Int32) (h : AH), fX10_lay_L45 a0 x1 x2 k n x4 x5 h = some (rr, hh) → WA p l e rmX10_lay s m args below meth c (MQ below (QG G b0 h0 (some (.int rr)) hh) args s (rmX10_lay).cells (rmX10_lay).slots (AB b0)) G b0 6 h0 0 0 h 45 [(0, .ref a0), (1, .int x1), (2, .int x2), (4, .int x4), (5, .int x5)] [] := by
  intro n
  induction n with
  | zero =>
    intro x4 x5 h hf
    rw [fX10_lay_L45] at hf
    cases hf
  | succ n ih =>
    intro x4 x5 h hf
    rw [fX10_lay_L45] at hf
    refine r_iload K 4 dX10_lay_45 rfl ?_
    refine r_aload_n K 0 dX10_lay_47 rfl ?_
    obtain ⟨r12, e13, hf⟩ := ob1_s hf
    refine r_callV (As := []) (rest := [.int x5]) (st1 := [.int r12, .int x5]) (cells1 := 0) (slots1 := 0) (b := a0) (ci := 10) K (fun z => mX10_roadMany l z e13) dX10_lay_48 rfl (fun z => z _ _ ht) rfl ceX10_roadMany q_1028 q_1030 q_33 q_85 q_1031 ⟨Nat.le_of_ble_eq_true rfl, Nat.le_of_ble_eq_true rfl⟩ (Nat.le_of_ble_eq_true rfl) ⟨Nat.le_of_ble_eq_true rfl, Nat.le_of_ble_eq_true rfl⟩ ?_ rfl rfl rfl rfl
    refine r_icmp_ge (tgt := 106) K dX10_lay_51 (by decide) (fun c32 => ?_) (fun c32 => ?_)
    · replace hf := ite_t hf c32
      refine r_lv [0, 3] rfl ?_
      exact hk x4 h hf
    · replace hf := ite_f hf c32
      refine r_iload_n K 2 dX10_lay_54 rfl ?_
      refine r_if_lt (tgt := 100) K dX10_lay_55 (by decide) (fun c31 => ?_) (fun c31 => ?_)
      · replace hf := ite_t hf c31
        obtain ⟨y14, ey14, hf⟩ := bnd_g hf
        refine r_iinc (lv1 := [(5, .int y14), (0, .ref a0), (1, .int x1), (2, .int x2), (4, .int x4)]) K 4 dX10_lay_100 rfl (by rw [ey14]; rfl) (by decide) rfl ?_
        refine r_goto (tgt := 45) K dX10_lay_103 (by decide) ?_
        refine r_lv [1, 2, 3, 4, 0] rfl ?_
        exact ih x4 y14 h hf
      · replace hf := ite_f hf c31
        refine r_iload_n K 2 dX10_lay_58 rfl ?_
        refine r_i2l K dX10_lay_59 ?_
        refine r_iload K 4 dX10_lay_60 rfl ?_
        refine r_i2l K dX10_lay_62 ?_
        refine r_ladd K dX10_lay_63 ?_
        refine r_aload_n K 0 dX10_lay_64 rfl ?_
        obtain ⟨b15, e16, hf⟩ := ob1_s hf
        refine r_getR (ci := 10) (k := 25) K dX10_lay_65 inX10 rfl (by decide) rfl q_931 e16 ?_
        refine r_iload_n K 1 dX10_lay_68 rfl ?_
        obtain ⟨v17, e18, hf⟩ := ob1_s hf
        refine r_iaload K dX10_lay_69 e18 ?_
        refine r_i2l K dX10_lay_70 ?_
        refine r_lif_ge (tgt := 100) K dX10_lay_71 dX10_lay_72 (by decide) (fun c30 => ?_) (fun c30 => ?_)
        · replace hf := ite_t hf c30
          obtain ⟨y19, ey19, hf⟩ := bnd_g hf
          refine r_iinc (lv1 := [(5, .int y19), (0, .ref a0), (1, .int x1), (2, .int x2), (4, .int x4)]) K 4 dX10_lay_100 rfl (by rw [ey19]; rfl) (by decide) rfl ?_
          refine r_goto (tgt := 45) K dX10_lay_103 (by decide) ?_
          refine r_lv [1, 2, 3, 4, 0] rfl ?_
          exact ih x4 y19 h hf
        · replace hf := ite_f hf c30
          refine r_aload_n K 0 dX10_lay_75 rfl ?_
          obtain ⟨b20, e21, hf⟩ := ob1_s hf
          refine r_getR (ci := 10) (k := 26) K dX10_lay_76 inX10 rfl (by decide) rfl q_932 e21 ?_
          refine r_bipush (v := (24 : Int32)) K dX10_lay_79 (by decide) ?_
          refine r_iload_n K 1 dX10_lay_81 rfl ?_
          refine r_imul K dX10_lay_82 ?_
          refine r_iload_n K 2 dX10_lay_83 rfl ?_
          refine r_iadd K dX10_lay_84 ?_
          refine r_iload K 4 dX10_lay_85 rfl ?_
          refine r_iadd K dX10_lay_87 ?_
          refine r_aload_n K 0 dX10_lay_88 rfl ?_
          obtain ⟨b22, e23, hf⟩ := ob1_s hf
          refine r_getR (ci := 10) (k := 16) K dX10_lay_89 inX10 rfl (by decide) rfl q_922 e23 ?_
          refine r_iload K 4 dX10_lay_92 rfl ?_
          obtain ⟨v24, e25, hf⟩ := ob1_s hf
          refine r_iaload K dX10_lay_94 e25 ?_
          refine r_i2l K dX10_lay_95 ?_
          obtain ⟨g26, e27, hf⟩ := ob1_s hf
          refine r_lastore K dX10_lay_96 e27 ?_
          obtain ⟨y28, ey28, hf⟩ := bnd_g hf
          refine r_iinc (lv1 := [(4, .int y28), (0, .ref a0), (1, .int x1), (2, .int x2), (5, .int x5)]) K 3 dX10_lay_97 rfl (by rw [ey28]; rfl) (by decide) rfl ?_
          obtain ⟨y29, ey29, hf⟩ := bnd_g hf
          refine r_iinc (lv1 := [(5, .int y29), (4, .int y28), (0, .ref a0), (1, .int x1), (2, .int x2)]) K 4 dX10_lay_100 rfl (by rw [ey29]; rfl) (by decide) rfl ?_
          refine r_goto (tgt := 45) K dX10_lay_103 (by decide) ?_
          refine r_lv [2, 3, 4, 1, 0] rfl ?_
          exact ih y28 y29 g26 hf
set_option maxHeartbeats 4000000 in
set_option maxRecDepth 100000 in
theorem mX10_lay (l : Launch) {G : GG} {b0 : Nat} {h : AH} {a0 : Nat} {x1 : Int32} {x2 : Int32} {x3 : Int32} {rr : Int32} {hh : AH} (ht : isO h a0 10) (hf : fX10_lay a0 x1 x2 x3 h = some (rr, hh)) : MM l yX10_lay cX10_lay 6 (some .int) rmX10_lay G b0 h [.ref a0, .int x1, .int x2, .int x3] (some (.int rr)) hh := by
  refine MM.of (own := RX10) (lv0 := [(0, .ref a0), (1, .int x1), (2, .int x2), (3, .int x3)]) (by decide) rfl (Nat.le_of_ble_eq_true rfl) rfl ?_
  intro p e s m args below meth c K hnm
  unfold fX10_lay at hf
  refine r_iload_n K 1 dX10_lay_0 rfl ?_
  obtain ⟨r1, e2, hf⟩ := ob1_s hf
  refine r_callS (As := [.int x1]) (rest := []) (st1 := [.int r1]) (cells1 := 0) (slots1 := 0) K (mX10_isList l e2) dX10_lay_1 ceX10_isList q_1347 q_1348 q_85 q_1349 ⟨Nat.le_of_ble_eq_true rfl, Nat.le_of_ble_eq_true rfl⟩ (Nat.le_of_ble_eq_true rfl) ⟨Nat.le_of_ble_eq_true rfl, Nat.le_of_ble_eq_true rfl⟩ ?_ rfl rfl rfl rfl
  refine r_if_eq (tgt := 14) K dX10_lay_4 (by decide) (fun c41 => ?_) (fun c41 => ?_)
  · replace hf := ite_t hf c41
    refine r_iconst (v := (-1 : Int32)) K dX10_lay_14 (by decide) ?_
    exact r_iret K dX10_lay_15 hf (Nat.le_of_ble_eq_true rfl) (Nat.le_of_ble_eq_true rfl)
  · replace hf := ite_f hf c41
    refine r_iload_n K 3 dX10_lay_7 rfl ?_
    obtain ⟨r3, e4, hf⟩ := ob1_s hf
    refine r_callS (As := [.int x3]) (rest := []) (st1 := [.int r3]) (cells1 := 0) (slots1 := 0) K (mX10_isMode l e4) dX10_lay_8 ceX10_isMode q_1158 q_1159 q_85 q_1160 ⟨Nat.le_of_ble_eq_true rfl, Nat.le_of_ble_eq_true rfl⟩ (Nat.le_of_ble_eq_true rfl) ⟨Nat.le_of_ble_eq_true rfl, Nat.le_of_ble_eq_true rfl⟩ ?_ rfl rfl rfl rfl
    refine r_if_ne (tgt := 16) K dX10_lay_11 (by decide) (fun c40 => ?_) (fun c40 => ?_)
    · replace hf := ite_f hf c40
      refine r_aload_n K 0 dX10_lay_16 rfl ?_
      obtain ⟨b5, e6, hf⟩ := ob1_s hf
      refine r_getR (ci := 10) (k := 25) K dX10_lay_17 inX10 rfl (by decide) rfl q_931 e6 ?_
      refine r_iload_n K 1 dX10_lay_20 rfl ?_
      obtain ⟨v7, e8, hf⟩ := ob1_s hf
      refine r_iaload K dX10_lay_21 e8 ?_
      refine r_if_ge (tgt := 28) K dX10_lay_22 (by decide) (fun c39 => ?_) (fun c39 => ?_)
      · replace hf := ite_t hf c39
        refine r_aload_n K 0 dX10_lay_28 rfl ?_
        refine r_iload_n K 3 dX10_lay_29 rfl ?_
        obtain ⟨r9, g10, e11, hf⟩ := ob2_s hf
        refine r_callV (As := [.int x3]) (rest := []) (st1 := [.int r9]) (cells1 := 0) (slots1 := 0) (b := a0) (ci := 10) K (fun z => mX10_steady l z e11) dX10_lay_30 rfl (fun z => z _ _ ht) rfl ceX10_steady q_1165 q_1167 q_50 q_85 q_1168 ⟨Nat.le_of_ble_eq_true rfl, Nat.le_of_ble_eq_true rfl⟩ (Nat.le_of_ble_eq_true rfl) ⟨Nat.le_of_ble_eq_true rfl, Nat.le_of_ble_eq_true rfl⟩ ?_ rfl rfl rfl rfl
        refine r_if_ne (tgt := 39) K dX10_lay_33 (by decide) (fun c38 => ?_) (fun c38 => ?_)
        · replace hf := ite_f hf c38
          refine r_iconst (v := (0 : Int32)) K dX10_lay_39 (by decide) ?_
          refine r_istore (lv1 := [(4, .int (0 : Int32)), (0, .ref a0), (1, .int x1), (2, .int x2), (3, .int x3)]) K dX10_lay_40 (by decide) rfl ?_
          refine r_iconst (v := (0 : Int32)) K dX10_lay_42 (by decide) ?_
          refine r_istore (lv1 := [(5, .int (0 : Int32)), (4, .int (0 : Int32)), (0, .ref a0), (1, .int x1), (2, .int x2), (3, .int x3)]) K dX10_lay_43 (by decide) rfl ?_
          refine r_lv [2, 3, 4, 1, 0] rfl ?_
          refine wX10_lay_L45 K ht _ (fun y33 g34 hf => ?_) lf (0 : Int32) (0 : Int32) g10 hf
          refine r_iload K 1 dX10_lay_106 rfl ?_
          refine r_aload_n K 0 dX10_lay_108 rfl ?_
          obtain ⟨r35, e36, hf⟩ := ob1_s hf
          refine r_callV (As := []) (rest := [.int y33]) (st1 := [.int r35, .int y33]) (cells1 := 0) (slots1 := 0) (b := a0) (ci := 10) K (fun z => mX10_roadMany l z e36) dX10_lay_109 rfl (fun z => z _ _ ht) rfl ceX10_roadMany q_1028 q_1030 q_33 q_85 q_1031 ⟨Nat.le_of_ble_eq_true rfl, Nat.le_of_ble_eq_true rfl⟩ (Nat.le_of_ble_eq_true rfl) ⟨Nat.le_of_ble_eq_true rfl, Nat.le_of_ble_eq_true rfl⟩ ?_ rfl rfl rfl rfl
          refine r_icmp_ne (tgt := 120) K dX10_lay_112 (by decide) (fun c37 => ?_) (fun c37 => ?_)
          · replace hf := ite_f hf c37
            refine r_bipush (v := (-13 : Int32)) K dX10_lay_120 (by decide) ?_
            exact r_iret K dX10_lay_122 hf (Nat.le_of_ble_eq_true rfl) (Nat.le_of_ble_eq_true rfl)
          · replace hf := ite_t hf c37
            refine r_iload K 1 dX10_lay_115 rfl ?_
            refine r_goto (tgt := 122) K dX10_lay_117 (by decide) ?_
            exact r_iret K dX10_lay_122 hf (Nat.le_of_ble_eq_true rfl) (Nat.le_of_ble_eq_true rfl)
        · replace hf := ite_t hf c38
          refine r_bipush (v := (-3 : Int32)) K dX10_lay_36 (by decide) ?_
          exact r_iret K dX10_lay_38 hf (Nat.le_of_ble_eq_true rfl) (Nat.le_of_ble_eq_true rfl)
      · replace hf := ite_f hf c39
        refine r_bipush (v := (-11 : Int32)) K dX10_lay_25 (by decide) ?_
        exact r_iret K dX10_lay_27 hf (Nat.le_of_ble_eq_true rfl) (Nat.le_of_ble_eq_true rfl)
    · replace hf := ite_t hf c40
      refine r_iconst (v := (-1 : Int32)) K dX10_lay_14 (by decide) ?_
      exact r_iret K dX10_lay_15 hf (Nat.le_of_ble_eq_true rfl) (Nat.le_of_ble_eq_true rfl)
