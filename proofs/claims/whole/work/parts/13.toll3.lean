theorem ceX9_tray : CE yX9_tray 3 := ⟨by decide, by decide, by decide +kernel⟩
abbrev rmX9_tray : Room := { frames := 2, cells := 0, slots := 0, locals := 41 }
def fX9_tray (a0 : Nat) (x1 : Int32) (x2 : Int32) (x3 : Int32) (h : AH) : Option (Int32 × AH) :=
  ob1 (fX9_isOneOf x1 (3 : Int32)) fun r1 =>
  if r1 = (0 : Int32) then
    some ((-1 : Int32), h)
  else
    ob1 (fX9_isKind x2) fun r3 =>
    if r3 = (0 : Int32) then
      some ((-1 : Int32), h)
    else
      if x3 ≤ (20 : Int32) then
        if (0 : Int32) ≤ x3 then
          ob1 (gR h a0 9 13) fun b5 =>
          ob1 (aR h b5 6 x1) fun b7 =>
          gd (ckO h b7 8) <|
          ob1 (fX8_become b7 x2 x3 h) fun g10 =>
          some ((1 : Int32), g10)
        else
          some ((-14 : Int32), h)
      else
        some ((-2 : Int32), h)
set_option maxHeartbeats 4000000 in
set_option maxRecDepth 100000 in
theorem mX9_tray (l : Launch) {G : GG} {b0 : Nat} {h : AH} {a0 : Nat} {x1 : Int32} {x2 : Int32} {x3 : Int32} {rr : Int32} {hh : AH} (ht : isO h a0 9) (hf : fX9_tray a0 x1 x2 x3 h = some (rr, hh)) : MM l yX9_tray cX9_tray 4 (some .int) rmX9_tray G b0 h [.ref a0, .int x1, .int x2, .int x3] (some (.int rr)) hh := by
  refine MM.of (own := RX9) (lv0 := [(0, .ref a0), (1, .int x1), (2, .int x2), (3, .int x3)]) (by decide) rfl (Nat.le_of_ble_eq_true rfl) rfl ?_
  intro p e s m args below meth c K hnm
  unfold fX9_tray at hf
  refine r_iload_n K 1 dX9_tray_0 rfl ?_
  refine r_iconst (v := (3 : Int32)) K dX9_tray_1 (by decide) ?_
  obtain ⟨r1, e2, hf⟩ := ob1_s hf
  refine r_callS (As := [.int x1, .int (3 : Int32)]) (rest := []) (st1 := [.int r1]) (cells1 := 0) (slots1 := 0) K (mX9_isOneOf l e2) dX9_tray_2 ceX9_isOneOf q_431 q_426 q_75 q_427 ⟨Nat.le_of_ble_eq_true rfl, Nat.le_of_ble_eq_true rfl⟩ (Nat.le_of_ble_eq_true rfl) ⟨Nat.le_of_ble_eq_true rfl, Nat.le_of_ble_eq_true rfl⟩ ?_ rfl rfl rfl rfl
  refine r_if_eq (tgt := 15) K dX9_tray_5 (by decide) (fun c15 => ?_) (fun c15 => ?_)
  · replace hf := ite_t hf c15
    refine r_iconst (v := (-1 : Int32)) K dX9_tray_15 (by decide) ?_
    exact r_iret K dX9_tray_16 hf (Nat.le_of_ble_eq_true rfl) (Nat.le_of_ble_eq_true rfl)
  · replace hf := ite_f hf c15
    refine r_iload_n K 2 dX9_tray_8 rfl ?_
    obtain ⟨r3, e4, hf⟩ := ob1_s hf
    refine r_callS (As := [.int x2]) (rest := []) (st1 := [.int r3]) (cells1 := 0) (slots1 := 0) K (mX9_isKind l e4) dX9_tray_9 ceX9_isKind q_428 q_429 q_75 q_430 ⟨Nat.le_of_ble_eq_true rfl, Nat.le_of_ble_eq_true rfl⟩ (Nat.le_of_ble_eq_true rfl) ⟨Nat.le_of_ble_eq_true rfl, Nat.le_of_ble_eq_true rfl⟩ ?_ rfl rfl rfl rfl
    refine r_if_ne (tgt := 17) K dX9_tray_12 (by decide) (fun c14 => ?_) (fun c14 => ?_)
    · replace hf := ite_f hf c14
      refine r_iload_n K 3 dX9_tray_17 rfl ?_
      refine r_bipush (v := (20 : Int32)) K dX9_tray_18 (by decide) ?_
      refine r_icmp_le (tgt := 26) K dX9_tray_20 (by decide) (fun c13 => ?_) (fun c13 => ?_)
      · replace hf := ite_t hf c13
        refine r_iload_n K 3 dX9_tray_26 rfl ?_
        refine r_if_ge (tgt := 33) K dX9_tray_27 (by decide) (fun c12 => ?_) (fun c12 => ?_)
        · replace hf := ite_t hf c12
          refine r_aload_n K 0 dX9_tray_33 rfl ?_
          obtain ⟨b5, e6, hf⟩ := ob1_s hf
          refine r_getR (ci := 9) (k := 13) K dX9_tray_34 inX9 rfl (by decide) rfl q_370 e6 ?_
          refine r_iload_n K 1 dX9_tray_37 rfl ?_
          obtain ⟨b7, e8, hf⟩ := ob1_s hf
          refine r_aaload (kd := 6) (ty := .object RX8) K dX9_tray_38 rfl rfl e8 ?_
          refine r_iload_n K 2 dX9_tray_39 rfl ?_
          refine r_iload_n K 3 dX9_tray_40 rfl ?_
          obtain ⟨z9, hf⟩ := gd_s hf
          obtain ⟨g10, e11, hf⟩ := ob1_s hf
          refine r_callV (As := [.int x2, .int x3]) (rest := []) (st1 := []) (cells1 := 0) (slots1 := 0) (b := b7) (ci := 8) K (fun z => mX8_become l z e11) dX9_tray_41 rfl (fun _ => isO_of z9) rfl ceX8_become q_836 q_837 q_838 q_83 q_839 ⟨Nat.le_of_ble_eq_true rfl, Nat.le_of_ble_eq_true rfl⟩ (Nat.le_of_ble_eq_true rfl) ⟨Nat.le_of_ble_eq_true rfl, Nat.le_of_ble_eq_true rfl⟩ ?_ rfl rfl rfl rfl
          refine r_iconst (v := (1 : Int32)) K dX9_tray_44 (by decide) ?_
          exact r_iret K dX9_tray_45 hf (Nat.le_of_ble_eq_true rfl) (Nat.le_of_ble_eq_true rfl)
        · replace hf := ite_f hf c12
          refine r_bipush (v := (-14 : Int32)) K dX9_tray_30 (by decide) ?_
          exact r_iret K dX9_tray_32 hf (Nat.le_of_ble_eq_true rfl) (Nat.le_of_ble_eq_true rfl)
      · replace hf := ite_f hf c13
        refine r_bipush (v := (-2 : Int32)) K dX9_tray_23 (by decide) ?_
        exact r_iret K dX9_tray_25 hf (Nat.le_of_ble_eq_true rfl) (Nat.le_of_ble_eq_true rfl)
    · replace hf := ite_t hf c14
      refine r_iconst (v := (-1 : Int32)) K dX9_tray_15 (by decide) ?_
      exact r_iret K dX9_tray_16 hf (Nat.le_of_ble_eq_true rfl) (Nat.le_of_ble_eq_true rfl)
theorem ceX9_lays : CE yX9_lays 3 := ⟨by decide, by decide, by decide +kernel⟩
abbrev rmX9_lays : Room := { frames := 2, cells := 0, slots := 0, locals := 42 }
def fX9_lays (a0 : Nat) (x1 : Int32) (x2 : Int32) (x3 : Int32) (h : AH) : Option (Int32 × AH) :=
  ob1 (fX9_isOneOf x1 (3 : Int32)) fun r1 =>
  if r1 = (0 : Int32) then
    some ((-1 : Int32), h)
  else
    bnd (
      ob1 (gR h a0 9 13) fun b4 =>
      ob1 (aR h b4 6 x1) fun b6 =>
      gd (ckO h b6 8) <|
      ob1 (fX8_isMissing b6 h) fun r9 =>
      if r9 = (0 : Int32) then
        ob1 (gI h b6 8 0) fun v11 =>
        ob1 (fX9_isOneOf x2 v11) fun r13 =>
        if r13 = (0 : Int32) then
          some ((-13 : Int32), h)
        else
          ob1 (gR h a0 9 0) fun b15 =>
          gd (ckO h b15 1) <|
          ob1 (fX1_hasRoad b15 x3 h) fun r18 =>
          bnd (fun (v21 : Option Nat) =>
            bnd (
              ob1 (gR h b6 8 2) fun b23 =>
              ob1 (sQ h b23 4 x2 v21) fun g25 =>
              some ((1 : Int32), g25)
            ) fun j22 =>
            oc v21 (
              j22
            ) fun b27 =>
            ob1 (gI h b27 3 2) fun v28 =>
            ob1 (gI h b6 8 1) fun v30 =>
            if v30 ≤ v28 then
              j22
            else
              some ((-16 : Int32), h)
          ) fun j20 =>
          if r18 = (0 : Int32) then
            j20 none
          else
            ob1 (gR h a0 9 0) fun b33 =>
            ob1 (gR h b33 1 2) fun b35 =>
            ob1 (aR h b35 4 x3) fun b37 =>
            j20 (some b37)
      else
        some ((-11 : Int32), h)
    ) fun j3 =>
    if x3 = (-1 : Int32) then
      j3
    else
      ob1 (gR h a0 9 0) fun b42 =>
      gd (ckO h b42 1) <|
      ob1 (fX1_hasRoad b42 x3 h) fun r45 =>
      if r45 = (0 : Int32) then
        some ((-1 : Int32), h)
      else
        j3
set_option maxHeartbeats 4000000 in
set_option maxRecDepth 100000 in
theorem mX9_lays (l : Launch) {G : GG} {b0 : Nat} {h : AH} {a0 : Nat} {x1 : Int32} {x2 : Int32} {x3 : Int32} {rr : Int32} {hh : AH} (ht : isO h a0 9) (hf : fX9_lays a0 x1 x2 x3 h = some (rr, hh)) : MM l yX9_lays cX9_lays 6 (some .int) rmX9_lays G b0 h [.ref a0, .int x1, .int x2, .int x3] (some (.int rr)) hh := by
  refine MM.of (own := RX9) (lv0 := [(0, .ref a0), (1, .int x1), (2, .int x2), (3, .int x3)]) (by decide) rfl (Nat.le_of_ble_eq_true rfl) rfl ?_
  intro p e s m args below meth c K hnm
  unfold fX9_lays at hf
  refine r_iload_n K 1 dX9_lays_0 rfl ?_
  refine r_iconst (v := (3 : Int32)) K dX9_lays_1 (by decide) ?_
  obtain ⟨r1, e2, hf⟩ := ob1_s hf
  refine r_callS (As := [.int x1, .int (3 : Int32)]) (rest := []) (st1 := [.int r1]) (cells1 := 0) (slots1 := 0) K (mX9_isOneOf l e2) dX9_lays_2 ceX9_isOneOf q_431 q_426 q_75 q_427 ⟨Nat.le_of_ble_eq_true rfl, Nat.le_of_ble_eq_true rfl⟩ (Nat.le_of_ble_eq_true rfl) ⟨Nat.le_of_ble_eq_true rfl, Nat.le_of_ble_eq_true rfl⟩ ?_ rfl rfl rfl rfl
  refine r_if_eq (tgt := 24) K dX9_lays_5 (by decide) (fun c49 => ?_) (fun c49 => ?_)
  · replace hf := ite_t hf c49
    refine r_iconst (v := (-1 : Int32)) K dX9_lays_24 (by decide) ?_
    exact r_iret K dX9_lays_25 hf (Nat.le_of_ble_eq_true rfl) (Nat.le_of_ble_eq_true rfl)
  · replace hf := ite_f hf c49
    refine r_iload_n K 3 dX9_lays_8 rfl ?_
    refine r_iconst (v := (-1 : Int32)) K dX9_lays_9 (by decide) ?_
    obtain ⟨j3, ej3, hf⟩ := bnd_g hf
    have Jj3 : j3 = some (rr, hh) → WA p l e rmX9_lays s m args below meth c (MQ below (QG G b0 h (some (.int rr)) hh) args s (rmX9_lays).cells (rmX9_lays).slots (AB b0)) G b0 6 h 0 0 h 26 [(0, .ref a0), (1, .int x1), (2, .int x2), (3, .int x3)] [] := by
      intro  hf
      rw [ej3] at hf
      refine r_aload_n K 0 dX9_lays_26 rfl ?_
      obtain ⟨b4, e5, hf⟩ := ob1_s hf
      refine r_getR (ci := 9) (k := 13) K dX9_lays_27 inX9 rfl (by decide) rfl q_370 e5 ?_
      refine r_iload_n K 1 dX9_lays_30 rfl ?_
      obtain ⟨b6, e7, hf⟩ := ob1_s hf
      refine r_aaload (kd := 6) (ty := .object RX8) K dX9_lays_31 rfl rfl e7 ?_
      refine r_astore (lv1 := [(4, .ref b6), (0, .ref a0), (1, .int x1), (2, .int x2), (3, .int x3)]) K dX9_lays_32 (by decide) rfl ?_
      refine r_aload K 0 dX9_lays_34 rfl ?_
      obtain ⟨z8, hf⟩ := gd_s hf
      obtain ⟨r9, e10, hf⟩ := ob1_s hf
      refine r_callV (As := []) (rest := []) (st1 := [.int r9]) (cells1 := 0) (slots1 := 0) (b := b6) (ci := 8) K (fun z => mX8_isMissing l z e10) dX9_lays_36 rfl (fun _ => isO_of z8) rfl ceX8_isMissing q_844 q_845 q_846 q_83 q_847 ⟨Nat.le_of_ble_eq_true rfl, Nat.le_of_ble_eq_true rfl⟩ (Nat.le_of_ble_eq_true rfl) ⟨Nat.le_of_ble_eq_true rfl, Nat.le_of_ble_eq_true rfl⟩ ?_ rfl rfl rfl rfl
      refine r_if_eq (tgt := 45) K dX9_lays_39 (by decide) (fun c41 => ?_) (fun c41 => ?_)
      · replace hf := ite_t hf c41
        refine r_iload_n K 3 dX9_lays_45 rfl ?_
        refine r_aload K 0 dX9_lays_46 rfl ?_
        obtain ⟨v11, e12, hf⟩ := ob1_s hf
        refine r_getI (ci := 8) (k := 0) K dX9_lays_48 inX8 rfl (by decide) rfl q_331 e12 ?_
        obtain ⟨r13, e14, hf⟩ := ob1_s hf
        refine r_callS (As := [.int x2, .int v11]) (rest := []) (st1 := [.int r13]) (cells1 := 0) (slots1 := 0) K (mX9_isOneOf l e14) dX9_lays_51 ceX9_isOneOf q_431 q_426 q_75 q_427 ⟨Nat.le_of_ble_eq_true rfl, Nat.le_of_ble_eq_true rfl⟩ (Nat.le_of_ble_eq_true rfl) ⟨Nat.le_of_ble_eq_true rfl, Nat.le_of_ble_eq_true rfl⟩ ?_ rfl rfl rfl rfl
        refine r_if_ne (tgt := 60) K dX9_lays_54 (by decide) (fun c40 => ?_) (fun c40 => ?_)
        · replace hf := ite_f hf c40
          refine r_aload_n K 1 dX9_lays_60 rfl ?_
          obtain ⟨b15, e16, hf⟩ := ob1_s hf
          refine r_getR (ci := 9) (k := 0) K dX9_lays_61 inX9 rfl (by decide) rfl q_357 e16 ?_
          refine r_iload_n K 4 dX9_lays_64 rfl ?_
          obtain ⟨z17, hf⟩ := gd_s hf
          obtain ⟨r18, e19, hf⟩ := ob1_s hf
          refine r_callV (As := [.int x3]) (rest := []) (st1 := [.int r18]) (cells1 := 0) (slots1 := 0) (b := b15) (ci := 1) K (fun z => mX1_hasRoad l z e19) dX9_lays_65 rfl (fun _ => isO_of z17) rfl ceX1_hasRoad q_448 q_449 q_450 q_76 q_451 ⟨Nat.le_of_ble_eq_true rfl, Nat.le_of_ble_eq_true rfl⟩ (Nat.le_of_ble_eq_true rfl) ⟨Nat.le_of_ble_eq_true rfl, Nat.le_of_ble_eq_true rfl⟩ ?_ rfl rfl rfl rfl
          obtain ⟨j20, ej20, hf⟩ := bnd_g hf
          have Jj20 : ∀ (v21 : Option Nat), j20 v21 = some (rr, hh) → WA p l e rmX9_lays s m args below meth c (MQ below (QG G b0 h (some (.int rr)) hh) args s (rmX9_lays).cells (rmX9_lays).slots (AB b0)) G b0 6 h 0 0 h 84 [(2, .int x2), (4, .ref b6)] [va_rf v21] := by
            intro v21 hf
            rw [ej20] at hf
            refine r_astoreQ (lv1 := [(5, va_rf v21), (2, .int x2), (4, .ref b6)]) K dX9_lays_84 (by decide) rfl ?_
            refine r_aloadQ K 0 dX9_lays_86 rfl ?_
            obtain ⟨j22, ej22, hf⟩ := bnd_g hf
            have Jj22 : j22 = some (rr, hh) → WA p l e rmX9_lays s m args below meth c (MQ below (QG G b0 h (some (.int rr)) hh) args s (rmX9_lays).cells (rmX9_lays).slots (AB b0)) G b0 6 h 0 0 h 107 [(2, .int x2), (4, .ref b6), (5, va_rf v21)] [] := by
              intro  hf
              rw [ej22] at hf
              refine r_aload K 1 dX9_lays_107 rfl ?_
              obtain ⟨b23, e24, hf⟩ := ob1_s hf
              refine r_getR (ci := 8) (k := 2) K dX9_lays_109 inX8 rfl (by decide) rfl q_335 e24 ?_
              refine r_iload_n K 0 dX9_lays_112 rfl ?_
              refine r_aloadQ K 2 dX9_lays_113 rfl ?_
              obtain ⟨g25, e26, hf⟩ := ob1_s hf
              refine r_aastore (kd := 4) (x := v21) K dX9_lays_115 rfl rfl e26 ?_
              refine r_iconst (v := (1 : Int32)) K dX9_lays_116 (by decide) ?_
              exact r_iret K dX9_lays_117 hf (Nat.le_of_ble_eq_true rfl) (Nat.le_of_ble_eq_true rfl)
            cases v21 with
            | none =>
              refine r_ifnullN (tgt := 107) K dX9_lays_88 (by decide) ?_
              refine r_lv [1, 2, 0] rfl ?_
              exact Jj22  hf
            | some b27 =>
              refine r_ifnull K dX9_lays_88 ?_
              refine r_aload K 0 dX9_lays_91 rfl ?_
              obtain ⟨v28, e29, hf⟩ := ob1_s hf
              refine r_getI (ci := 3) (k := 2) K dX9_lays_93 inX3 rfl (by decide) rfl q_123 e29 ?_
              refine r_aload K 2 dX9_lays_96 rfl ?_
              obtain ⟨v30, e31, hf⟩ := ob1_s hf
              refine r_getI (ci := 8) (k := 1) K dX9_lays_98 inX8 rfl (by decide) rfl q_333 e31 ?_
              refine r_icmp_ge (tgt := 107) K dX9_lays_101 (by decide) (fun c32 => ?_) (fun c32 => ?_)
              · replace hf := ite_t hf c32
                refine r_lv [1, 2, 0] rfl ?_
                exact Jj22  hf
              · replace hf := ite_f hf c32
                refine r_bipush (v := (-16 : Int32)) K dX9_lays_104 (by decide) ?_
                exact r_iret K dX9_lays_106 hf (Nat.le_of_ble_eq_true rfl) (Nat.le_of_ble_eq_true rfl)
          refine r_if_eq (tgt := 83) K dX9_lays_68 (by decide) (fun c39 => ?_) (fun c39 => ?_)
          · replace hf := ite_t hf c39
            refine r_null K dX9_lays_83 ?_
            refine r_lv [3, 0] rfl ?_
            exact Jj20 none hf
          · replace hf := ite_f hf c39
            refine r_aload_n K 1 dX9_lays_71 rfl ?_
            obtain ⟨b33, e34, hf⟩ := ob1_s hf
            refine r_getR (ci := 9) (k := 0) K dX9_lays_72 inX9 rfl (by decide) rfl q_357 e34 ?_
            obtain ⟨b35, e36, hf⟩ := ob1_s hf
            refine r_getR (ci := 1) (k := 2) K dX9_lays_75 inX1 rfl (by decide) rfl q_161 e36 ?_
            refine r_iload_n K 4 dX9_lays_78 rfl ?_
            obtain ⟨b37, e38, hf⟩ := ob1_s hf
            refine r_aaload (kd := 4) (ty := .object RX3) K dX9_lays_79 rfl rfl e38 ?_
            refine r_goto (tgt := 84) K dX9_lays_80 (by decide) ?_
            refine r_lv [3, 0] rfl ?_
            exact Jj20 (some b37) hf
        · replace hf := ite_t hf c40
          refine r_bipush (v := (-13 : Int32)) K dX9_lays_57 (by decide) ?_
          exact r_iret K dX9_lays_59 hf (Nat.le_of_ble_eq_true rfl) (Nat.le_of_ble_eq_true rfl)
      · replace hf := ite_f hf c41
        refine r_bipush (v := (-11 : Int32)) K dX9_lays_42 (by decide) ?_
        exact r_iret K dX9_lays_44 hf (Nat.le_of_ble_eq_true rfl) (Nat.le_of_ble_eq_true rfl)
    refine r_icmp_eq (tgt := 26) K dX9_lays_10 (by decide) (fun c48 => ?_) (fun c48 => ?_)
    · replace hf := ite_t hf c48
      exact Jj3  hf
    · replace hf := ite_f hf c48
      refine r_aload_n K 0 dX9_lays_13 rfl ?_
      obtain ⟨b42, e43, hf⟩ := ob1_s hf
      refine r_getR (ci := 9) (k := 0) K dX9_lays_14 inX9 rfl (by decide) rfl q_357 e43 ?_
      refine r_iload_n K 3 dX9_lays_17 rfl ?_
      obtain ⟨z44, hf⟩ := gd_s hf
      obtain ⟨r45, e46, hf⟩ := ob1_s hf
      refine r_callV (As := [.int x3]) (rest := []) (st1 := [.int r45]) (cells1 := 0) (slots1 := 0) (b := b42) (ci := 1) K (fun z => mX1_hasRoad l z e46) dX9_lays_18 rfl (fun _ => isO_of z44) rfl ceX1_hasRoad q_448 q_449 q_450 q_76 q_451 ⟨Nat.le_of_ble_eq_true rfl, Nat.le_of_ble_eq_true rfl⟩ (Nat.le_of_ble_eq_true rfl) ⟨Nat.le_of_ble_eq_true rfl, Nat.le_of_ble_eq_true rfl⟩ ?_ rfl rfl rfl rfl
      refine r_if_ne (tgt := 26) K dX9_lays_21 (by decide) (fun c47 => ?_) (fun c47 => ?_)
      · replace hf := ite_f hf c47
        exact Jj3  hf
      · replace hf := ite_t hf c47
        refine r_iconst (v := (-1 : Int32)) K dX9_lays_24 (by decide) ?_
        exact r_iret K dX9_lays_25 hf (Nat.le_of_ble_eq_true rfl) (Nat.le_of_ble_eq_true rfl)
theorem ceX9_laid : CE yX9_laid 3 := ⟨by decide, by decide, by decide +kernel⟩
abbrev rmX9_laid : Room := { frames := 1, cells := 0, slots := 0, locals := 23 }
def fX9_laid (a0 : Nat) (x1 : Int32) (x2 : Int32) (x3 : Int32) (h : AH) : Option Int64 :=
  ob1 (fX9_isOneOf x1 (3 : Int32)) fun r1 =>
  if r1 = (0 : Int32) then
    some (-9223372036854775808 : Int64)
  else
    ob1 (fX9_isLoad x3) fun r3 =>
    if r3 = (0 : Int32) then
      some (-9223372036854775808 : Int64)
    else
      ob1 (gR h a0 9 13) fun b5 =>
      ob1 (aR h b5 6 x1) fun b7 =>
      ob1 (gI h b7 8 0) fun v9 =>
      ob1 (fX9_isOneOf x2 v9) fun r11 =>
      if r11 = (0 : Int32) then
        some (-9223372036854775808 : Int64)
      else
        ob1 (gR h a0 9 13) fun b13 =>
        ob1 (aR h b13 6 x1) fun b15 =>
        ob1 (gR h b15 8 2) fun b17 =>
        ob1 (aQ h b17 4 x2) fun b19 =>
        oc b19 (
          some (-9223372036854775808 : Int64)
        ) fun b21 =>
        gd (ckO h b21 3) <|
        ob1 (fX3_costAt b21 x3 h) fun r23 =>
        some r23
set_option maxHeartbeats 4000000 in
set_option maxRecDepth 100000 in
theorem mX9_laid (l : Launch) {G : GG} {b0 : Nat} {h : AH} {a0 : Nat} {x1 : Int32} {x2 : Int32} {x3 : Int32} {rr : Int64} (ht : isO h a0 9) (hf : fX9_laid a0 x1 x2 x3 h = some rr) : MM l yX9_laid cX9_laid 5 (some .long) rmX9_laid G b0 h [.ref a0, .int x1, .int x2, .int x3] (some (.long rr)) h := by
  refine MM.of (own := RX9) (lv0 := [(0, .ref a0), (1, .int x1), (2, .int x2), (3, .int x3)]) (by decide) rfl (Nat.le_of_ble_eq_true rfl) rfl ?_
  intro p e s m args below meth c K hnm
  unfold fX9_laid at hf
  refine r_iload_n K 1 dX9_laid_0 rfl ?_
  refine r_iconst (v := (3 : Int32)) K dX9_laid_1 (by decide) ?_
  obtain ⟨r1, e2, hf⟩ := ob1_s hf
  refine r_callS (As := [.int x1, .int (3 : Int32)]) (rest := []) (st1 := [.int r1]) (cells1 := 0) (slots1 := 0) K (mX9_isOneOf l e2) dX9_laid_2 ceX9_isOneOf q_431 q_426 q_75 q_427 ⟨Nat.le_of_ble_eq_true rfl, Nat.le_of_ble_eq_true rfl⟩ (Nat.le_of_ble_eq_true rfl) ⟨Nat.le_of_ble_eq_true rfl, Nat.le_of_ble_eq_true rfl⟩ ?_ rfl rfl rfl rfl
  refine r_if_eq (tgt := 31) K dX9_laid_5 (by decide) (fun c27 => ?_) (fun c27 => ?_)
  · replace hf := ite_t hf c27
    refine r_ldc2 K dX9_laid_31 q_467 ?_
    exact r_lret K dX9_laid_34 (retp hf) (Nat.le_of_ble_eq_true rfl) (Nat.le_of_ble_eq_true rfl)
  · replace hf := ite_f hf c27
    refine r_iload_n K 3 dX9_laid_8 rfl ?_
    obtain ⟨r3, e4, hf⟩ := ob1_s hf
    refine r_callS (As := [.int x3]) (rest := []) (st1 := [.int r3]) (cells1 := 0) (slots1 := 0) K (mX9_isLoad l e4) dX9_laid_9 ceX9_isLoad q_472 q_473 q_75 q_474 ⟨Nat.le_of_ble_eq_true rfl, Nat.le_of_ble_eq_true rfl⟩ (Nat.le_of_ble_eq_true rfl) ⟨Nat.le_of_ble_eq_true rfl, Nat.le_of_ble_eq_true rfl⟩ ?_ rfl rfl rfl rfl
    refine r_if_eq (tgt := 31) K dX9_laid_12 (by decide) (fun c26 => ?_) (fun c26 => ?_)
    · replace hf := ite_t hf c26
      refine r_ldc2 K dX9_laid_31 q_467 ?_
      exact r_lret K dX9_laid_34 (retp hf) (Nat.le_of_ble_eq_true rfl) (Nat.le_of_ble_eq_true rfl)
    · replace hf := ite_f hf c26
      refine r_iload_n K 2 dX9_laid_15 rfl ?_
      refine r_aload_n K 0 dX9_laid_16 rfl ?_
      obtain ⟨b5, e6, hf⟩ := ob1_s hf
      refine r_getR (ci := 9) (k := 13) K dX9_laid_17 inX9 rfl (by decide) rfl q_370 e6 ?_
      refine r_iload_n K 1 dX9_laid_20 rfl ?_
      obtain ⟨b7, e8, hf⟩ := ob1_s hf
      refine r_aaload (kd := 6) (ty := .object RX8) K dX9_laid_21 rfl rfl e8 ?_
      obtain ⟨v9, e10, hf⟩ := ob1_s hf
      refine r_getI (ci := 8) (k := 0) K dX9_laid_22 inX8 rfl (by decide) rfl q_331 e10 ?_
      obtain ⟨r11, e12, hf⟩ := ob1_s hf
      refine r_callS (As := [.int x2, .int v9]) (rest := []) (st1 := [.int r11]) (cells1 := 0) (slots1 := 0) K (mX9_isOneOf l e12) dX9_laid_25 ceX9_isOneOf q_431 q_426 q_75 q_427 ⟨Nat.le_of_ble_eq_true rfl, Nat.le_of_ble_eq_true rfl⟩ (Nat.le_of_ble_eq_true rfl) ⟨Nat.le_of_ble_eq_true rfl, Nat.le_of_ble_eq_true rfl⟩ ?_ rfl rfl rfl rfl
      refine r_if_ne (tgt := 35) K dX9_laid_28 (by decide) (fun c25 => ?_) (fun c25 => ?_)
      · replace hf := ite_f hf c25
        refine r_aload_n K 0 dX9_laid_35 rfl ?_
        obtain ⟨b13, e14, hf⟩ := ob1_s hf
        refine r_getR (ci := 9) (k := 13) K dX9_laid_36 inX9 rfl (by decide) rfl q_370 e14 ?_
        refine r_iload_n K 1 dX9_laid_39 rfl ?_
        obtain ⟨b15, e16, hf⟩ := ob1_s hf
        refine r_aaload (kd := 6) (ty := .object RX8) K dX9_laid_40 rfl rfl e16 ?_
        obtain ⟨b17, e18, hf⟩ := ob1_s hf
        refine r_getR (ci := 8) (k := 2) K dX9_laid_41 inX8 rfl (by decide) rfl q_335 e18 ?_
        refine r_iload_n K 2 dX9_laid_44 rfl ?_
        obtain ⟨b19, e20, hf⟩ := ob1_s hf
        refine r_aaloadQ (kd := 4) (ty := .object RX3) K dX9_laid_45 rfl rfl e20 ?_
        refine r_astoreQ (lv1 := [(4, va_rf b19), (0, .ref a0), (1, .int x1), (2, .int x2), (3, .int x3)]) K dX9_laid_46 (by decide) rfl ?_
        refine r_aloadQ K 0 dX9_laid_48 rfl ?_
        cases b19 with
        | none =>
          refine r_ifnonnullN K dX9_laid_50 ?_
          refine r_ldc2 K dX9_laid_53 q_467 ?_
          refine r_goto (tgt := 65) K dX9_laid_56 (by decide) ?_
          exact r_lret K dX9_laid_65 (retp hf) (Nat.le_of_ble_eq_true rfl) (Nat.le_of_ble_eq_true rfl)
        | some b21 =>
          refine r_ifnonnull (tgt := 59) K dX9_laid_50 (by decide) ?_
          refine r_aload K 0 dX9_laid_59 rfl ?_
          refine r_iload_n K 4 dX9_laid_61 rfl ?_
          obtain ⟨z22, hf⟩ := gd_s hf
          obtain ⟨r23, e24, hf⟩ := ob1_s hf
          refine r_callV (As := [.int x3]) (rest := []) (st1 := [.long r23]) (cells1 := 0) (slots1 := 0) (b := b21) (ci := 3) K (fun z => mX3_costAt l z e24) dX9_laid_62 rfl (fun _ => isO_of z22) rfl ceX3_costAt q_475 q_476 q_477 q_77 q_478 ⟨Nat.le_of_ble_eq_true rfl, Nat.le_of_ble_eq_true rfl⟩ (Nat.le_of_ble_eq_true rfl) ⟨Nat.le_of_ble_eq_true rfl, Nat.le_of_ble_eq_true rfl⟩ ?_ rfl rfl rfl rfl
          exact r_lret K dX9_laid_65 (retp hf) (Nat.le_of_ble_eq_true rfl) (Nat.le_of_ble_eq_true rfl)
      · replace hf := ite_t hf c25
        refine r_ldc2 K dX9_laid_31 q_467 ?_
        exact r_lret K dX9_laid_34 (retp hf) (Nat.le_of_ble_eq_true rfl) (Nat.le_of_ble_eq_true rfl)
theorem ceX9_like : CE yX9_like 2 := ⟨by decide, by decide, by decide +kernel⟩
abbrev rmX9_like : Room := { frames := 1, cells := 0, slots := 0, locals := 22 }
def fX9_like (a0 : Nat) (x1 : Int32) (x2 : Int32) (h : AH) : Option (Int32 × AH) :=
  ob1 (fX9_isOneOf x1 (3 : Int32)) fun r1 =>
  if r1 = (0 : Int32) then
    some ((-1 : Int32), h)
  else
    ob1 (fX9_isOneOf x2 (3 : Int32)) fun r3 =>
    if r3 = (0 : Int32) then
      some ((-1 : Int32), h)
    else
      ob1 (gR h a0 9 13) fun b5 =>
      ob1 (aR h b5 6 x2) fun b7 =>
      gd (ckO h b7 8) <|
      ob1 (fX8_isMissing b7 h) fun r10 =>
      if r10 = (0 : Int32) then
        ob1 (gR h a0 9 13) fun b12 =>
        ob1 (aR h b12 6 x1) fun b14 =>
        ob1 (gR h a0 9 13) fun b16 =>
        ob1 (aR h b16 6 x2) fun b18 =>
        gd (ckO h b14 8) <|
        ob1 (fX8_copyFrom b14 b18 h) fun g21 =>
        ob1 (gR g21 a0 9 13) fun b23 =>
        ob1 (aR g21 b23 6 x1) fun b25 =>
        ob1 (gI g21 b25 8 0) fun v27 =>
        some (v27, g21)
      else
        some ((-11 : Int32), h)
set_option maxHeartbeats 4000000 in
set_option maxRecDepth 100000 in
theorem mX9_like (l : Launch) {G : GG} {b0 : Nat} {h : AH} {a0 : Nat} {x1 : Int32} {x2 : Int32} {rr : Int32} {hh : AH} (ht : isO h a0 9) (hf : fX9_like a0 x1 x2 h = some (rr, hh)) : MM l yX9_like cX9_like 3 (some .int) rmX9_like G b0 h [.ref a0, .int x1, .int x2] (some (.int rr)) hh := by
  refine MM.of (own := RX9) (lv0 := [(0, .ref a0), (1, .int x1), (2, .int x2)]) (by decide) rfl (Nat.le_of_ble_eq_true rfl) rfl ?_
  intro p e s m args below meth c K hnm
  unfold fX9_like at hf
  refine r_iload_n K 1 dX9_like_0 rfl ?_
  refine r_iconst (v := (3 : Int32)) K dX9_like_1 (by decide) ?_
  obtain ⟨r1, e2, hf⟩ := ob1_s hf
  refine r_callS (As := [.int x1, .int (3 : Int32)]) (rest := []) (st1 := [.int r1]) (cells1 := 0) (slots1 := 0) K (mX9_isOneOf l e2) dX9_like_2 ceX9_isOneOf q_431 q_426 q_75 q_427 ⟨Nat.le_of_ble_eq_true rfl, Nat.le_of_ble_eq_true rfl⟩ (Nat.le_of_ble_eq_true rfl) ⟨Nat.le_of_ble_eq_true rfl, Nat.le_of_ble_eq_true rfl⟩ ?_ rfl rfl rfl rfl
  refine r_if_eq (tgt := 16) K dX9_like_5 (by decide) (fun c31 => ?_) (fun c31 => ?_)
  · replace hf := ite_t hf c31
    refine r_iconst (v := (-1 : Int32)) K dX9_like_16 (by decide) ?_
    exact r_iret K dX9_like_17 hf (Nat.le_of_ble_eq_true rfl) (Nat.le_of_ble_eq_true rfl)
  · replace hf := ite_f hf c31
    refine r_iload_n K 2 dX9_like_8 rfl ?_
    refine r_iconst (v := (3 : Int32)) K dX9_like_9 (by decide) ?_
    obtain ⟨r3, e4, hf⟩ := ob1_s hf
    refine r_callS (As := [.int x2, .int (3 : Int32)]) (rest := []) (st1 := [.int r3]) (cells1 := 0) (slots1 := 0) K (mX9_isOneOf l e4) dX9_like_10 ceX9_isOneOf q_431 q_426 q_75 q_427 ⟨Nat.le_of_ble_eq_true rfl, Nat.le_of_ble_eq_true rfl⟩ (Nat.le_of_ble_eq_true rfl) ⟨Nat.le_of_ble_eq_true rfl, Nat.le_of_ble_eq_true rfl⟩ ?_ rfl rfl rfl rfl
    refine r_if_ne (tgt := 18) K dX9_like_13 (by decide) (fun c30 => ?_) (fun c30 => ?_)
    · replace hf := ite_f hf c30
      refine r_aload_n K 0 dX9_like_18 rfl ?_
      obtain ⟨b5, e6, hf⟩ := ob1_s hf
      refine r_getR (ci := 9) (k := 13) K dX9_like_19 inX9 rfl (by decide) rfl q_370 e6 ?_
      refine r_iload_n K 2 dX9_like_22 rfl ?_
      obtain ⟨b7, e8, hf⟩ := ob1_s hf
      refine r_aaload (kd := 6) (ty := .object RX8) K dX9_like_23 rfl rfl e8 ?_
      obtain ⟨z9, hf⟩ := gd_s hf
      obtain ⟨r10, e11, hf⟩ := ob1_s hf
      refine r_callV (As := []) (rest := []) (st1 := [.int r10]) (cells1 := 0) (slots1 := 0) (b := b7) (ci := 8) K (fun z => mX8_isMissing l z e11) dX9_like_24 rfl (fun _ => isO_of z9) rfl ceX8_isMissing q_844 q_845 q_846 q_83 q_847 ⟨Nat.le_of_ble_eq_true rfl, Nat.le_of_ble_eq_true rfl⟩ (Nat.le_of_ble_eq_true rfl) ⟨Nat.le_of_ble_eq_true rfl, Nat.le_of_ble_eq_true rfl⟩ ?_ rfl rfl rfl rfl
      refine r_if_eq (tgt := 33) K dX9_like_27 (by decide) (fun c29 => ?_) (fun c29 => ?_)
      · replace hf := ite_t hf c29
        refine r_aload_n K 0 dX9_like_33 rfl ?_
        obtain ⟨b12, e13, hf⟩ := ob1_s hf
        refine r_getR (ci := 9) (k := 13) K dX9_like_34 inX9 rfl (by decide) rfl q_370 e13 ?_
        refine r_iload_n K 1 dX9_like_37 rfl ?_
        obtain ⟨b14, e15, hf⟩ := ob1_s hf
        refine r_aaload (kd := 6) (ty := .object RX8) K dX9_like_38 rfl rfl e15 ?_
        refine r_aload_n K 0 dX9_like_39 rfl ?_
        obtain ⟨b16, e17, hf⟩ := ob1_s hf
        refine r_getR (ci := 9) (k := 13) K dX9_like_40 inX9 rfl (by decide) rfl q_370 e17 ?_
        refine r_iload_n K 2 dX9_like_43 rfl ?_
        obtain ⟨b18, e19, hf⟩ := ob1_s hf
        refine r_aaload (kd := 6) (ty := .object RX8) K dX9_like_44 rfl rfl e19 ?_
        obtain ⟨z20, hf⟩ := gd_s hf
        obtain ⟨g21, e22, hf⟩ := ob1_s hf
        refine r_callV (As := [.ref b18]) (rest := []) (st1 := []) (cells1 := 0) (slots1 := 0) (b := b14) (ci := 8) K (fun z => mX8_copyFrom l z e22) dX9_like_45 rfl (fun _ => isO_of z20) rfl ceX8_copyFrom q_856 q_857 q_858 q_83 q_859 ⟨Nat.le_of_ble_eq_true rfl, Nat.le_of_ble_eq_true rfl⟩ (Nat.le_of_ble_eq_true rfl) ⟨Nat.le_of_ble_eq_true rfl, Nat.le_of_ble_eq_true rfl⟩ ?_ rfl rfl rfl rfl
        refine r_aload_n K 0 dX9_like_48 rfl ?_
        obtain ⟨b23, e24, hf⟩ := ob1_s hf
        refine r_getR (ci := 9) (k := 13) K dX9_like_49 inX9 rfl (by decide) rfl q_370 e24 ?_
        refine r_iload_n K 1 dX9_like_52 rfl ?_
        obtain ⟨b25, e26, hf⟩ := ob1_s hf
        refine r_aaload (kd := 6) (ty := .object RX8) K dX9_like_53 rfl rfl e26 ?_
        obtain ⟨v27, e28, hf⟩ := ob1_s hf
        refine r_getI (ci := 8) (k := 0) K dX9_like_54 inX8 rfl (by decide) rfl q_331 e28 ?_
        exact r_iret K dX9_like_57 hf (Nat.le_of_ble_eq_true rfl) (Nat.le_of_ble_eq_true rfl)
      · replace hf := ite_f hf c29
        refine r_bipush (v := (-11 : Int32)) K dX9_like_30 (by decide) ?_
        exact r_iret K dX9_like_32 hf (Nat.le_of_ble_eq_true rfl) (Nat.le_of_ble_eq_true rfl)
    · replace hf := ite_t hf c30
      refine r_iconst (v := (-1 : Int32)) K dX9_like_16 (by decide) ?_
      exact r_iret K dX9_like_17 hf (Nat.le_of_ble_eq_true rfl) (Nat.le_of_ble_eq_true rfl)
theorem ceX9_told : CE yX9_told 1 := ⟨by decide, by decide, by decide +kernel⟩
abbrev rmX9_told : Room := { frames := 1, cells := 0, slots := 0, locals := 23 }
def fX9_told (a0 : Nat) (x1 : Int32) (h : AH) : Option Int64 :=
  if x1 = (0 : Int32) then
    ob1 (gR h a0 9 0) fun b1 =>
    ob1 (gI h b1 1 0) fun v3 =>
    some (Int32.toInt64 v3)
  else
  if x1 = (1 : Int32) then
    ob1 (gR h a0 9 0) fun b6 =>
    ob1 (gI h b6 1 1) fun v8 =>
    some (Int32.toInt64 v8)
  else
  if x1 = (2 : Int32) then
    ob1 (gR h a0 9 0) fun b11 =>
    gd (ckO h b11 1) <|
    ob1 (fX1_countDrivers b11 h) fun r14 =>
    some (Int32.toInt64 r14)
  else
  if x1 = (3 : Int32) then
    ob1 (gR h a0 9 12) fun b17 =>
    ob1 (gI h b17 7 0) fun v19 =>
    some (Int32.toInt64 v19)
  else
  if x1 = (4 : Int32) then
    ob1 (gR h a0 9 0) fun b22 =>
    gd (ckO h b22 1) <|
    ob1 (fX1_sumOfTolls b22 h) fun r25 =>
    some r25
  else
  some (-9223372036854775808 : Int64)
set_option maxHeartbeats 4000000 in
set_option maxRecDepth 100000 in
theorem mX9_told (l : Launch) {G : GG} {b0 : Nat} {h : AH} {a0 : Nat} {x1 : Int32} {rr : Int64} (ht : isO h a0 9) (hf : fX9_told a0 x1 h = some rr) : MM l yX9_told cX9_told 2 (some .long) rmX9_told G b0 h [.ref a0, .int x1] (some (.long rr)) h := by
  refine MM.of (own := RX9) (lv0 := [(0, .ref a0), (1, .int x1)]) (by decide) rfl (Nat.le_of_ble_eq_true rfl) rfl ?_
  intro p e s m args below meth c K hnm
  unfold fX9_told at hf
  refine r_iload_n K 1 dX9_told_0 rfl ?_
  by_cases c5 : x1 = (0 : Int32)
  · replace hf := ite_t hf c5
    refine r_tin (v := (0 : Int32)) (tgt := 36) K dX9_told_1 c5 (by decide) (by decide) rfl (by decide) ?_
    refine r_aload_n K 0 dX9_told_36 rfl ?_
    obtain ⟨b1, e2, hf⟩ := ob1_s hf
    refine r_getR (ci := 9) (k := 0) K dX9_told_37 inX9 rfl (by decide) rfl q_357 e2 ?_
    obtain ⟨v3, e4, hf⟩ := ob1_s hf
    refine r_getI (ci := 1) (k := 0) K dX9_told_40 inX1 rfl (by decide) rfl q_150 e4 ?_
    refine r_i2l K dX9_told_43 ?_
    exact r_lret K dX9_told_44 (retp hf) (Nat.le_of_ble_eq_true rfl) (Nat.le_of_ble_eq_true rfl)
  replace hf := ite_f hf c5
  by_cases c10 : x1 = (1 : Int32)
  · replace hf := ite_t hf c10
    refine r_tin (v := (1 : Int32)) (tgt := 45) K dX9_told_1 c10 (by decide) (by decide) rfl (by decide) ?_
    refine r_aload_n K 0 dX9_told_45 rfl ?_
    obtain ⟨b6, e7, hf⟩ := ob1_s hf
    refine r_getR (ci := 9) (k := 0) K dX9_told_46 inX9 rfl (by decide) rfl q_357 e7 ?_
    obtain ⟨v8, e9, hf⟩ := ob1_s hf
    refine r_getI (ci := 1) (k := 1) K dX9_told_49 inX1 rfl (by decide) rfl q_154 e9 ?_
    refine r_i2l K dX9_told_52 ?_
    exact r_lret K dX9_told_53 (retp hf) (Nat.le_of_ble_eq_true rfl) (Nat.le_of_ble_eq_true rfl)
  replace hf := ite_f hf c10
  by_cases c16 : x1 = (2 : Int32)
  · replace hf := ite_t hf c16
    refine r_tin (v := (2 : Int32)) (tgt := 54) K dX9_told_1 c16 (by decide) (by decide) rfl (by decide) ?_
    refine r_aload_n K 0 dX9_told_54 rfl ?_
    obtain ⟨b11, e12, hf⟩ := ob1_s hf
    refine r_getR (ci := 9) (k := 0) K dX9_told_55 inX9 rfl (by decide) rfl q_357 e12 ?_
    obtain ⟨z13, hf⟩ := gd_s hf
    obtain ⟨r14, e15, hf⟩ := ob1_s hf
    refine r_callV (As := []) (rest := []) (st1 := [.int r14]) (cells1 := 0) (slots1 := 0) (b := b11) (ci := 1) K (fun z => mX1_countDrivers l z e15) dX9_told_58 rfl (fun _ => isO_of z13) rfl ceX1_countDrivers q_864 q_865 q_866 q_76 q_867 ⟨Nat.le_of_ble_eq_true rfl, Nat.le_of_ble_eq_true rfl⟩ (Nat.le_of_ble_eq_true rfl) ⟨Nat.le_of_ble_eq_true rfl, Nat.le_of_ble_eq_true rfl⟩ ?_ rfl rfl rfl rfl
    refine r_i2l K dX9_told_61 ?_
    exact r_lret K dX9_told_62 (retp hf) (Nat.le_of_ble_eq_true rfl) (Nat.le_of_ble_eq_true rfl)
  replace hf := ite_f hf c16
  by_cases c21 : x1 = (3 : Int32)
  · replace hf := ite_t hf c21
    refine r_tin (v := (3 : Int32)) (tgt := 63) K dX9_told_1 c21 (by decide) (by decide) rfl (by decide) ?_
    refine r_aload_n K 0 dX9_told_63 rfl ?_
    obtain ⟨b17, e18, hf⟩ := ob1_s hf
    refine r_getR (ci := 9) (k := 12) K dX9_told_64 inX9 rfl (by decide) rfl q_369 e18 ?_
    obtain ⟨v19, e20, hf⟩ := ob1_s hf
    refine r_getI (ci := 7) (k := 0) K dX9_told_67 inX7 rfl (by decide) rfl q_305 e20 ?_
    refine r_i2l K dX9_told_70 ?_
    exact r_lret K dX9_told_71 (retp hf) (Nat.le_of_ble_eq_true rfl) (Nat.le_of_ble_eq_true rfl)
  replace hf := ite_f hf c21
  by_cases c27 : x1 = (4 : Int32)
  · replace hf := ite_t hf c27
    refine r_tin (v := (4 : Int32)) (tgt := 72) K dX9_told_1 c27 (by decide) (by decide) rfl (by decide) ?_
    refine r_aload_n K 0 dX9_told_72 rfl ?_
    obtain ⟨b22, e23, hf⟩ := ob1_s hf
    refine r_getR (ci := 9) (k := 0) K dX9_told_73 inX9 rfl (by decide) rfl q_357 e23 ?_
    obtain ⟨z24, hf⟩ := gd_s hf
    obtain ⟨r25, e26, hf⟩ := ob1_s hf
    refine r_callV (As := []) (rest := []) (st1 := [.long r25]) (cells1 := 0) (slots1 := 0) (b := b22) (ci := 1) K (fun z => mX1_sumOfTolls l z e26) dX9_told_76 rfl (fun _ => isO_of z24) rfl ceX1_sumOfTolls q_868 q_869 q_870 q_76 q_871 ⟨Nat.le_of_ble_eq_true rfl, Nat.le_of_ble_eq_true rfl⟩ (Nat.le_of_ble_eq_true rfl) ⟨Nat.le_of_ble_eq_true rfl, Nat.le_of_ble_eq_true rfl⟩ ?_ rfl rfl rfl rfl
    exact r_lret K dX9_told_79 (retp hf) (Nat.le_of_ble_eq_true rfl) (Nat.le_of_ble_eq_true rfl)
  replace hf := ite_f hf c27
  refine r_tout (N := 5) (tgt := 80) K dX9_told_1 (fun j hj => by match j, hj with | 0, _ => exact c5 | 1, _ => exact c10 | 2, _ => exact c16 | 3, _ => exact c21 | 4, _ => exact c27) (by decide) (by decide) (by decide) ?_
  refine r_ldc2 K dX9_told_80 q_467 ?_
  exact r_lret K dX9_told_83 (retp hf) (Nat.le_of_ble_eq_true rfl) (Nat.le_of_ble_eq_true rfl)
theorem ceX9_list : CE yX9_list 2 := ⟨by decide, by decide, by decide +kernel⟩
abbrev rmX9_list : Room := { frames := 2, cells := 0, slots := 0, locals := 45 }
def fX9_list (a0 : Nat) (x1 : Int32) (x2 : Int32) (h : AH) : Option (Int32 × AH) :=
  ob1 (fX9_isOneOf x1 (4 : Int32)) fun r1 =>
  if r1 = (0 : Int32) then
    some ((-1 : Int32), h)
  else
    if x2 ≤ (24 : Int32) then
      if (0 : Int32) ≤ x2 then
        ob1 (gR h a0 9 14) fun b3 =>
        ob1 (aR h b3 7 x1) fun b5 =>
        gd (ckO h b5 4) <|
        ob1 (fX4_become b5 x2 h) fun g8 =>
        some ((1 : Int32), g8)
      else
        some ((-14 : Int32), h)
    else
      some ((-2 : Int32), h)
set_option maxHeartbeats 4000000 in
set_option maxRecDepth 100000 in
theorem mX9_list (l : Launch) {G : GG} {b0 : Nat} {h : AH} {a0 : Nat} {x1 : Int32} {x2 : Int32} {rr : Int32} {hh : AH} (ht : isO h a0 9) (hf : fX9_list a0 x1 x2 h = some (rr, hh)) : MM l yX9_list cX9_list 3 (some .int) rmX9_list G b0 h [.ref a0, .int x1, .int x2] (some (.int rr)) hh := by
  refine MM.of (own := RX9) (lv0 := [(0, .ref a0), (1, .int x1), (2, .int x2)]) (by decide) rfl (Nat.le_of_ble_eq_true rfl) rfl ?_
  intro p e s m args below meth c K hnm
  unfold fX9_list at hf
  refine r_iload_n K 1 dX9_list_0 rfl ?_
  refine r_iconst (v := (4 : Int32)) K dX9_list_1 (by decide) ?_
  obtain ⟨r1, e2, hf⟩ := ob1_s hf
  refine r_callS (As := [.int x1, .int (4 : Int32)]) (rest := []) (st1 := [.int r1]) (cells1 := 0) (slots1 := 0) K (mX9_isOneOf l e2) dX9_list_2 ceX9_isOneOf q_431 q_426 q_75 q_427 ⟨Nat.le_of_ble_eq_true rfl, Nat.le_of_ble_eq_true rfl⟩ (Nat.le_of_ble_eq_true rfl) ⟨Nat.le_of_ble_eq_true rfl, Nat.le_of_ble_eq_true rfl⟩ ?_ rfl rfl rfl rfl
  refine r_if_ne (tgt := 10) K dX9_list_5 (by decide) (fun c12 => ?_) (fun c12 => ?_)
  · replace hf := ite_f hf c12
    refine r_iload_n K 2 dX9_list_10 rfl ?_
    refine r_bipush (v := (24 : Int32)) K dX9_list_11 (by decide) ?_
    refine r_icmp_le (tgt := 19) K dX9_list_13 (by decide) (fun c11 => ?_) (fun c11 => ?_)
    · replace hf := ite_t hf c11
      refine r_iload_n K 2 dX9_list_19 rfl ?_
      refine r_if_ge (tgt := 26) K dX9_list_20 (by decide) (fun c10 => ?_) (fun c10 => ?_)
      · replace hf := ite_t hf c10
        refine r_aload_n K 0 dX9_list_26 rfl ?_
        obtain ⟨b3, e4, hf⟩ := ob1_s hf
        refine r_getR (ci := 9) (k := 14) K dX9_list_27 inX9 rfl (by decide) rfl q_371 e4 ?_
        refine r_iload_n K 1 dX9_list_30 rfl ?_
        obtain ⟨b5, e6, hf⟩ := ob1_s hf
        refine r_aaload (kd := 7) (ty := .object RX4) K dX9_list_31 rfl rfl e6 ?_
        refine r_iload_n K 2 dX9_list_32 rfl ?_
        obtain ⟨z7, hf⟩ := gd_s hf
        obtain ⟨g8, e9, hf⟩ := ob1_s hf
        refine r_callV (As := [.int x2]) (rest := []) (st1 := []) (cells1 := 0) (slots1 := 0) (b := b5) (ci := 4) K (fun z => mX4_become l z e9) dX9_list_33 rfl (fun _ => isO_of z7) rfl ceX4_become q_876 q_877 q_878 q_84 q_879 ⟨Nat.le_of_ble_eq_true rfl, Nat.le_of_ble_eq_true rfl⟩ (Nat.le_of_ble_eq_true rfl) ⟨Nat.le_of_ble_eq_true rfl, Nat.le_of_ble_eq_true rfl⟩ ?_ rfl rfl rfl rfl
        refine r_iconst (v := (1 : Int32)) K dX9_list_36 (by decide) ?_
        exact r_iret K dX9_list_37 hf (Nat.le_of_ble_eq_true rfl) (Nat.le_of_ble_eq_true rfl)
      · replace hf := ite_f hf c10
        refine r_bipush (v := (-14 : Int32)) K dX9_list_23 (by decide) ?_
        exact r_iret K dX9_list_25 hf (Nat.le_of_ble_eq_true rfl) (Nat.le_of_ble_eq_true rfl)
    · replace hf := ite_f hf c11
      refine r_bipush (v := (-2 : Int32)) K dX9_list_16 (by decide) ?_
      exact r_iret K dX9_list_18 hf (Nat.le_of_ble_eq_true rfl) (Nat.le_of_ble_eq_true rfl)
  · replace hf := ite_t hf c12
    refine r_iconst (v := (-1 : Int32)) K dX9_list_8 (by decide) ?_
    exact r_iret K dX9_list_9 hf (Nat.le_of_ble_eq_true rfl) (Nat.le_of_ble_eq_true rfl)
theorem ceX9_set : CE yX9_set 3 := ⟨by decide, by decide, by decide +kernel⟩
abbrev rmX9_set : Room := { frames := 1, cells := 0, slots := 0, locals := 21 }
def fX9_set (a0 : Nat) (x1 : Int32) (x2 : Int32) (x3 : Int64) (h : AH) : Option (Int32 × AH) :=
  ob1 (fX9_isOneOf x1 (4 : Int32)) fun r1 =>
  if r1 = (0 : Int32) then
    some ((-1 : Int32), h)
  else
    ob1 (gR h a0 9 14) fun b3 =>
    ob1 (aR h b3 7 x1) fun b5 =>
    gd (ckO h b5 4) <|
    ob1 (fX4_isMissing b5 h) fun r8 =>
    if r8 = (0 : Int32) then
      ob1 (gR h a0 9 14) fun b10 =>
      ob1 (aR h b10 7 x1) fun b12 =>
      ob1 (gI h b12 4 0) fun v14 =>
      ob1 (fX9_isOneOf x2 v14) fun r16 =>
      if r16 = (0 : Int32) then
        some ((-13 : Int32), h)
      else
        ob1 (gR h a0 9 14) fun b18 =>
        ob1 (aR h b18 7 x1) fun b20 =>
        ob1 (gR h b20 4 1) fun b22 =>
        ob1 (sL h b22 x2 x3) fun g24 =>
        some ((1 : Int32), g24)
    else
      some ((-11 : Int32), h)
set_option maxHeartbeats 4000000 in
set_option maxRecDepth 100000 in
theorem mX9_set (l : Launch) {G : GG} {b0 : Nat} {h : AH} {a0 : Nat} {x1 : Int32} {x2 : Int32} {x3 : Int64} {rr : Int32} {hh : AH} (ht : isO h a0 9) (hf : fX9_set a0 x1 x2 x3 h = some (rr, hh)) : MM l yX9_set cX9_set 5 (some .int) rmX9_set G b0 h [.ref a0, .int x1, .int x2, .long x3] (some (.int rr)) hh := by
  refine MM.of (own := RX9) (lv0 := [(0, .ref a0), (1, .int x1), (2, .int x2), (3, .long x3)]) (by decide) rfl (Nat.le_of_ble_eq_true rfl) rfl ?_
  intro p e s m args below meth c K hnm
  unfold fX9_set at hf
  refine r_iload_n K 1 dX9_set_0 rfl ?_
  refine r_iconst (v := (4 : Int32)) K dX9_set_1 (by decide) ?_
  obtain ⟨r1, e2, hf⟩ := ob1_s hf
  refine r_callS (As := [.int x1, .int (4 : Int32)]) (rest := []) (st1 := [.int r1]) (cells1 := 0) (slots1 := 0) K (mX9_isOneOf l e2) dX9_set_2 ceX9_isOneOf q_431 q_426 q_75 q_427 ⟨Nat.le_of_ble_eq_true rfl, Nat.le_of_ble_eq_true rfl⟩ (Nat.le_of_ble_eq_true rfl) ⟨Nat.le_of_ble_eq_true rfl, Nat.le_of_ble_eq_true rfl⟩ ?_ rfl rfl rfl rfl
  refine r_if_ne (tgt := 10) K dX9_set_5 (by decide) (fun c28 => ?_) (fun c28 => ?_)
  · replace hf := ite_f hf c28
    refine r_aload_n K 0 dX9_set_10 rfl ?_
    obtain ⟨b3, e4, hf⟩ := ob1_s hf
    refine r_getR (ci := 9) (k := 14) K dX9_set_11 inX9 rfl (by decide) rfl q_371 e4 ?_
    refine r_iload_n K 1 dX9_set_14 rfl ?_
    obtain ⟨b5, e6, hf⟩ := ob1_s hf
    refine r_aaload (kd := 7) (ty := .object RX4) K dX9_set_15 rfl rfl e6 ?_
    obtain ⟨z7, hf⟩ := gd_s hf
    obtain ⟨r8, e9, hf⟩ := ob1_s hf
    refine r_callV (As := []) (rest := []) (st1 := [.int r8]) (cells1 := 0) (slots1 := 0) (b := b5) (ci := 4) K (fun z => mX4_isMissing l z e9) dX9_set_16 rfl (fun _ => isO_of z7) rfl ceX4_isMissing q_806 q_807 q_808 q_84 q_809 ⟨Nat.le_of_ble_eq_true rfl, Nat.le_of_ble_eq_true rfl⟩ (Nat.le_of_ble_eq_true rfl) ⟨Nat.le_of_ble_eq_true rfl, Nat.le_of_ble_eq_true rfl⟩ ?_ rfl rfl rfl rfl
    refine r_if_eq (tgt := 25) K dX9_set_19 (by decide) (fun c27 => ?_) (fun c27 => ?_)
    · replace hf := ite_t hf c27
      refine r_iload_n K 2 dX9_set_25 rfl ?_
      refine r_aload_n K 0 dX9_set_26 rfl ?_
      obtain ⟨b10, e11, hf⟩ := ob1_s hf
      refine r_getR (ci := 9) (k := 14) K dX9_set_27 inX9 rfl (by decide) rfl q_371 e11 ?_
      refine r_iload_n K 1 dX9_set_30 rfl ?_
      obtain ⟨b12, e13, hf⟩ := ob1_s hf
      refine r_aaload (kd := 7) (ty := .object RX4) K dX9_set_31 rfl rfl e13 ?_
      obtain ⟨v14, e15, hf⟩ := ob1_s hf
      refine r_getI (ci := 4) (k := 0) K dX9_set_32 inX4 rfl (by decide) rfl q_349 e15 ?_
      obtain ⟨r16, e17, hf⟩ := ob1_s hf
      refine r_callS (As := [.int x2, .int v14]) (rest := []) (st1 := [.int r16]) (cells1 := 0) (slots1 := 0) K (mX9_isOneOf l e17) dX9_set_35 ceX9_isOneOf q_431 q_426 q_75 q_427 ⟨Nat.le_of_ble_eq_true rfl, Nat.le_of_ble_eq_true rfl⟩ (Nat.le_of_ble_eq_true rfl) ⟨Nat.le_of_ble_eq_true rfl, Nat.le_of_ble_eq_true rfl⟩ ?_ rfl rfl rfl rfl
      refine r_if_ne (tgt := 44) K dX9_set_38 (by decide) (fun c26 => ?_) (fun c26 => ?_)
      · replace hf := ite_f hf c26
        refine r_aload_n K 0 dX9_set_44 rfl ?_
        obtain ⟨b18, e19, hf⟩ := ob1_s hf
        refine r_getR (ci := 9) (k := 14) K dX9_set_45 inX9 rfl (by decide) rfl q_371 e19 ?_
        refine r_iload_n K 1 dX9_set_48 rfl ?_
        obtain ⟨b20, e21, hf⟩ := ob1_s hf
        refine r_aaload (kd := 7) (ty := .object RX4) K dX9_set_49 rfl rfl e21 ?_
        obtain ⟨b22, e23, hf⟩ := ob1_s hf
        refine r_getR (ci := 4) (k := 1) K dX9_set_50 inX4 rfl (by decide) rfl q_351 e23 ?_
        refine r_iload_n K 2 dX9_set_53 rfl ?_
        refine r_lload_n K 3 dX9_set_54 rfl ?_
        obtain ⟨g24, e25, hf⟩ := ob1_s hf
        refine r_lastore K dX9_set_55 e25 ?_
        refine r_iconst (v := (1 : Int32)) K dX9_set_56 (by decide) ?_
        exact r_iret K dX9_set_57 hf (Nat.le_of_ble_eq_true rfl) (Nat.le_of_ble_eq_true rfl)
      · replace hf := ite_t hf c26
        refine r_bipush (v := (-13 : Int32)) K dX9_set_41 (by decide) ?_
        exact r_iret K dX9_set_43 hf (Nat.le_of_ble_eq_true rfl) (Nat.le_of_ble_eq_true rfl)
    · replace hf := ite_f hf c27
      refine r_bipush (v := (-11 : Int32)) K dX9_set_22 (by decide) ?_
      exact r_iret K dX9_set_24 hf (Nat.le_of_ble_eq_true rfl) (Nat.le_of_ble_eq_true rfl)
  · replace hf := ite_t hf c28
    refine r_iconst (v := (-1 : Int32)) K dX9_set_8 (by decide) ?_
    exact r_iret K dX9_set_9 hf (Nat.le_of_ble_eq_true rfl) (Nat.le_of_ble_eq_true rfl)
theorem ceX9_get : CE yX9_get 2 := ⟨by decide, by decide, by decide +kernel⟩
abbrev rmX9_get : Room := { frames := 1, cells := 0, slots := 0, locals := 21 }
def fX9_get (a0 : Nat) (x1 : Int32) (x2 : Int32) (h : AH) : Option Int64 :=
  ob1 (fX9_isOneOf x1 (4 : Int32)) fun r1 =>
  if r1 = (0 : Int32) then
    some (-9223372036854775808 : Int64)
  else
    ob1 (gR h a0 9 14) fun b3 =>
    ob1 (aR h b3 7 x1) fun b5 =>
    ob1 (gI h b5 4 0) fun v7 =>
    ob1 (fX9_isOneOf x2 v7) fun r9 =>
    if r9 = (0 : Int32) then
      some (-9223372036854775808 : Int64)
    else
      ob1 (gR h a0 9 14) fun b11 =>
      ob1 (aR h b11 7 x1) fun b13 =>
      ob1 (gR h b13 4 1) fun b15 =>
      ob1 (aL h b15 x2) fun v17 =>
      some v17
set_option maxHeartbeats 4000000 in
set_option maxRecDepth 100000 in
theorem mX9_get (l : Launch) {G : GG} {b0 : Nat} {h : AH} {a0 : Nat} {x1 : Int32} {x2 : Int32} {rr : Int64} (ht : isO h a0 9) (hf : fX9_get a0 x1 x2 h = some rr) : MM l yX9_get cX9_get 3 (some .long) rmX9_get G b0 h [.ref a0, .int x1, .int x2] (some (.long rr)) h := by
  refine MM.of (own := RX9) (lv0 := [(0, .ref a0), (1, .int x1), (2, .int x2)]) (by decide) rfl (Nat.le_of_ble_eq_true rfl) rfl ?_
  intro p e s m args below meth c K hnm
  unfold fX9_get at hf
  refine r_iload_n K 1 dX9_get_0 rfl ?_
  refine r_iconst (v := (4 : Int32)) K dX9_get_1 (by decide) ?_
  obtain ⟨r1, e2, hf⟩ := ob1_s hf
  refine r_callS (As := [.int x1, .int (4 : Int32)]) (rest := []) (st1 := [.int r1]) (cells1 := 0) (slots1 := 0) K (mX9_isOneOf l e2) dX9_get_2 ceX9_isOneOf q_431 q_426 q_75 q_427 ⟨Nat.le_of_ble_eq_true rfl, Nat.le_of_ble_eq_true rfl⟩ (Nat.le_of_ble_eq_true rfl) ⟨Nat.le_of_ble_eq_true rfl, Nat.le_of_ble_eq_true rfl⟩ ?_ rfl rfl rfl rfl
  refine r_if_eq (tgt := 24) K dX9_get_5 (by decide) (fun c20 => ?_) (fun c20 => ?_)
  · replace hf := ite_t hf c20
    refine r_ldc2 K dX9_get_24 q_467 ?_
    exact r_lret K dX9_get_27 (retp hf) (Nat.le_of_ble_eq_true rfl) (Nat.le_of_ble_eq_true rfl)
  · replace hf := ite_f hf c20
    refine r_iload_n K 2 dX9_get_8 rfl ?_
    refine r_aload_n K 0 dX9_get_9 rfl ?_
    obtain ⟨b3, e4, hf⟩ := ob1_s hf
    refine r_getR (ci := 9) (k := 14) K dX9_get_10 inX9 rfl (by decide) rfl q_371 e4 ?_
    refine r_iload_n K 1 dX9_get_13 rfl ?_
    obtain ⟨b5, e6, hf⟩ := ob1_s hf
    refine r_aaload (kd := 7) (ty := .object RX4) K dX9_get_14 rfl rfl e6 ?_
    obtain ⟨v7, e8, hf⟩ := ob1_s hf
    refine r_getI (ci := 4) (k := 0) K dX9_get_15 inX4 rfl (by decide) rfl q_349 e8 ?_
    obtain ⟨r9, e10, hf⟩ := ob1_s hf
    refine r_callS (As := [.int x2, .int v7]) (rest := []) (st1 := [.int r9]) (cells1 := 0) (slots1 := 0) K (mX9_isOneOf l e10) dX9_get_18 ceX9_isOneOf q_431 q_426 q_75 q_427 ⟨Nat.le_of_ble_eq_true rfl, Nat.le_of_ble_eq_true rfl⟩ (Nat.le_of_ble_eq_true rfl) ⟨Nat.le_of_ble_eq_true rfl, Nat.le_of_ble_eq_true rfl⟩ ?_ rfl rfl rfl rfl
    refine r_if_ne (tgt := 28) K dX9_get_21 (by decide) (fun c19 => ?_) (fun c19 => ?_)
    · replace hf := ite_f hf c19
      refine r_aload_n K 0 dX9_get_28 rfl ?_
      obtain ⟨b11, e12, hf⟩ := ob1_s hf
      refine r_getR (ci := 9) (k := 14) K dX9_get_29 inX9 rfl (by decide) rfl q_371 e12 ?_
      refine r_iload_n K 1 dX9_get_32 rfl ?_
      obtain ⟨b13, e14, hf⟩ := ob1_s hf
      refine r_aaload (kd := 7) (ty := .object RX4) K dX9_get_33 rfl rfl e14 ?_
      obtain ⟨b15, e16, hf⟩ := ob1_s hf
      refine r_getR (ci := 4) (k := 1) K dX9_get_34 inX4 rfl (by decide) rfl q_351 e16 ?_
      refine r_iload_n K 2 dX9_get_37 rfl ?_
      obtain ⟨v17, e18, hf⟩ := ob1_s hf
      refine r_laload K dX9_get_38 e18 ?_
      exact r_lret K dX9_get_39 (retp hf) (Nat.le_of_ble_eq_true rfl) (Nat.le_of_ble_eq_true rfl)
    · replace hf := ite_t hf c19
      refine r_ldc2 K dX9_get_24 q_467 ?_
      exact r_lret K dX9_get_27 (retp hf) (Nat.le_of_ble_eq_true rfl) (Nat.le_of_ble_eq_true rfl)
theorem ceX9_image : CE yX9_image 0 := ⟨by decide, by decide, by decide +kernel⟩
abbrev rmX9_image : Room := { frames := 2, cells := 0, slots := 0, locals := 81 }
def fX9_image (a0 : Nat) (h : AH) : Option (Int32 × AH) :=
  ob1 (gR h a0 9 1) fun b1 =>
  ob1 (gR h a0 9 0) fun b3 =>
  gd (ckO h b1 1) <|
  ob1 (fX1_copyFrom b1 b3 h) fun g6 =>
  ob1 (pV g6 a0 9 2 (.int (1 : Int32))) fun g8 =>
  ob1 (gR g8 a0 9 1) fun b10 =>
  ob1 (gI g8 b10 1 1) fun v12 =>
  some (v12, g8)
set_option maxHeartbeats 4000000 in
set_option maxRecDepth 100000 in
theorem mX9_image (l : Launch) {G : GG} {b0 : Nat} {h : AH} {a0 : Nat} {rr : Int32} {hh : AH} (ht : isO h a0 9) (hf : fX9_image a0 h = some (rr, hh)) : MM l yX9_image cX9_image 1 (some .int) rmX9_image G b0 h [.ref a0] (some (.int rr)) hh := by
  refine MM.of (own := RX9) (lv0 := [(0, .ref a0)]) (by decide) rfl (Nat.le_of_ble_eq_true rfl) rfl ?_
  intro p e s m args below meth c K hnm
  unfold fX9_image at hf
  refine r_aload_n K 0 dX9_image_0 rfl ?_
  obtain ⟨b1, e2, hf⟩ := ob1_s hf
  refine r_getR (ci := 9) (k := 1) K dX9_image_1 inX9 rfl (by decide) rfl q_358 e2 ?_
  refine r_aload_n K 0 dX9_image_4 rfl ?_
  obtain ⟨b3, e4, hf⟩ := ob1_s hf
  refine r_getR (ci := 9) (k := 0) K dX9_image_5 inX9 rfl (by decide) rfl q_357 e4 ?_
  obtain ⟨z5, hf⟩ := gd_s hf
  obtain ⟨g6, e7, hf⟩ := ob1_s hf
  refine r_callV (As := [.ref b3]) (rest := []) (st1 := []) (cells1 := 0) (slots1 := 0) (b := b1) (ci := 1) K (fun z => mX1_copyFrom l z e7) dX9_image_8 rfl (fun _ => isO_of z5) rfl ceX1_copyFrom q_511 q_512 q_513 q_76 q_514 ⟨Nat.le_of_ble_eq_true rfl, Nat.le_of_ble_eq_true rfl⟩ (Nat.le_of_ble_eq_true rfl) ⟨Nat.le_of_ble_eq_true rfl, Nat.le_of_ble_eq_true rfl⟩ ?_ rfl rfl rfl rfl
  refine r_aload_n K 0 dX9_image_11 rfl ?_
  refine r_iconst (v := (1 : Int32)) K dX9_image_12 (by decide) ?_
  obtain ⟨g8, e9, hf⟩ := ob1_s hf
  refine r_putV (ci := 9) (k := 2) (ty0 := tyX9) (ty := tyX9 2) K dX9_image_13 inX9 rfl (by decide) rfl q_359 tyX9_ok nmX9 rfl rfl rfl rfl e9 ?_
  refine r_aload_n K 0 dX9_image_16 rfl ?_
  obtain ⟨b10, e11, hf⟩ := ob1_s hf
  refine r_getR (ci := 9) (k := 1) K dX9_image_17 inX9 rfl (by decide) rfl q_358 e11 ?_
  obtain ⟨v12, e13, hf⟩ := ob1_s hf
  refine r_getI (ci := 1) (k := 1) K dX9_image_20 inX1 rfl (by decide) rfl q_154 e13 ?_
  exact r_iret K dX9_image_23 hf (Nat.le_of_ble_eq_true rfl) (Nat.le_of_ble_eq_true rfl)
theorem ceX9_undo : CE yX9_undo 0 := ⟨by decide, by decide, by decide +kernel⟩
abbrev rmX9_undo : Room := { frames := 2, cells := 0, slots := 0, locals := 81 }
def fX9_undo (a0 : Nat) (h : AH) : Option (Int32 × AH) :=
  ob1 (gI h a0 9 2) fun v1 =>
  if v1 = (0 : Int32) then
    some ((-3 : Int32), h)
  else
    ob1 (gR h a0 9 0) fun b3 =>
    ob1 (gR h a0 9 1) fun b5 =>
    gd (ckO h b3 1) <|
    ob1 (fX1_copyFrom b3 b5 h) fun g8 =>
    ob1 (fX9_changed a0 g8) fun g10 =>
    ob1 (gR g10 a0 9 0) fun b12 =>
    ob1 (gI g10 b12 1 1) fun v14 =>
    some (v14, g10)
set_option maxHeartbeats 4000000 in
set_option maxRecDepth 100000 in
theorem mX9_undo (l : Launch) {G : GG} {b0 : Nat} {h : AH} {a0 : Nat} {rr : Int32} {hh : AH} (ht : isO h a0 9) (hf : fX9_undo a0 h = some (rr, hh)) : MM l yX9_undo cX9_undo 1 (some .int) rmX9_undo G b0 h [.ref a0] (some (.int rr)) hh := by
  refine MM.of (own := RX9) (lv0 := [(0, .ref a0)]) (by decide) rfl (Nat.le_of_ble_eq_true rfl) rfl ?_
  intro p e s m args below meth c K hnm
  unfold fX9_undo at hf
  refine r_aload_n K 0 dX9_undo_0 rfl ?_
  obtain ⟨v1, e2, hf⟩ := ob1_s hf
  refine r_getI (ci := 9) (k := 2) K dX9_undo_1 inX9 rfl (by decide) rfl q_359 e2 ?_
  refine r_if_ne (tgt := 10) K dX9_undo_4 (by decide) (fun c16 => ?_) (fun c16 => ?_)
  · replace hf := ite_f hf c16
    refine r_aload_n K 0 dX9_undo_10 rfl ?_
    obtain ⟨b3, e4, hf⟩ := ob1_s hf
    refine r_getR (ci := 9) (k := 0) K dX9_undo_11 inX9 rfl (by decide) rfl q_357 e4 ?_
    refine r_aload_n K 0 dX9_undo_14 rfl ?_
    obtain ⟨b5, e6, hf⟩ := ob1_s hf
    refine r_getR (ci := 9) (k := 1) K dX9_undo_15 inX9 rfl (by decide) rfl q_358 e6 ?_
    obtain ⟨z7, hf⟩ := gd_s hf
    obtain ⟨g8, e9, hf⟩ := ob1_s hf
    refine r_callV (As := [.ref b5]) (rest := []) (st1 := []) (cells1 := 0) (slots1 := 0) (b := b3) (ci := 1) K (fun z => mX1_copyFrom l z e9) dX9_undo_18 rfl (fun _ => isO_of z7) rfl ceX1_copyFrom q_511 q_512 q_513 q_76 q_514 ⟨Nat.le_of_ble_eq_true rfl, Nat.le_of_ble_eq_true rfl⟩ (Nat.le_of_ble_eq_true rfl) ⟨Nat.le_of_ble_eq_true rfl, Nat.le_of_ble_eq_true rfl⟩ ?_ rfl rfl rfl rfl
    refine r_aload_n K 0 dX9_undo_21 rfl ?_
    obtain ⟨g10, e11, hf⟩ := ob1_s hf
    refine r_callV (As := []) (rest := []) (st1 := []) (cells1 := 0) (slots1 := 0) (b := a0) (ci := 9) K (fun z => mX9_changed l z e11) dX9_undo_22 rfl (fun z => z _ _ ht) rfl ceX9_changed q_413 q_415 q_0 q_75 q_416 ⟨Nat.le_of_ble_eq_true rfl, Nat.le_of_ble_eq_true rfl⟩ (Nat.le_of_ble_eq_true rfl) ⟨Nat.le_of_ble_eq_true rfl, Nat.le_of_ble_eq_true rfl⟩ ?_ rfl rfl rfl rfl
    refine r_aload_n K 0 dX9_undo_25 rfl ?_
    obtain ⟨b12, e13, hf⟩ := ob1_s hf
    refine r_getR (ci := 9) (k := 0) K dX9_undo_26 inX9 rfl (by decide) rfl q_357 e13 ?_
    obtain ⟨v14, e15, hf⟩ := ob1_s hf
    refine r_getI (ci := 1) (k := 1) K dX9_undo_29 inX1 rfl (by decide) rfl q_154 e15 ?_
    exact r_iret K dX9_undo_32 hf (Nat.le_of_ble_eq_true rfl) (Nat.le_of_ble_eq_true rfl)
  · replace hf := ite_t hf c16
    refine r_bipush (v := (-3 : Int32)) K dX9_undo_7 (by decide) ?_
    exact r_iret K dX9_undo_9 hf (Nat.le_of_ble_eq_true rfl) (Nat.le_of_ble_eq_true rfl)
