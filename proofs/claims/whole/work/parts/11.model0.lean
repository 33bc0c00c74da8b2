theorem ceX10_init : CE yX10_init 0 := ⟨by decide, by decide, by decide +kernel⟩
abbrev rmX10_init : Room := { frames := 1, cells := 23, slots := 10018, locals := 20 }
def fX10_init_L230 (a0 : Nat) (k : AH → Option AH) : Nat → Int32 → AH → Option AH
  | 0, _, _ => none
  | n + 1, x1, h =>
    if (3 : Int32) ≤ x1 then
      k h
    else
      ob1 (gR h a0 10 0) fun b111 =>
      ob1 (sL h b111 ((106 : Int32) + ((4 : Int32) * x1)) (1 : Int64)) fun g113 =>
      ob1 (gR g113 a0 10 0) fun b115 =>
      ob1 (sL g113 b115 (((106 : Int32) + ((4 : Int32) * x1)) + (2 : Int32)) (1 : Int64)) fun g117 =>
      ob1 (gR g117 a0 10 0) fun b119 =>
      ob1 (sL g117 b119 (((106 : Int32) + ((4 : Int32) * x1)) + (3 : Int32)) (1 : Int64)) fun g121 =>
      bnd (x1 + (1 : Int32)) fun y123 =>
      fX10_init_L230 a0 k n y123 g121
def fX10_init (a0 : Nat) (h : AH) : Option AH :=
  bnd h.1 fun b1 =>
  bnd (hnew h (.inl (1, 118, .inr (.inl (fun _ => 0))))) fun g2 =>
  ob1 (pV g2 a0 10 0 (.ref b1)) fun g3 =>
  bnd g3.1 fun b5 =>
  bnd (hnew g3 (.inl (1, 118, .inr (.inl (fun _ => 0))))) fun g6 =>
  ob1 (pV g6 a0 10 1 (.ref b5)) fun g7 =>
  bnd g7.1 fun b9 =>
  bnd (hnew g7 (.inl (1, 118, .inr (.inl (fun _ => 0))))) fun g10 =>
  ob1 (pV g10 a0 10 2 (.ref b9)) fun g11 =>
  bnd g11.1 fun b13 =>
  bnd (hnew g11 (.inl (0, 100, .inl (fun _ => 0)))) fun g14 =>
  ob1 (pV g14 a0 10 4 (.ref b13)) fun g15 =>
  bnd g15.1 fun b17 =>
  bnd (hnew g15 (.inl (0, 91, .inl (fun _ => 0)))) fun g18 =>
  ob1 (pV g18 a0 10 8 (.ref b17)) fun g19 =>
  bnd g19.1 fun b21 =>
  bnd (hnew g19 (.inl (0, 3, .inl (fun _ => 0)))) fun g22 =>
  ob1 (pV g22 a0 10 10 (.ref b21)) fun g23 =>
  bnd g23.1 fun b25 =>
  bnd (hnew g23 (.inl (0, 768, .inl (fun _ => 0)))) fun g26 =>
  ob1 (pV g26 a0 10 11 (.ref b25)) fun g27 =>
  bnd g27.1 fun b29 =>
  bnd (hnew g27 (.inl (0, 3840, .inl (fun _ => 0)))) fun g30 =>
  ob1 (pV g30 a0 10 12 (.ref b29)) fun g31 =>
  bnd g31.1 fun b33 =>
  bnd (hnew g31 (.inl (0, 2560, .inl (fun _ => 0)))) fun g34 =>
  ob1 (pV g34 a0 10 13 (.ref b33)) fun g35 =>
  bnd g35.1 fun b37 =>
  bnd (hnew g35 (.inl (0, 512, .inl (fun _ => 0)))) fun g38 =>
  ob1 (pV g38 a0 10 14 (.ref b37)) fun g39 =>
  bnd g39.1 fun b41 =>
  bnd (hnew g39 (.inl (0, 512, .inl (fun _ => 0)))) fun g42 =>
  ob1 (pV g42 a0 10 15 (.ref b41)) fun g43 =>
  bnd g43.1 fun b45 =>
  bnd (hnew g43 (.inl (0, 13, .inl (fun _ => 0)))) fun g46 =>
  ob1 (pV g46 a0 10 16 (.ref b45)) fun g47 =>
  bnd g47.1 fun b49 =>
  bnd (hnew g47 (.inl (0, 768, .inl (fun _ => 0)))) fun g50 =>
  ob1 (pV g50 a0 10 17 (.ref b49)) fun g51 =>
  bnd g51.1 fun b53 =>
  bnd (hnew g51 (.inl (0, 13, .inl (fun _ => 0)))) fun g54 =>
  ob1 (pV g54 a0 10 21 (.ref b53)) fun g55 =>
  bnd g55.1 fun b57 =>
  bnd (hnew g55 (.inl (0, 6, .inl (fun _ => 0)))) fun g58 =>
  ob1 (pV g58 a0 10 22 (.ref b57)) fun g59 =>
  bnd g59.1 fun b61 =>
  bnd (hnew g59 (.inl (1, 6, .inr (.inl (fun _ => 0))))) fun g62 =>
  ob1 (pV g62 a0 10 23 (.ref b61)) fun g63 =>
  bnd g63.1 fun b65 =>
  bnd (hnew g63 (.inl (0, 6, .inl (fun _ => 0)))) fun g66 =>
  ob1 (pV g66 a0 10 24 (.ref b65)) fun g67 =>
  bnd g67.1 fun b69 =>
  bnd (hnew g67 (.inl (0, 4, .inl (fun _ => 0)))) fun g70 =>
  ob1 (sI g70 b69 (0 : Int32) (-1 : Int32)) fun g71 =>
  ob1 (sI g71 b69 (1 : Int32) (-1 : Int32)) fun g73 =>
  ob1 (sI g73 b69 (2 : Int32) (-1 : Int32)) fun g75 =>
  ob1 (sI g75 b69 (3 : Int32) (-1 : Int32)) fun g77 =>
  ob1 (pV g77 a0 10 25 (.ref b69)) fun g79 =>
  bnd g79.1 fun b81 =>
  bnd (hnew g79 (.inl (1, 96, .inr (.inl (fun _ => 0))))) fun g82 =>
  ob1 (pV g82 a0 10 26 (.ref b81)) fun g83 =>
  bnd g83.1 fun b85 =>
  bnd (hnew g83 (.inl (0, 3, .inl (fun _ => 0)))) fun g86 =>
  ob1 (sI g86 b85 (0 : Int32) (-1 : Int32)) fun g87 =>
  ob1 (sI g87 b85 (1 : Int32) (-1 : Int32)) fun g89 =>
  ob1 (sI g89 b85 (2 : Int32) (-1 : Int32)) fun g91 =>
  ob1 (pV g91 a0 10 27 (.ref b85)) fun g93 =>
  bnd g93.1 fun b95 =>
  bnd (hnew g93 (.inl (0, 3, .inl (fun _ => 0)))) fun g96 =>
  ob1 (pV g96 a0 10 28 (.ref b95)) fun g97 =>
  bnd g97.1 fun b99 =>
  bnd (hnew g97 (.inl (2, 60, .inl (fun _ => 0)))) fun g100 =>
  ob1 (pV g100 a0 10 29 (.ref b99)) fun g101 =>
  bnd g101.1 fun b103 =>
  bnd (hnew g101 (.inl (1, 300, .inr (.inl (fun _ => 0))))) fun g104 =>
  ob1 (pV g104 a0 10 30 (.ref b103)) fun g105 =>
  ob1 (gR g105 a0 10 0) fun b107 =>
  ob1 (sL g105 b107 (0 : Int32) (2 : Int64)) fun g109 =>
  fX10_init_L230 a0 (fun (g125 : AH) =>
    some g125
  ) lf (0 : Int32) g109
set_option maxHeartbeats 4000000 in
set_option maxRecDepth 100000 in
theorem wX10_init_L230 {p : Program} {l : Launch} {e : Env} {s : State} {m : MethodId} {args : Array Value} {below : List Frame} {meth : Method} {c : Code} {G : GG} {b0 : Nat} {h0 : AH} {a0 : Nat} {hh : AH} (K : CX p s m args meth c cX10_init 2 RX10 (none) G b0) (ht : isO h0 a0 10) (k : AH → Option AH) (hk : ∀ (h : AH), k h = some hh → WA p l e rmX10_init s m args below meth c (MQ below (QG G b0 h0 none hh) args s (rmX10_init).cells (rmX10_init).slots (AB b0)) G b0 2 h0 23 10018 h 281 [] []) : ∀ (n : Nat) (x1 : Int32) (h : AH), fX10_init_L230 a0 k n x1 h = some hh → WA p l e rmX10_init s m args below meth c (MQ below (QG G b0 h0 none hh) args s (rmX10_init).cells (rmX10_init).slots (AB b0)) G b0 2 h0 23 10018 h 230 [(0, .ref a0), (1, .int x1)] [] := by
  intro n
  induction n with
  | zero =>
    intro x1 h hf
    rw [fX10_init_L230] at hf
    cases hf
  | succ n ih =>
    intro x1 h hf
    rw [fX10_init_L230] at hf
    refine r_iload_n K 1 dX10_init_230 rfl ?_
    refine r_iconst (v := (3 : Int32)) K dX10_init_231 (by decide) ?_
    refine r_icmp_ge (tgt := 281) K dX10_init_232 (by decide) (fun c124 => ?_) (fun c124 => ?_)
    · replace hf := ite_t hf c124
      refine r_lv [] rfl ?_
      exact hk h hf
    · replace hf := ite_f hf c124
      refine r_aload_n K 0 dX10_init_235 rfl ?_
      obtain ⟨b111, e112, hf⟩ := ob1_s hf
      refine r_getR (ci := 10) (k := 0) K dX10_init_236 inX10 rfl (by decide) rfl q_906 e112 ?_
      refine r_bipush (v := (106 : Int32)) K dX10_init_239 (by decide) ?_
      refine r_iconst (v := (4 : Int32)) K dX10_init_241 (by decide) ?_
      refine r_iload_n K 1 dX10_init_242 rfl ?_
      refine r_imul K dX10_init_243 ?_
      refine r_iadd K dX10_init_244 ?_
      refine r_lconst (v := (1 : Int64)) K dX10_init_245 (by decide) ?_
      obtain ⟨g113, e114, hf⟩ := ob1_s hf
      refine r_lastore K dX10_init_246 e114 ?_
      refine r_aload_n K 0 dX10_init_247 rfl ?_
      obtain ⟨b115, e116, hf⟩ := ob1_s hf
      refine r_getR (ci := 10) (k := 0) K dX10_init_248 inX10 rfl (by decide) rfl q_906 e116 ?_
      refine r_bipush (v := (106 : Int32)) K dX10_init_251 (by decide) ?_
      refine r_iconst (v := (4 : Int32)) K dX10_init_253 (by decide) ?_
      refine r_iload_n K 1 dX10_init_254 rfl ?_
      refine r_imul K dX10_init_255 ?_
      refine r_iadd K dX10_init_256 ?_
      refine r_iconst (v := (2 : Int32)) K dX10_init_257 (by decide) ?_
      refine r_iadd K dX10_init_258 ?_
      refine r_lconst (v := (1 : Int64)) K dX10_init_259 (by decide) ?_
      obtain ⟨g117, e118, hf⟩ := ob1_s hf
      refine r_lastore K dX10_init_260 e118 ?_
      refine r_aload_n K 0 dX10_init_261 rfl ?_
      obtain ⟨b119, e120, hf⟩ := ob1_s hf
      refine r_getR (ci := 10) (k := 0) K dX10_init_262 inX10 rfl (by decide) rfl q_906 e120 ?_
      refine r_bipush (v := (106 : Int32)) K dX10_init_265 (by decide) ?_
      refine r_iconst (v := (4 : Int32)) K dX10_init_267 (by decide) ?_
      refine r_iload_n K 1 dX10_init_268 rfl ?_
      refine r_imul K dX10_init_269 ?_
      refine r_iadd K dX10_init_270 ?_
      refine r_iconst (v := (3 : Int32)) K dX10_init_271 (by decide) ?_
      refine r_iadd K dX10_init_272 ?_
      refine r_lconst (v := (1 : Int64)) K dX10_init_273 (by decide) ?_
      obtain ⟨g121, e122, hf⟩ := ob1_s hf
      refine r_lastore K dX10_init_274 e122 ?_
      obtain ⟨y123, ey123, hf⟩ := bnd_g hf
      refine r_iinc (lv1 := [(1, .int y123), (0, .ref a0)]) K 1 dX10_init_275 rfl (by rw [ey123]; rfl) (by decide) rfl ?_
      refine r_goto (tgt := 230) K dX10_init_278 (by decide) ?_
      refine r_lv [1, 0] rfl ?_
      exact ih y123 g121 hf
set_option maxHeartbeats 4000000 in
set_option maxRecDepth 100000 in
theorem mX10_init (l : Launch) {G : GG} {b0 : Nat} {h : AH} {a0 : Nat} {hh : AH} (ht : isO h a0 10) (hf : fX10_init a0 h = some hh) : MM l yX10_init cX10_init 2 (none) rmX10_init G b0 h [.ref a0] none hh := by
  refine MM.of (own := RX10) (lv0 := [(0, .ref a0)]) (by decide) rfl (Nat.le_of_ble_eq_true rfl) rfl ?_
  intro p e s m args below meth c K hnm
  unfold fX10_init at hf
  refine r_aload_n K 0 dX10_init_0 rfl ?_
  refine r_objInit K dX10_init_1 q_904 q_97 q_98 (Nat.le_of_ble_eq_true rfl) (Nat.le_of_ble_eq_true rfl) ?_
  refine r_aload_n K 0 dX10_init_4 rfl ?_
  refine r_bipush (v := (118 : Int32)) K dX10_init_5 (by decide) ?_
  obtain ⟨b1, eb1, hf⟩ := bnd_g hf
  obtain ⟨g2, eg2, hf⟩ := bnd_g hf
  refine r_newa1 (cells1 := 1) (slots1 := 118) K dX10_init_7 q_147 (by decide) (by decide) (by decide) eb1 eg2 rfl rfl (Nat.le_of_ble_eq_true rfl) (Nat.le_of_ble_eq_true rfl) ?_
  obtain ⟨g3, e4, hf⟩ := ob1_s hf
  refine r_putF (ci := 10) (k := 0) (ty0 := tyX10) (ty := tyX10 0) K dX10_init_9 inX10 rfl (by decide) rfl q_906 tyX10_ok nmX10 rfl hnm rfl rfl rfl rfl e4 ?_
  refine r_aload_n K 0 dX10_init_12 rfl ?_
  refine r_bipush (v := (118 : Int32)) K dX10_init_13 (by decide) ?_
  obtain ⟨b5, eb5, hf⟩ := bnd_g hf
  obtain ⟨g6, eg6, hf⟩ := bnd_g hf
  refine r_newa1 (cells1 := 2) (slots1 := 236) K dX10_init_15 q_147 (by decide) (by decide) (by decide) eb5 eg6 rfl rfl (Nat.le_of_ble_eq_true rfl) (Nat.le_of_ble_eq_true rfl) ?_
  obtain ⟨g7, e8, hf⟩ := ob1_s hf
  refine r_putF (ci := 10) (k := 1) (ty0 := tyX10) (ty := tyX10 1) K dX10_init_17 inX10 rfl (by decide) rfl q_907 tyX10_ok nmX10 rfl hnm rfl rfl rfl rfl e8 ?_
  refine r_aload_n K 0 dX10_init_20 rfl ?_
  refine r_bipush (v := (118 : Int32)) K dX10_init_21 (by decide) ?_
  obtain ⟨b9, eb9, hf⟩ := bnd_g hf
  obtain ⟨g10, eg10, hf⟩ := bnd_g hf
  refine r_newa1 (cells1 := 3) (slots1 := 354) K dX10_init_23 q_147 (by decide) (by decide) (by decide) eb9 eg10 rfl rfl (Nat.le_of_ble_eq_true rfl) (Nat.le_of_ble_eq_true rfl) ?_
  obtain ⟨g11, e12, hf⟩ := ob1_s hf
  refine r_putF (ci := 10) (k := 2) (ty0 := tyX10) (ty := tyX10 2) K dX10_init_25 inX10 rfl (by decide) rfl q_908 tyX10_ok nmX10 rfl hnm rfl rfl rfl rfl e12 ?_
  refine r_aload_n K 0 dX10_init_28 rfl ?_
  refine r_bipush (v := (100 : Int32)) K dX10_init_29 (by decide) ?_
  obtain ⟨b13, eb13, hf⟩ := bnd_g hf
  obtain ⟨g14, eg14, hf⟩ := bnd_g hf
  refine r_newa0 (cells1 := 4) (slots1 := 454) K dX10_init_31 q_148 (by decide) (by decide) (by decide) eb13 eg14 rfl rfl (Nat.le_of_ble_eq_true rfl) (Nat.le_of_ble_eq_true rfl) ?_
  obtain ⟨g15, e16, hf⟩ := ob1_s hf
  refine r_putF (ci := 10) (k := 4) (ty0 := tyX10) (ty := tyX10 4) K dX10_init_33 inX10 rfl (by decide) rfl q_910 tyX10_ok nmX10 rfl hnm rfl rfl rfl rfl e16 ?_
  refine r_aload_n K 0 dX10_init_36 rfl ?_
  refine r_bipush (v := (91 : Int32)) K dX10_init_37 (by decide) ?_
  obtain ⟨b17, eb17, hf⟩ := bnd_g hf
  obtain ⟨g18, eg18, hf⟩ := bnd_g hf
  refine r_newa0 (cells1 := 5) (slots1 := 545) K dX10_init_39 q_148 (by decide) (by decide) (by decide) eb17 eg18 rfl rfl (Nat.le_of_ble_eq_true rfl) (Nat.le_of_ble_eq_true rfl) ?_
  obtain ⟨g19, e20, hf⟩ := ob1_s hf
  refine r_putF (ci := 10) (k := 8) (ty0 := tyX10) (ty := tyX10 8) K dX10_init_41 inX10 rfl (by decide) rfl q_914 tyX10_ok nmX10 rfl hnm rfl rfl rfl rfl e20 ?_
  refine r_aload_n K 0 dX10_init_44 rfl ?_
  refine r_iconst (v := (3 : Int32)) K dX10_init_45 (by decide) ?_
  obtain ⟨b21, eb21, hf⟩ := bnd_g hf
  obtain ⟨g22, eg22, hf⟩ := bnd_g hf
  refine r_newa0 (cells1 := 6) (slots1 := 548) K dX10_init_46 q_148 (by decide) (by decide) (by decide) eb21 eg22 rfl rfl (Nat.le_of_ble_eq_true rfl) (Nat.le_of_ble_eq_true rfl) ?_
  obtain ⟨g23, e24, hf⟩ := ob1_s hf
  refine r_putF (ci := 10) (k := 10) (ty0 := tyX10) (ty := tyX10 10) K dX10_init_48 inX10 rfl (by decide) rfl q_916 tyX10_ok nmX10 rfl hnm rfl rfl rfl rfl e24 ?_
  refine r_aload_n K 0 dX10_init_51 rfl ?_
  refine r_sipush (v := (768 : Int32)) K dX10_init_52 (by decide) ?_
  obtain ⟨b25, eb25, hf⟩ := bnd_g hf
  obtain ⟨g26, eg26, hf⟩ := bnd_g hf
  refine r_newa0 (cells1 := 7) (slots1 := 1316) K dX10_init_55 q_148 (by decide) (by decide) (by decide) eb25 eg26 rfl rfl (Nat.le_of_ble_eq_true rfl) (Nat.le_of_ble_eq_true rfl) ?_
  obtain ⟨g27, e28, hf⟩ := ob1_s hf
  refine r_putF (ci := 10) (k := 11) (ty0 := tyX10) (ty := tyX10 11) K dX10_init_57 inX10 rfl (by decide) rfl q_917 tyX10_ok nmX10 rfl hnm rfl rfl rfl rfl e28 ?_
  refine r_aload_n K 0 dX10_init_60 rfl ?_
  refine r_sipush (v := (3840 : Int32)) K dX10_init_61 (by decide) ?_
  obtain ⟨b29, eb29, hf⟩ := bnd_g hf
  obtain ⟨g30, eg30, hf⟩ := bnd_g hf
  refine r_newa0 (cells1 := 8) (slots1 := 5156) K dX10_init_64 q_148 (by decide) (by decide) (by decide) eb29 eg30 rfl rfl (Nat.le_of_ble_eq_true rfl) (Nat.le_of_ble_eq_true rfl) ?_
  obtain ⟨g31, e32, hf⟩ := ob1_s hf
  refine r_putF (ci := 10) (k := 12) (ty0 := tyX10) (ty := tyX10 12) K dX10_init_66 inX10 rfl (by decide) rfl q_918 tyX10_ok nmX10 rfl hnm rfl rfl rfl rfl e32 ?_
  refine r_aload_n K 0 dX10_init_69 rfl ?_
  refine r_sipush (v := (2560 : Int32)) K dX10_init_70 (by decide) ?_
  obtain ⟨b33, eb33, hf⟩ := bnd_g hf
  obtain ⟨g34, eg34, hf⟩ := bnd_g hf
  refine r_newa0 (cells1 := 9) (slots1 := 7716) K dX10_init_73 q_148 (by decide) (by decide) (by decide) eb33 eg34 rfl rfl (Nat.le_of_ble_eq_true rfl) (Nat.le_of_ble_eq_true rfl) ?_
  obtain ⟨g35, e36, hf⟩ := ob1_s hf
  refine r_putF (ci := 10) (k := 13) (ty0 := tyX10) (ty := tyX10 13) K dX10_init_75 inX10 rfl (by decide) rfl q_919 tyX10_ok nmX10 rfl hnm rfl rfl rfl rfl e36 ?_
  refine r_aload_n K 0 dX10_init_78 rfl ?_
  refine r_sipush (v := (512 : Int32)) K dX10_init_79 (by decide) ?_
  obtain ⟨b37, eb37, hf⟩ := bnd_g hf
  obtain ⟨g38, eg38, hf⟩ := bnd_g hf
  refine r_newa0 (cells1 := 10) (slots1 := 8228) K dX10_init_82 q_148 (by decide) (by decide) (by decide) eb37 eg38 rfl rfl (Nat.le_of_ble_eq_true rfl) (Nat.le_of_ble_eq_true rfl) ?_
  obtain ⟨g39, e40, hf⟩ := ob1_s hf
  refine r_putF (ci := 10) (k := 14) (ty0 := tyX10) (ty := tyX10 14) K dX10_init_84 inX10 rfl (by decide) rfl q_920 tyX10_ok nmX10 rfl hnm rfl rfl rfl rfl e40 ?_
  refine r_aload_n K 0 dX10_init_87 rfl ?_
  refine r_sipush (v := (512 : Int32)) K dX10_init_88 (by decide) ?_
  obtain ⟨b41, eb41, hf⟩ := bnd_g hf
  obtain ⟨g42, eg42, hf⟩ := bnd_g hf
  refine r_newa0 (cells1 := 11) (slots1 := 8740) K dX10_init_91 q_148 (by decide) (by decide) (by decide) eb41 eg42 rfl rfl (Nat.le_of_ble_eq_true rfl) (Nat.le_of_ble_eq_true rfl) ?_
  obtain ⟨g43, e44, hf⟩ := ob1_s hf
  refine r_putF (ci := 10) (k := 15) (ty0 := tyX10) (ty := tyX10 15) K dX10_init_93 inX10 rfl (by decide) rfl q_921 tyX10_ok nmX10 rfl hnm rfl rfl rfl rfl e44 ?_
  refine r_aload_n K 0 dX10_init_96 rfl ?_
  refine r_bipush (v := (13 : Int32)) K dX10_init_97 (by decide) ?_
  obtain ⟨b45, eb45, hf⟩ := bnd_g hf
  obtain ⟨g46, eg46, hf⟩ := bnd_g hf
  refine r_newa0 (cells1 := 12) (slots1 := 8753) K dX10_init_99 q_148 (by decide) (by decide) (by decide) eb45 eg46 rfl rfl (Nat.le_of_ble_eq_true rfl) (Nat.le_of_ble_eq_true rfl) ?_
  obtain ⟨g47, e48, hf⟩ := ob1_s hf
  refine r_putF (ci := 10) (k := 16) (ty0 := tyX10) (ty := tyX10 16) K dX10_init_101 inX10 rfl (by decide) rfl q_922 tyX10_ok nmX10 rfl hnm rfl rfl rfl rfl e48 ?_
  refine r_aload_n K 0 dX10_init_104 rfl ?_
  refine r_sipush (v := (768 : Int32)) K dX10_init_105 (by decide) ?_
  obtain ⟨b49, eb49, hf⟩ := bnd_g hf
  obtain ⟨g50, eg50, hf⟩ := bnd_g hf
  refine r_newa0 (cells1 := 13) (slots1 := 9521) K dX10_init_108 q_148 (by decide) (by decide) (by decide) eb49 eg50 rfl rfl (Nat.le_of_ble_eq_true rfl) (Nat.le_of_ble_eq_true rfl) ?_
  obtain ⟨g51, e52, hf⟩ := ob1_s hf
  refine r_putF (ci := 10) (k := 17) (ty0 := tyX10) (ty := tyX10 17) K dX10_init_110 inX10 rfl (by decide) rfl q_923 tyX10_ok nmX10 rfl hnm rfl rfl rfl rfl e52 ?_
  refine r_aload_n K 0 dX10_init_113 rfl ?_
  refine r_bipush (v := (13 : Int32)) K dX10_init_114 (by decide) ?_
  obtain ⟨b53, eb53, hf⟩ := bnd_g hf
  obtain ⟨g54, eg54, hf⟩ := bnd_g hf
  refine r_newa0 (cells1 := 14) (slots1 := 9534) K dX10_init_116 q_148 (by decide) (by decide) (by decide) eb53 eg54 rfl rfl (Nat.le_of_ble_eq_true rfl) (Nat.le_of_ble_eq_true rfl) ?_
  obtain ⟨g55, e56, hf⟩ := ob1_s hf
  refine r_putF (ci := 10) (k := 21) (ty0 := tyX10) (ty := tyX10 21) K dX10_init_118 inX10 rfl (by decide) rfl q_927 tyX10_ok nmX10 rfl hnm rfl rfl rfl rfl e56 ?_
  refine r_aload_n K 0 dX10_init_121 rfl ?_
  refine r_bipush (v := (6 : Int32)) K dX10_init_122 (by decide) ?_
  obtain ⟨b57, eb57, hf⟩ := bnd_g hf
  obtain ⟨g58, eg58, hf⟩ := bnd_g hf
  refine r_newa0 (cells1 := 15) (slots1 := 9540) K dX10_init_124 q_148 (by decide) (by decide) (by decide) eb57 eg58 rfl rfl (Nat.le_of_ble_eq_true rfl) (Nat.le_of_ble_eq_true rfl) ?_
  obtain ⟨g59, e60, hf⟩ := ob1_s hf
  refine r_putF (ci := 10) (k := 22) (ty0 := tyX10) (ty := tyX10 22) K dX10_init_126 inX10 rfl (by decide) rfl q_928 tyX10_ok nmX10 rfl hnm rfl rfl rfl rfl e60 ?_
  refine r_aload_n K 0 dX10_init_129 rfl ?_
  refine r_bipush (v := (6 : Int32)) K dX10_init_130 (by decide) ?_
  obtain ⟨b61, eb61, hf⟩ := bnd_g hf
  obtain ⟨g62, eg62, hf⟩ := bnd_g hf
  refine r_newa1 (cells1 := 16) (slots1 := 9546) K dX10_init_132 q_147 (by decide) (by decide) (by decide) eb61 eg62 rfl rfl (Nat.le_of_ble_eq_true rfl) (Nat.le_of_ble_eq_true rfl) ?_
  obtain ⟨g63, e64, hf⟩ := ob1_s hf
  refine r_putF (ci := 10) (k := 23) (ty0 := tyX10) (ty := tyX10 23) K dX10_init_134 inX10 rfl (by decide) rfl q_929 tyX10_ok nmX10 rfl hnm rfl rfl rfl rfl e64 ?_
  refine r_aload_n K 0 dX10_init_137 rfl ?_
  refine r_bipush (v := (6 : Int32)) K dX10_init_138 (by decide) ?_
  obtain ⟨b65, eb65, hf⟩ := bnd_g hf
  obtain ⟨g66, eg66, hf⟩ := bnd_g hf
  refine r_newa0 (cells1 := 17) (slots1 := 9552) K dX10_init_140 q_148 (by decide) (by decide) (by decide) eb65 eg66 rfl rfl (Nat.le_of_ble_eq_true rfl) (Nat.le_of_ble_eq_true rfl) ?_
  obtain ⟨g67, e68, hf⟩ := ob1_s hf
  refine r_putF (ci := 10) (k := 24) (ty0 := tyX10) (ty := tyX10 24) K dX10_init_142 inX10 rfl (by decide) rfl q_930 tyX10_ok nmX10 rfl hnm rfl rfl rfl rfl e68 ?_
  refine r_aload_n K 0 dX10_init_145 rfl ?_
  refine r_iconst (v := (4 : Int32)) K dX10_init_146 (by decide) ?_
  obtain ⟨b69, eb69, hf⟩ := bnd_g hf
  obtain ⟨g70, eg70, hf⟩ := bnd_g hf
  refine r_newa0 (cells1 := 18) (slots1 := 9556) K dX10_init_147 q_148 (by decide) (by decide) (by decide) eb69 eg70 rfl rfl (Nat.le_of_ble_eq_true rfl) (Nat.le_of_ble_eq_true rfl) ?_
  refine r_dup K dX10_init_149 rfl ?_
  refine r_iconst (v := (0 : Int32)) K dX10_init_150 (by decide) ?_
  refine r_iconst (v := (-1 : Int32)) K dX10_init_151 (by decide) ?_
  obtain ⟨g71, e72, hf⟩ := ob1_s hf
  refine r_iastore K dX10_init_152 e72 ?_
  refine r_dup K dX10_init_153 rfl ?_
  refine r_iconst (v := (1 : Int32)) K dX10_init_154 (by decide) ?_
  refine r_iconst (v := (-1 : Int32)) K dX10_init_155 (by decide) ?_
  obtain ⟨g73, e74, hf⟩ := ob1_s hf
  refine r_iastore K dX10_init_156 e74 ?_
  refine r_dup K dX10_init_157 rfl ?_
  refine r_iconst (v := (2 : Int32)) K dX10_init_158 (by decide) ?_
  refine r_iconst (v := (-1 : Int32)) K dX10_init_159 (by decide) ?_
  obtain ⟨g75, e76, hf⟩ := ob1_s hf
  refine r_iastore K dX10_init_160 e76 ?_
  refine r_dup K dX10_init_161 rfl ?_
  refine r_iconst (v := (3 : Int32)) K dX10_init_162 (by decide) ?_
  refine r_iconst (v := (-1 : Int32)) K dX10_init_163 (by decide) ?_
  obtain ⟨g77, e78, hf⟩ := ob1_s hf
  refine r_iastore K dX10_init_164 e78 ?_
  obtain ⟨g79, e80, hf⟩ := ob1_s hf
  refine r_putF (ci := 10) (k := 25) (ty0 := tyX10) (ty := tyX10 25) K dX10_init_165 inX10 rfl (by decide) rfl q_931 tyX10_ok nmX10 rfl hnm rfl rfl rfl rfl e80 ?_
  refine r_aload_n K 0 dX10_init_168 rfl ?_
  refine r_bipush (v := (96 : Int32)) K dX10_init_169 (by decide) ?_
  obtain ⟨b81, eb81, hf⟩ := bnd_g hf
  obtain ⟨g82, eg82, hf⟩ := bnd_g hf
  refine r_newa1 (cells1 := 19) (slots1 := 9652) K dX10_init_171 q_147 (by decide) (by decide) (by decide) eb81 eg82 rfl rfl (Nat.le_of_ble_eq_true rfl) (Nat.le_of_ble_eq_true rfl) ?_
  obtain ⟨g83, e84, hf⟩ := ob1_s hf
  refine r_putF (ci := 10) (k := 26) (ty0 := tyX10) (ty := tyX10 26) K dX10_init_173 inX10 rfl (by decide) rfl q_932 tyX10_ok nmX10 rfl hnm rfl rfl rfl rfl e84 ?_
  refine r_aload_n K 0 dX10_init_176 rfl ?_
  refine r_iconst (v := (3 : Int32)) K dX10_init_177 (by decide) ?_
  obtain ⟨b85, eb85, hf⟩ := bnd_g hf
  obtain ⟨g86, eg86, hf⟩ := bnd_g hf
  refine r_newa0 (cells1 := 20) (slots1 := 9655) K dX10_init_178 q_148 (by decide) (by decide) (by decide) eb85 eg86 rfl rfl (Nat.le_of_ble_eq_true rfl) (Nat.le_of_ble_eq_true rfl) ?_
  refine r_dup K dX10_init_180 rfl ?_
  refine r_iconst (v := (0 : Int32)) K dX10_init_181 (by decide) ?_
  refine r_iconst (v := (-1 : Int32)) K dX10_init_182 (by decide) ?_
  obtain ⟨g87, e88, hf⟩ := ob1_s hf
  refine r_iastore K dX10_init_183 e88 ?_
  refine r_dup K dX10_init_184 rfl ?_
  refine r_iconst (v := (1 : Int32)) K dX10_init_185 (by decide) ?_
  refine r_iconst (v := (-1 : Int32)) K dX10_init_186 (by decide) ?_
  obtain ⟨g89, e90, hf⟩ := ob1_s hf
  refine r_iastore K dX10_init_187 e90 ?_
  refine r_dup K dX10_init_188 rfl ?_
  refine r_iconst (v := (2 : Int32)) K dX10_init_189 (by decide) ?_
  refine r_iconst (v := (-1 : Int32)) K dX10_init_190 (by decide) ?_
  obtain ⟨g91, e92, hf⟩ := ob1_s hf
  refine r_iastore K dX10_init_191 e92 ?_
  obtain ⟨g93, e94, hf⟩ := ob1_s hf
  refine r_putF (ci := 10) (k := 27) (ty0 := tyX10) (ty := tyX10 27) K dX10_init_192 inX10 rfl (by decide) rfl q_933 tyX10_ok nmX10 rfl hnm rfl rfl rfl rfl e94 ?_
  refine r_aload_n K 0 dX10_init_195 rfl ?_
  refine r_iconst (v := (3 : Int32)) K dX10_init_196 (by decide) ?_
  obtain ⟨b95, eb95, hf⟩ := bnd_g hf
  obtain ⟨g96, eg96, hf⟩ := bnd_g hf
  refine r_newa0 (cells1 := 21) (slots1 := 9658) K dX10_init_197 q_148 (by decide) (by decide) (by decide) eb95 eg96 rfl rfl (Nat.le_of_ble_eq_true rfl) (Nat.le_of_ble_eq_true rfl) ?_
  obtain ⟨g97, e98, hf⟩ := ob1_s hf
  refine r_putF (ci := 10) (k := 28) (ty0 := tyX10) (ty := tyX10 28) K dX10_init_199 inX10 rfl (by decide) rfl q_934 tyX10_ok nmX10 rfl hnm rfl rfl rfl rfl e98 ?_
  refine r_aload_n K 0 dX10_init_202 rfl ?_
  refine r_bipush (v := (60 : Int32)) K dX10_init_203 (by decide) ?_
  obtain ⟨b99, eb99, hf⟩ := bnd_g hf
  obtain ⟨g100, eg100, hf⟩ := bnd_g hf
  refine r_newa2 (cells1 := 22) (slots1 := 9718) K dX10_init_205 q_239 (by decide) (by decide) (by decide) eb99 eg100 rfl rfl (Nat.le_of_ble_eq_true rfl) (Nat.le_of_ble_eq_true rfl) ?_
  obtain ⟨g101, e102, hf⟩ := ob1_s hf
  refine r_putF (ci := 10) (k := 29) (ty0 := tyX10) (ty := tyX10 29) K dX10_init_207 inX10 rfl (by decide) rfl q_935 tyX10_ok nmX10 rfl hnm rfl rfl rfl rfl e102 ?_
  refine r_aload_n K 0 dX10_init_210 rfl ?_
  refine r_sipush (v := (300 : Int32)) K dX10_init_211 (by decide) ?_
  obtain ⟨b103, eb103, hf⟩ := bnd_g hf
  obtain ⟨g104, eg104, hf⟩ := bnd_g hf
  refine r_newa1 (cells1 := 23) (slots1 := 10018) K dX10_init_214 q_147 (by decide) (by decide) (by decide) eb103 eg104 rfl rfl (Nat.le_of_ble_eq_true rfl) (Nat.le_of_ble_eq_true rfl) ?_
  obtain ⟨g105, e106, hf⟩ := ob1_s hf
  refine r_putF (ci := 10) (k := 30) (ty0 := tyX10) (ty := tyX10 30) K dX10_init_216 inX10 rfl (by decide) rfl q_936 tyX10_ok nmX10 rfl hnm rfl rfl rfl rfl e106 ?_
  refine r_aload_n K 0 dX10_init_219 rfl ?_
  obtain ⟨b107, e108, hf⟩ := ob1_s hf
  refine r_getR (ci := 10) (k := 0) K dX10_init_220 inX10 rfl (by decide) rfl q_906 e108 ?_
  refine r_iconst (v := (0 : Int32)) K dX10_init_223 (by decide) ?_
  refine r_ldc2 K dX10_init_224 q_905 ?_
  obtain ⟨g109, e110, hf⟩ := ob1_s hf
  refine r_lastore K dX10_init_227 e110 ?_
  refine r_iconst (v := (0 : Int32)) K dX10_init_228 (by decide) ?_
  refine r_istore_n (lv1 := [(1, .int (0 : Int32)), (0, .ref a0)]) K dX10_init_229 (by decide) rfl ?_
  refine r_lv [1, 0] rfl ?_
  refine wX10_init_L230 K ht _ (fun g125 hf => ?_) lf (0 : Int32) g109 hf
  exact r_vret K dX10_init_281 hf (Nat.le_of_ble_eq_true rfl) (Nat.le_of_ble_eq_true rfl)
theorem ceX10_in : CE yX10_in 3 := ⟨by decide, by decide, by decide +kernel⟩
abbrev rmX10_in : Room := { frames := 0, cells := 0, slots := 0, locals := 0 }
def fX10_in (x0 : Int64) (x2 : Int64) (x4 : Int64) : Option Int32 :=
  if x0 < x2 then
    some (0 : Int32)
  else
    if x4 < x0 then
      some (0 : Int32)
    else
      some (1 : Int32)
set_option maxHeartbeats 4000000 in
set_option maxRecDepth 100000 in
theorem mX10_in (l : Launch) {G : GG} {b0 : Nat} {h : AH} {x0 : Int64} {x2 : Int64} {x4 : Int64} {rr : Int32} (hf : fX10_in x0 x2 x4 = some rr) : MM l yX10_in cX10_in 6 (some .boolean) rmX10_in G b0 h [.long x0, .long x2, .long x4] (some (.int rr)) h := by
  refine MM.of (own := RX10) (lv0 := [(0, .long x0), (2, .long x2), (4, .long x4)]) (by decide) rfl (Nat.le_of_ble_eq_true rfl) rfl ?_
  intro p e s m args below meth c K hnm
  unfold fX10_in at hf
  refine r_lload_n K 0 dX10_in_0 rfl ?_
  refine r_lload_n K 1 dX10_in_1 rfl ?_
  refine r_lif_lt (tgt := 17) K dX10_in_2 dX10_in_3 (by decide) (fun c2 => ?_) (fun c2 => ?_)
  · replace hf := ite_t hf c2
    refine r_iconst (v := (0 : Int32)) K dX10_in_17 (by decide) ?_
    exact r_zret K dX10_in_18 rfl (retp hf) (Nat.le_of_ble_eq_true rfl) (Nat.le_of_ble_eq_true rfl)
  · replace hf := ite_f hf c2
    refine r_lload_n K 0 dX10_in_6 rfl ?_
    refine r_lload K 2 dX10_in_7 rfl ?_
    refine r_lif_gt (tgt := 17) K dX10_in_9 dX10_in_10 (by decide) (fun c1 => ?_) (fun c1 => ?_)
    · replace hf := ite_t hf c1
      refine r_iconst (v := (0 : Int32)) K dX10_in_17 (by decide) ?_
      exact r_zret K dX10_in_18 rfl (retp hf) (Nat.le_of_ble_eq_true rfl) (Nat.le_of_ble_eq_true rfl)
    · replace hf := ite_f hf c1
      refine r_iconst (v := (1 : Int32)) K dX10_in_13 (by decide) ?_
      refine r_goto (tgt := 18) K dX10_in_14 (by decide) ?_
      exact r_zret K dX10_in_18 rfl (retp hf) (Nat.le_of_ble_eq_true rfl) (Nat.le_of_ble_eq_true rfl)
theorem ceX10_copies : CE yX10_copies 2 := ⟨by decide, by decide, by decide +kernel⟩
abbrev rmX10_copies : Room := { frames := 0, cells := 0, slots := 0, locals := 0 }
def fX10_copies_L2 (a0 : Nat) (a1 : Nat) (k : AH → Option AH) : Nat → Int32 → AH → Option AH
  | 0, _, _ => none
  | n + 1, x2, h =>
    if (118 : Int32) ≤ x2 then
      k h
    else
      ob1 (aL h a0 x2) fun v1 =>
      ob1 (sL h a1 x2 v1) fun g3 =>
      bnd (x2 + (1 : Int32)) fun y5 =>
      fX10_copies_L2 a0 a1 k n y5 g3
def fX10_copies (a0 : Nat) (a1 : Nat) (h : AH) : Option AH :=
  fX10_copies_L2 a0 a1 (fun (g7 : AH) =>
    some g7
  ) lf (0 : Int32) h
set_option maxHeartbeats 4000000 in
set_option maxRecDepth 100000 in
theorem wX10_copies_L2 {p : Program} {l : Launch} {e : Env} {s : State} {m : MethodId} {args : Array Value} {below : List Frame} {meth : Method} {c : Code} {G : GG} {b0 : Nat} {h0 : AH} {a0 : Nat} {a1 : Nat} {hh : AH} (K : CX p s m args meth c cX10_copies 3 RX10 (none) G b0) (k : AH → Option AH) (hk : ∀ (h : AH), k h = some hh → WA p l e rmX10_copies s m args below meth c (MQ below (QG G b0 h0 none hh) args s (rmX10_copies).cells (rmX10_copies).slots (AB b0)) G b0 3 h0 0 0 h 20 [] []) : ∀ (n : Nat) (x2 : Int32) (h : AH), fX10_copies_L2 a0 a1 k n x2 h = some hh → WA p l e rmX10_copies s m args below meth c (MQ below (QG G b0 h0 none hh) args s (rmX10_copies).cells (rmX10_copies).slots (AB b0)) G b0 3 h0 0 0 h 2 [(0, .ref a0), (1, .ref a1), (2, .int x2)] [] := by
  intro n
  induction n with
  | zero =>
    intro x2 h hf
    rw [fX10_copies_L2] at hf
    cases hf
  | succ n ih =>
    intro x2 h hf
    rw [fX10_copies_L2] at hf
    refine r_iload_n K 2 dX10_copies_2 rfl ?_
    refine r_bipush (v := (118 : Int32)) K dX10_copies_3 (by decide) ?_
    refine r_icmp_ge (tgt := 20) K dX10_copies_5 (by decide) (fun c6 => ?_) (fun c6 => ?_)
    · replace hf := ite_t hf c6
      refine r_lv [] rfl ?_
      exact hk h hf
    · replace hf := ite_f hf c6
      refine r_aload_n K 1 dX10_copies_8 rfl ?_
      refine r_iload_n K 2 dX10_copies_9 rfl ?_
      refine r_aload_n K 0 dX10_copies_10 rfl ?_
      refine r_iload_n K 2 dX10_copies_11 rfl ?_
      obtain ⟨v1, e2, hf⟩ := ob1_s hf
      refine r_laload K dX10_copies_12 e2 ?_
      obtain ⟨g3, e4, hf⟩ := ob1_s hf
      refine r_lastore K dX10_copies_13 e4 ?_
      obtain ⟨y5, ey5, hf⟩ := bnd_g hf
      refine r_iinc (lv1 := [(2, .int y5), (0, .ref a0), (1, .ref a1)]) K 2 dX10_copies_14 rfl (by rw [ey5]; rfl) (by decide) rfl ?_
      refine r_goto (tgt := 2) K dX10_copies_17 (by decide) ?_
      refine r_lv [1, 2, 0] rfl ?_
      exact ih y5 g3 hf
set_option maxHeartbeats 4000000 in
set_option maxRecDepth 100000 in
theorem mX10_copies (l : Launch) {G : GG} {b0 : Nat} {h : AH} {a0 : Nat} {a1 : Nat} {hh : AH} (hf : fX10_copies a0 a1 h = some hh) : MM l yX10_copies cX10_copies 3 (none) rmX10_copies G b0 h [.ref a0, .ref a1] none hh := by
  refine MM.of (own := RX10) (lv0 := [(0, .ref a0), (1, .ref a1)]) (by decide) rfl (Nat.le_of_ble_eq_true rfl) rfl ?_
  intro p e s m args below meth c K hnm
  unfold fX10_copies at hf
  refine r_iconst (v := (0 : Int32)) K dX10_copies_0 (by decide) ?_
  refine r_istore_n (lv1 := [(2, .int (0 : Int32)), (0, .ref a0), (1, .ref a1)]) K dX10_copies_1 (by decide) rfl ?_
  refine r_lv [1, 2, 0] rfl ?_
  refine wX10_copies_L2 K _ (fun g7 hf => ?_) lf (0 : Int32) h hf
  exact r_vret K dX10_copies_20 hf (Nat.le_of_ble_eq_true rfl) (Nat.le_of_ble_eq_true rfl)
theorem ceX10_roadMany : CE yX10_roadMany 0 := ⟨by decide, by decide, by decide +kernel⟩
abbrev rmX10_roadMany : Room := { frames := 0, cells := 0, slots := 0, locals := 0 }
def fX10_roadMany (a0 : Nat) (h : AH) : Option Int32 :=
  ob1 (gR h a0 10 0) fun b1 =>
  ob1 (aL h b1 (1 : Int32)) fun v3 =>
  some (Int64.toInt32 v3)
set_option maxHeartbeats 4000000 in
set_option maxRecDepth 100000 in
theorem mX10_roadMany (l : Launch) {G : GG} {b0 : Nat} {h : AH} {a0 : Nat} {rr : Int32} (ht : isO h a0 10) (hf : fX10_roadMany a0 h = some rr) : MM l yX10_roadMany cX10_roadMany 1 (some .int) rmX10_roadMany G b0 h [.ref a0] (some (.int rr)) h := by
  refine MM.of (own := RX10) (lv0 := [(0, .ref a0)]) (by decide) rfl (Nat.le_of_ble_eq_true rfl) rfl ?_
  intro p e s m args below meth c K hnm
  unfold fX10_roadMany at hf
  refine r_aload_n K 0 dX10_roadMany_0 rfl ?_
  obtain ⟨b1, e2, hf⟩ := ob1_s hf
  refine r_getR (ci := 10) (k := 0) K dX10_roadMany_1 inX10 rfl (by decide) rfl q_906 e2 ?_
  refine r_iconst (v := (1 : Int32)) K dX10_roadMany_4 (by decide) ?_
  obtain ⟨v3, e4, hf⟩ := ob1_s hf
  refine r_laload K dX10_roadMany_5 e4 ?_
  refine r_l2i K dX10_roadMany_6 ?_
  exact r_iret K dX10_roadMany_7 (retp hf) (Nat.le_of_ble_eq_true rfl) (Nat.le_of_ble_eq_true rfl)
theorem ceX10_isRoad : CE yX10_isRoad 1 := ⟨by decide, by decide, by decide +kernel⟩
abbrev rmX10_isRoad : Room := { frames := 1, cells := 0, slots := 0, locals := 25 }
def fX10_isRoad (a0 : Nat) (x1 : Int32) (h : AH) : Option Int32 :=
  ob1 (fX10_roadMany a0 h) fun r1 =>
  ob1 (fX10_in (Int32.toInt64 x1) (0 : Int64) (Int32.toInt64 (r1 - (1 : Int32)))) fun r3 =>
  gd (zb r3) <|
  some r3
set_option maxHeartbeats 4000000 in
set_option maxRecDepth 100000 in
theorem mX10_isRoad (l : Launch) {G : GG} {b0 : Nat} {h : AH} {a0 : Nat} {x1 : Int32} {rr : Int32} (ht : isO h a0 10) (hf : fX10_isRoad a0 x1 h = some rr) : MM l yX10_isRoad cX10_isRoad 2 (some .boolean) rmX10_isRoad G b0 h [.ref a0, .int x1] (some (.int rr)) h := by
  refine MM.of (own := RX10) (lv0 := [(0, .ref a0), (1, .int x1)]) (by decide) rfl (Nat.le_of_ble_eq_true rfl) rfl ?_
  intro p e s m args below meth c K hnm
  unfold fX10_isRoad at hf
  refine r_iload_n K 1 dX10_isRoad_0 rfl ?_
  refine r_i2l K dX10_isRoad_1 ?_
  refine r_lconst (v := (0 : Int64)) K dX10_isRoad_2 (by decide) ?_
  refine r_aload_n K 0 dX10_isRoad_3 rfl ?_
  obtain ⟨r1, e2, hf⟩ := ob1_s hf
  refine r_callV (As := []) (rest := [.long (0 : Int64), .long (Int32.toInt64 x1)]) (st1 := [.int r1, .long (0 : Int64), .long (Int32.toInt64 x1)]) (cells1 := 0) (slots1 := 0) (b := a0) (ci := 10) K (fun z => mX10_roadMany l z e2) dX10_isRoad_4 rfl (fun z => z _ _ ht) rfl ceX10_roadMany q_1028 q_1030 q_33 q_85 q_1031 ⟨Nat.le_of_ble_eq_true rfl, Nat.le_of_ble_eq_true rfl⟩ (Nat.le_of_ble_eq_true rfl) ⟨Nat.le_of_ble_eq_true rfl, Nat.le_of_ble_eq_true rfl⟩ ?_ rfl rfl rfl rfl
  refine r_iconst (v := (1 : Int32)) K dX10_isRoad_7 (by decide) ?_
  refine r_isub K dX10_isRoad_8 ?_
  refine r_i2l K dX10_isRoad_9 ?_
  obtain ⟨r3, e4, hf⟩ := ob1_s hf
  refine r_callS (As := [.long (Int32.toInt64 x1), .long (0 : Int64), .long (Int32.toInt64 (r1 - (1 : Int32)))]) (rest := []) (st1 := [.int r3]) (cells1 := 0) (slots1 := 0) K (mX10_in l e4) dX10_isRoad_10 ceX10_in q_1005 q_1006 q_85 q_1007 ⟨Nat.le_of_ble_eq_true rfl, Nat.le_of_ble_eq_true rfl⟩ (Nat.le_of_ble_eq_true rfl) ⟨Nat.le_of_ble_eq_true rfl, Nat.le_of_ble_eq_true rfl⟩ ?_ rfl rfl rfl rfl
  obtain ⟨z5, hf⟩ := gd_s hf
  exact r_zret K dX10_isRoad_13 (zb_n z5) (retp hf) (Nat.le_of_ble_eq_true rfl) (Nat.le_of_ble_eq_true rfl)
theorem ceX10_isTown : CE yX10_isTown 1 := ⟨by decide, by decide, by decide +kernel⟩
abbrev rmX10_isTown : Room := { frames := 1, cells := 0, slots := 0, locals := 25 }
def fX10_isTown (a0 : Nat) (x1 : Int32) (h : AH) : Option Int32 :=
  ob1 (gR h a0 10 0) fun b1 =>
  ob1 (aL h b1 (0 : Int32)) fun v3 =>
  ob1 (fX10_in (Int32.toInt64 x1) (0 : Int64) (v3 - (1 : Int64))) fun r5 =>
  gd (zb r5) <|
  some r5
set_option maxHeartbeats 4000000 in
set_option maxRecDepth 100000 in
theorem mX10_isTown (l : Launch) {G : GG} {b0 : Nat} {h : AH} {a0 : Nat} {x1 : Int32} {rr : Int32} (ht : isO h a0 10) (hf : fX10_isTown a0 x1 h = some rr) : MM l yX10_isTown cX10_isTown 2 (some .boolean) rmX10_isTown G b0 h [.ref a0, .int x1] (some (.int rr)) h := by
  refine MM.of (own := RX10) (lv0 := [(0, .ref a0), (1, .int x1)]) (by decide) rfl (Nat.le_of_ble_eq_true rfl) rfl ?_
  intro p e s m args below meth c K hnm
  unfold fX10_isTown at hf
  refine r_iload_n K 1 dX10_isTown_0 rfl ?_
  refine r_i2l K dX10_isTown_1 ?_
  refine r_lconst (v := (0 : Int64)) K dX10_isTown_2 (by decide) ?_
  refine r_aload_n K 0 dX10_isTown_3 rfl ?_
  obtain ⟨b1, e2, hf⟩ := ob1_s hf
  refine r_getR (ci := 10) (k := 0) K dX10_isTown_4 inX10 rfl (by decide) rfl q_906 e2 ?_
  refine r_iconst (v := (0 : Int32)) K dX10_isTown_7 (by decide) ?_
  obtain ⟨v3, e4, hf⟩ := ob1_s hf
  refine r_laload K dX10_isTown_8 e4 ?_
  refine r_lconst (v := (1 : Int64)) K dX10_isTown_9 (by decide) ?_
  refine r_lsub K dX10_isTown_10 ?_
  obtain ⟨r5, e6, hf⟩ := ob1_s hf
  refine r_callS (As := [.long (Int32.toInt64 x1), .long (0 : Int64), .long (v3 - (1 : Int64))]) (rest := []) (st1 := [.int r5]) (cells1 := 0) (slots1 := 0) K (mX10_in l e6) dX10_isTown_11 ceX10_in q_1005 q_1006 q_85 q_1007 ⟨Nat.le_of_ble_eq_true rfl, Nat.le_of_ble_eq_true rfl⟩ (Nat.le_of_ble_eq_true rfl) ⟨Nat.le_of_ble_eq_true rfl, Nat.le_of_ble_eq_true rfl⟩ ?_ rfl rfl rfl rfl
  obtain ⟨z7, hf⟩ := gd_s hf
  exact r_zret K dX10_isTown_14 (zb_n z7) (retp hf) (Nat.le_of_ble_eq_true rfl) (Nat.le_of_ble_eq_true rfl)
theorem ceX10_isMode : CE yX10_isMode 1 := ⟨by decide, by decide, by decide +kernel⟩
abbrev rmX10_isMode : Room := { frames := 1, cells := 0, slots := 0, locals := 25 }
def fX10_isMode (x0 : Int32) : Option Int32 :=
  ob1 (fX10_in (Int32.toInt64 x0) (0 : Int64) (2 : Int64)) fun r1 =>
  gd (zb r1) <|
  some r1
set_option maxHeartbeats 4000000 in
set_option maxRecDepth 100000 in
theorem mX10_isMode (l : Launch) {G : GG} {b0 : Nat} {h : AH} {x0 : Int32} {rr : Int32} (hf : fX10_isMode x0 = some rr) : MM l yX10_isMode cX10_isMode 1 (some .boolean) rmX10_isMode G b0 h [.int x0] (some (.int rr)) h := by
  refine MM.of (own := RX10) (lv0 := [(0, .int x0)]) (by decide) rfl (Nat.le_of_ble_eq_true rfl) rfl ?_
  intro p e s m args below meth c K hnm
  unfold fX10_isMode at hf
  refine r_iload_n K 0 dX10_isMode_0 rfl ?_
  refine r_i2l K dX10_isMode_1 ?_
  refine r_lconst (v := (0 : Int64)) K dX10_isMode_2 (by decide) ?_
  refine r_ldc2 K dX10_isMode_3 q_905 ?_
  obtain ⟨r1, e2, hf⟩ := ob1_s hf
  refine r_callS (As := [.long (Int32.toInt64 x0), .long (0 : Int64), .long (2 : Int64)]) (rest := []) (st1 := [.int r1]) (cells1 := 0) (slots1 := 0) K (mX10_in l e2) dX10_isMode_6 ceX10_in q_1005 q_1006 q_85 q_1007 ⟨Nat.le_of_ble_eq_true rfl, Nat.le_of_ble_eq_true rfl⟩ (Nat.le_of_ble_eq_true rfl) ⟨Nat.le_of_ble_eq_true rfl, Nat.le_of_ble_eq_true rfl⟩ ?_ rfl rfl rfl rfl
  obtain ⟨z3, hf⟩ := gd_s hf
  exact r_zret K dX10_isMode_9 (zb_n z3) (retp hf) (Nat.le_of_ble_eq_true rfl) (Nat.le_of_ble_eq_true rfl)
theorem ceX10_isClass : CE yX10_isClass 1 := ⟨by decide, by decide, by decide +kernel⟩
abbrev rmX10_isClass : Room := { frames := 1, cells := 0, slots := 0, locals := 25 }
def fX10_isClass (x0 : Int32) : Option Int32 :=
  ob1 (fX10_in (Int32.toInt64 x0) (0 : Int64) (2 : Int64)) fun r1 =>
  gd (zb r1) <|
  some r1
set_option maxHeartbeats 4000000 in
set_option maxRecDepth 100000 in
theorem mX10_isClass (l : Launch) {G : GG} {b0 : Nat} {h : AH} {x0 : Int32} {rr : Int32} (hf : fX10_isClass x0 = some rr) : MM l yX10_isClass cX10_isClass 1 (some .boolean) rmX10_isClass G b0 h [.int x0] (some (.int rr)) h := by
  refine MM.of (own := RX10) (lv0 := [(0, .int x0)]) (by decide) rfl (Nat.le_of_ble_eq_true rfl) rfl ?_
  intro p e s m args below meth c K hnm
  unfold fX10_isClass at hf
  refine r_iload_n K 0 dX10_isClass_0 rfl ?_
  refine r_i2l K dX10_isClass_1 ?_
  refine r_lconst (v := (0 : Int64)) K dX10_isClass_2 (by decide) ?_
  refine r_ldc2 K dX10_isClass_3 q_905 ?_
  obtain ⟨r1, e2, hf⟩ := ob1_s hf
  refine r_callS (As := [.long (Int32.toInt64 x0), .long (0 : Int64), .long (2 : Int64)]) (rest := []) (st1 := [.int r1]) (cells1 := 0) (slots1 := 0) K (mX10_in l e2) dX10_isClass_6 ceX10_in q_1005 q_1006 q_85 q_1007 ⟨Nat.le_of_ble_eq_true rfl, Nat.le_of_ble_eq_true rfl⟩ (Nat.le_of_ble_eq_true rfl) ⟨Nat.le_of_ble_eq_true rfl, Nat.le_of_ble_eq_true rfl⟩ ?_ rfl rfl rfl rfl
  obtain ⟨z3, hf⟩ := gd_s hf
  exact r_zret K dX10_isClass_9 (zb_n z3) (retp hf) (Nat.le_of_ble_eq_true rfl) (Nat.le_of_ble_eq_true rfl)
theorem ceX10_ofRoad : CE yX10_ofRoad 2 := ⟨by decide, by decide, by decide +kernel⟩
abbrev rmX10_ofRoad : Room := { frames := 0, cells := 0, slots := 0, locals := 0 }
def fX10_ofRoad (a0 : Nat) (x1 : Int32) (x2 : Int32) (h : AH) : Option Int64 :=
  ob1 (gR h a0 10 0) fun b1 =>
  ob1 (aL h b1 (((2 : Int32) + ((8 : Int32) * x1)) + x2)) fun v3 =>
  some v3
set_option maxHeartbeats 4000000 in
set_option maxRecDepth 100000 in
theorem mX10_ofRoad (l : Launch) {G : GG} {b0 : Nat} {h : AH} {a0 : Nat} {x1 : Int32} {x2 : Int32} {rr : Int64} (ht : isO h a0 10) (hf : fX10_ofRoad a0 x1 x2 h = some rr) : MM l yX10_ofRoad cX10_ofRoad 3 (some .long) rmX10_ofRoad G b0 h [.ref a0, .int x1, .int x2] (some (.long rr)) h := by
  refine MM.of (own := RX10) (lv0 := [(0, .ref a0), (1, .int x1), (2, .int x2)]) (by decide) rfl (Nat.le_of_ble_eq_true rfl) rfl ?_
  intro p e s m args below meth c K hnm
  unfold fX10_ofRoad at hf
  refine r_aload_n K 0 dX10_ofRoad_0 rfl ?_
  obtain ⟨b1, e2, hf⟩ := ob1_s hf
  refine r_getR (ci := 10) (k := 0) K dX10_ofRoad_1 inX10 rfl (by decide) rfl q_906 e2 ?_
  refine r_iconst (v := (2 : Int32)) K dX10_ofRoad_4 (by decide) ?_
  refine r_bipush (v := (8 : Int32)) K dX10_ofRoad_5 (by decide) ?_
  refine r_iload_n K 1 dX10_ofRoad_7 rfl ?_
  refine r_imul K dX10_ofRoad_8 ?_
  refine r_iadd K dX10_ofRoad_9 ?_
  refine r_iload_n K 2 dX10_ofRoad_10 rfl ?_
  refine r_iadd K dX10_ofRoad_11 ?_
  obtain ⟨v3, e4, hf⟩ := ob1_s hf
  refine r_laload K dX10_ofRoad_12 e4 ?_
  exact r_lret K dX10_ofRoad_13 (retp hf) (Nat.le_of_ble_eq_true rfl) (Nat.le_of_ble_eq_true rfl)
theorem ceX10_ofClass : CE yX10_ofClass 2 := ⟨by decide, by decide, by decide +kernel⟩
abbrev rmX10_ofClass : Room := { frames := 0, cells := 0, slots := 0, locals := 0 }
def fX10_ofClass (a0 : Nat) (x1 : Int32) (x2 : Int32) (h : AH) : Option Int64 :=
  ob1 (gR h a0 10 0) fun b1 =>
  ob1 (aL h b1 (((106 : Int32) + ((4 : Int32) * x1)) + x2)) fun v3 =>
  some v3
set_option maxHeartbeats 4000000 in
set_option maxRecDepth 100000 in
theorem mX10_ofClass (l : Launch) {G : GG} {b0 : Nat} {h : AH} {a0 : Nat} {x1 : Int32} {x2 : Int32} {rr : Int64} (ht : isO h a0 10) (hf : fX10_ofClass a0 x1 x2 h = some rr) : MM l yX10_ofClass cX10_ofClass 3 (some .long) rmX10_ofClass G b0 h [.ref a0, .int x1, .int x2] (some (.long rr)) h := by
  refine MM.of (own := RX10) (lv0 := [(0, .ref a0), (1, .int x1), (2, .int x2)]) (by decide) rfl (Nat.le_of_ble_eq_true rfl) rfl ?_
  intro p e s m args below meth c K hnm
  unfold fX10_ofClass at hf
  refine r_aload_n K 0 dX10_ofClass_0 rfl ?_
  obtain ⟨b1, e2, hf⟩ := ob1_s hf
  refine r_getR (ci := 10) (k := 0) K dX10_ofClass_1 inX10 rfl (by decide) rfl q_906 e2 ?_
  refine r_bipush (v := (106 : Int32)) K dX10_ofClass_4 (by decide) ?_
  refine r_iconst (v := (4 : Int32)) K dX10_ofClass_6 (by decide) ?_
  refine r_iload_n K 1 dX10_ofClass_7 rfl ?_
  refine r_imul K dX10_ofClass_8 ?_
  refine r_iadd K dX10_ofClass_9 ?_
  refine r_iload_n K 2 dX10_ofClass_10 rfl ?_
  refine r_iadd K dX10_ofClass_11 ?_
  obtain ⟨v3, e4, hf⟩ := ob1_s hf
  refine r_laload K dX10_ofClass_12 e4 ?_
  exact r_lret K dX10_ofClass_13 (retp hf) (Nat.le_of_ble_eq_true rfl) (Nat.le_of_ble_eq_true rfl)
theorem ceX10_towns : CE yX10_towns 1 := ⟨by decide, by decide, by decide +kernel⟩
abbrev rmX10_towns : Room := { frames := 1, cells := 0, slots := 0, locals := 25 }
def fX10_towns (a0 : Nat) (x1 : Int32) (h : AH) : Option (Int32 × AH) :=
  ob1 (fX10_in (Int32.toInt64 x1) (2 : Int64) (6 : Int64)) fun r1 =>
  if r1 = (0 : Int32) then
    some ((-2 : Int32), h)
  else
    ob1 (gR h a0 10 0) fun b3 =>
    ob1 (aL h b3 (0 : Int32)) fun v5 =>
    bnd (Int64.toInt32 v5) fun y7 =>
    ob1 (gR h a0 10 0) fun b8 =>
    ob1 (sL h b8 (0 : Int32) (Int32.toInt64 x1)) fun g10 =>
    ob1 (gR g10 a0 10 0) fun b12 =>
    ob1 (sL g10 b12 (1 : Int32) (0 : Int64)) fun g14 =>
    some (y7, g14)
set_option maxHeartbeats 4000000 in
set_option maxRecDepth 100000 in
theorem mX10_towns (l : Launch) {G : GG} {b0 : Nat} {h : AH} {a0 : Nat} {x1 : Int32} {rr : Int32} {hh : AH} (ht : isO h a0 10) (hf : fX10_towns a0 x1 h = some (rr, hh)) : MM l yX10_towns cX10_towns 3 (some .int) rmX10_towns G b0 h [.ref a0, .int x1] (some (.int rr)) hh := by
  refine MM.of (own := RX10) (lv0 := [(0, .ref a0), (1, .int x1)]) (by decide) rfl (Nat.le_of_ble_eq_true rfl) rfl ?_
  intro p e s m args below meth c K hnm
  unfold fX10_towns at hf
  refine r_iload_n K 1 dX10_towns_0 rfl ?_
  refine r_i2l K dX10_towns_1 ?_
  refine r_ldc2 K dX10_towns_2 q_905 ?_
  refine r_ldc2 K dX10_towns_5 q_1004 ?_
  obtain ⟨r1, e2, hf⟩ := ob1_s hf
  refine r_callS (As := [.long (Int32.toInt64 x1), .long (2 : Int64), .long (6 : Int64)]) (rest := []) (st1 := [.int r1]) (cells1 := 0) (slots1 := 0) K (mX10_in l e2) dX10_towns_8 ceX10_in q_1005 q_1006 q_85 q_1007 ⟨Nat.le_of_ble_eq_true rfl, Nat.le_of_ble_eq_true rfl⟩ (Nat.le_of_ble_eq_true rfl) ⟨Nat.le_of_ble_eq_true rfl, Nat.le_of_ble_eq_true rfl⟩ ?_ rfl rfl rfl rfl
  refine r_if_ne (tgt := 17) K dX10_towns_11 (by decide) (fun c16 => ?_) (fun c16 => ?_)
  · replace hf := ite_f hf c16
    refine r_aload_n K 0 dX10_towns_17 rfl ?_
    obtain ⟨b3, e4, hf⟩ := ob1_s hf
    refine r_getR (ci := 10) (k := 0) K dX10_towns_18 inX10 rfl (by decide) rfl q_906 e4 ?_
    refine r_iconst (v := (0 : Int32)) K dX10_towns_21 (by decide) ?_
    obtain ⟨v5, e6, hf⟩ := ob1_s hf
    refine r_laload K dX10_towns_22 e6 ?_
    refine r_l2i K dX10_towns_23 ?_
    obtain ⟨y7, ey7, hf⟩ := bnd_g hf
    refine r_nmi ey7 ?_
    refine r_istore_n (lv1 := [(2, .int y7), (0, .ref a0), (1, .int x1)]) K dX10_towns_24 (by decide) rfl ?_
    refine r_aload_n K 1 dX10_towns_25 rfl ?_
    obtain ⟨b8, e9, hf⟩ := ob1_s hf
    refine r_getR (ci := 10) (k := 0) K dX10_towns_26 inX10 rfl (by decide) rfl q_906 e9 ?_
    refine r_iconst (v := (0 : Int32)) K dX10_towns_29 (by decide) ?_
    refine r_iload_n K 2 dX10_towns_30 rfl ?_
    refine r_i2l K dX10_towns_31 ?_
    obtain ⟨g10, e11, hf⟩ := ob1_s hf
    refine r_lastore K dX10_towns_32 e11 ?_
    refine r_aload_n K 1 dX10_towns_33 rfl ?_
    obtain ⟨b12, e13, hf⟩ := ob1_s hf
    refine r_getR (ci := 10) (k := 0) K dX10_towns_34 inX10 rfl (by decide) rfl q_906 e13 ?_
    refine r_iconst (v := (1 : Int32)) K dX10_towns_37 (by decide) ?_
    refine r_lconst (v := (0 : Int64)) K dX10_towns_38 (by decide) ?_
    obtain ⟨g14, e15, hf⟩ := ob1_s hf
    refine r_lastore K dX10_towns_39 e15 ?_
    refine r_iload_n K 0 dX10_towns_40 rfl ?_
    exact r_iret K dX10_towns_41 hf (Nat.le_of_ble_eq_true rfl) (Nat.le_of_ble_eq_true rfl)
  · replace hf := ite_t hf c16
    refine r_bipush (v := (-2 : Int32)) K dX10_towns_14 (by decide) ?_
    exact r_iret K dX10_towns_16 hf (Nat.le_of_ble_eq_true rfl) (Nat.le_of_ble_eq_true rfl)
theorem ceX10_puts : CE yX10_puts 7 := ⟨by decide, by decide, by decide +kernel⟩
abbrev rmX10_puts : Room := { frames := 1, cells := 0, slots := 0, locals := 20 }
def fX10_puts (a0 : Nat) (x1 : Int32) (x2 : Int32) (x3 : Int32) (x4 : Int64) (x6 : Int64) (x8 : Int64) (x10 : Int32) (h : AH) : Option AH :=
  ob1 (fX10_roadMany a0 h) fun r1 =>
  bnd ((2 : Int32) + ((8 : Int32) * r1)) fun y3 =>
  ob1 (gR h a0 10 0) fun b4 =>
  ob1 (sL h b4 y3 (Int32.toInt64 x1)) fun g6 =>
  ob1 (gR g6 a0 10 0) fun b8 =>
  ob1 (sL g6 b8 (y3 + (1 : Int32)) (Int32.toInt64 x2)) fun g10 =>
  ob1 (gR g10 a0 10 0) fun b12 =>
  ob1 (sL g10 b12 (y3 + (2 : Int32)) (Int32.toInt64 x3)) fun g14 =>
  ob1 (gR g14 a0 10 0) fun b16 =>
  ob1 (sL g14 b16 (y3 + (3 : Int32)) x4) fun g18 =>
  ob1 (gR g18 a0 10 0) fun b20 =>
  ob1 (sL g18 b20 (y3 + (4 : Int32)) x6) fun g22 =>
  ob1 (gR g22 a0 10 0) fun b24 =>
  ob1 (sL g22 b24 (y3 + (5 : Int32)) x8) fun g26 =>
  ob1 (gR g26 a0 10 0) fun b28 =>
  ob1 (sL g26 b28 (y3 + (6 : Int32)) (Int32.toInt64 x10)) fun g30 =>
  ob1 (gR g30 a0 10 0) fun b32 =>
  ob1 (sL g30 b32 (y3 + (7 : Int32)) (0 : Int64)) fun g34 =>
  ob1 (gR g34 a0 10 0) fun b36 =>
  ob1 (aL g34 b36 (1 : Int32)) fun v38 =>
  ob1 (sL g34 b36 (1 : Int32) (v38 + (1 : Int64))) fun g40 =>
  some g40
set_option maxHeartbeats 4000000 in
set_option maxRecDepth 100000 in
theorem mX10_puts (l : Launch) {G : GG} {b0 : Nat} {h : AH} {a0 : Nat} {x1 : Int32} {x2 : Int32} {x3 : Int32} {x4 : Int64} {x6 : Int64} {x8 : Int64} {x10 : Int32} {hh : AH} (ht : isO h a0 10) (hf : fX10_puts a0 x1 x2 x3 x4 x6 x8 x10 h = some hh) : MM l yX10_puts cX10_puts 12 (none) rmX10_puts G b0 h [.ref a0, .int x1, .int x2, .int x3, .long x4, .long x6, .long x8, .int x10] none hh := by
  refine MM.of (own := RX10) (lv0 := [(0, .ref a0), (1, .int x1), (2, .int x2), (3, .int x3), (4, .long x4), (6, .long x6), (8, .long x8), (10, .int x10)]) (by decide) rfl (Nat.le_of_ble_eq_true rfl) rfl ?_
  intro p e s m args below meth c K hnm
  unfold fX10_puts at hf
  refine r_iconst (v := (2 : Int32)) K dX10_puts_0 (by decide) ?_
  refine r_bipush (v := (8 : Int32)) K dX10_puts_1 (by decide) ?_
  refine r_aload_n K 0 dX10_puts_3 rfl ?_
  obtain ⟨r1, e2, hf⟩ := ob1_s hf
  refine r_callV (As := []) (rest := [.int (8 : Int32), .int (2 : Int32)]) (st1 := [.int r1, .int (8 : Int32), .int (2 : Int32)]) (cells1 := 0) (slots1 := 0) (b := a0) (ci := 10) K (fun z => mX10_roadMany l z e2) dX10_puts_4 rfl (fun z => z _ _ ht) rfl ceX10_roadMany q_1028 q_1030 q_33 q_85 q_1031 ⟨Nat.le_of_ble_eq_true rfl, Nat.le_of_ble_eq_true rfl⟩ (Nat.le_of_ble_eq_true rfl) ⟨Nat.le_of_ble_eq_true rfl, Nat.le_of_ble_eq_true rfl⟩ ?_ rfl rfl rfl rfl
  refine r_imul K dX10_puts_7 ?_
  refine r_iadd K dX10_puts_8 ?_
  obtain ⟨y3, ey3, hf⟩ := bnd_g hf
  refine r_nmi ey3 ?_
  refine r_istore (lv1 := [(11, .int y3), (0, .ref a0), (1, .int x1), (2, .int x2), (3, .int x3), (4, .long x4), (6, .long x6), (8, .long x8), (10, .int x10)]) K dX10_puts_9 (by decide) rfl ?_
  refine r_aload_n K 1 dX10_puts_11 rfl ?_
  obtain ⟨b4, e5, hf⟩ := ob1_s hf
  refine r_getR (ci := 10) (k := 0) K dX10_puts_12 inX10 rfl (by decide) rfl q_906 e5 ?_
  refine r_iload K 0 dX10_puts_15 rfl ?_
  refine r_iload_n K 2 dX10_puts_17 rfl ?_
  refine r_i2l K dX10_puts_18 ?_
  obtain ⟨g6, e7, hf⟩ := ob1_s hf
  refine r_lastore K dX10_puts_19 e7 ?_
  refine r_aload_n K 1 dX10_puts_20 rfl ?_
  obtain ⟨b8, e9, hf⟩ := ob1_s hf
  refine r_getR (ci := 10) (k := 0) K dX10_puts_21 inX10 rfl (by decide) rfl q_906 e9 ?_
  refine r_iload K 0 dX10_puts_24 rfl ?_
  refine r_iconst (v := (1 : Int32)) K dX10_puts_26 (by decide) ?_
  refine r_iadd K dX10_puts_27 ?_
  refine r_iload_n K 3 dX10_puts_28 rfl ?_
  refine r_i2l K dX10_puts_29 ?_
  obtain ⟨g10, e11, hf⟩ := ob1_s hf
  refine r_lastore K dX10_puts_30 e11 ?_
  refine r_aload_n K 1 dX10_puts_31 rfl ?_
  obtain ⟨b12, e13, hf⟩ := ob1_s hf
  refine r_getR (ci := 10) (k := 0) K dX10_puts_32 inX10 rfl (by decide) rfl q_906 e13 ?_
  refine r_iload K 0 dX10_puts_35 rfl ?_
  refine r_iconst (v := (2 : Int32)) K dX10_puts_37 (by decide) ?_
  refine r_iadd K dX10_puts_38 ?_
  refine r_iload_n K 4 dX10_puts_39 rfl ?_
  refine r_i2l K dX10_puts_40 ?_
  obtain ⟨g14, e15, hf⟩ := ob1_s hf
  refine r_lastore K dX10_puts_41 e15 ?_
  refine r_aload_n K 1 dX10_puts_42 rfl ?_
  obtain ⟨b16, e17, hf⟩ := ob1_s hf
  refine r_getR (ci := 10) (k := 0) K dX10_puts_43 inX10 rfl (by decide) rfl q_906 e17 ?_
  refine r_iload K 0 dX10_puts_46 rfl ?_
  refine r_iconst (v := (3 : Int32)) K dX10_puts_48 (by decide) ?_
  refine r_iadd K dX10_puts_49 ?_
  refine r_lload K 5 dX10_puts_50 rfl ?_
  obtain ⟨g18, e19, hf⟩ := ob1_s hf
  refine r_lastore K dX10_puts_52 e19 ?_
  refine r_aload_n K 1 dX10_puts_53 rfl ?_
  obtain ⟨b20, e21, hf⟩ := ob1_s hf
  refine r_getR (ci := 10) (k := 0) K dX10_puts_54 inX10 rfl (by decide) rfl q_906 e21 ?_
  refine r_iload K 0 dX10_puts_57 rfl ?_
  refine r_iconst (v := (4 : Int32)) K dX10_puts_59 (by decide) ?_
  refine r_iadd K dX10_puts_60 ?_
  refine r_lload K 6 dX10_puts_61 rfl ?_
  obtain ⟨g22, e23, hf⟩ := ob1_s hf
  refine r_lastore K dX10_puts_63 e23 ?_
  refine r_aload_n K 1 dX10_puts_64 rfl ?_
  obtain ⟨b24, e25, hf⟩ := ob1_s hf
  refine r_getR (ci := 10) (k := 0) K dX10_puts_65 inX10 rfl (by decide) rfl q_906 e25 ?_
  refine r_iload K 0 dX10_puts_68 rfl ?_
  refine r_iconst (v := (5 : Int32)) K dX10_puts_70 (by decide) ?_
  refine r_iadd K dX10_puts_71 ?_
  refine r_lload K 7 dX10_puts_72 rfl ?_
  obtain ⟨g26, e27, hf⟩ := ob1_s hf
  refine r_lastore K dX10_puts_74 e27 ?_
  refine r_aload_n K 1 dX10_puts_75 rfl ?_
  obtain ⟨b28, e29, hf⟩ := ob1_s hf
  refine r_getR (ci := 10) (k := 0) K dX10_puts_76 inX10 rfl (by decide) rfl q_906 e29 ?_
  refine r_iload K 0 dX10_puts_79 rfl ?_
  refine r_bipush (v := (6 : Int32)) K dX10_puts_81 (by decide) ?_
  refine r_iadd K dX10_puts_83 ?_
  refine r_iload K 8 dX10_puts_84 rfl ?_
  refine r_i2l K dX10_puts_86 ?_
  obtain ⟨g30, e31, hf⟩ := ob1_s hf
  refine r_lastore K dX10_puts_87 e31 ?_
  refine r_aload_n K 1 dX10_puts_88 rfl ?_
  obtain ⟨b32, e33, hf⟩ := ob1_s hf
  refine r_getR (ci := 10) (k := 0) K dX10_puts_89 inX10 rfl (by decide) rfl q_906 e33 ?_
  refine r_iload K 0 dX10_puts_92 rfl ?_
  refine r_bipush (v := (7 : Int32)) K dX10_puts_94 (by decide) ?_
  refine r_iadd K dX10_puts_96 ?_
  refine r_lconst (v := (0 : Int64)) K dX10_puts_97 (by decide) ?_
  obtain ⟨g34, e35, hf⟩ := ob1_s hf
  refine r_lastore K dX10_puts_98 e35 ?_
  refine r_aload_n K 1 dX10_puts_99 rfl ?_
  obtain ⟨b36, e37, hf⟩ := ob1_s hf
  refine r_getR (ci := 10) (k := 0) K dX10_puts_100 inX10 rfl (by decide) rfl q_906 e37 ?_
  refine r_iconst (v := (1 : Int32)) K dX10_puts_103 (by decide) ?_
  refine r_dup2_11 K dX10_puts_104 rfl rfl ?_
  obtain ⟨v38, e39, hf⟩ := ob1_s hf
  refine r_laload K dX10_puts_105 e39 ?_
  refine r_lconst (v := (1 : Int64)) K dX10_puts_106 (by decide) ?_
  refine r_ladd K dX10_puts_107 ?_
  obtain ⟨g40, e41, hf⟩ := ob1_s hf
  refine r_lastore K dX10_puts_108 e41 ?_
  exact r_vret K dX10_puts_109 hf (Nat.le_of_ble_eq_true rfl) (Nat.le_of_ble_eq_true rfl)
theorem ceX10_areTowns : CE yX10_areTowns 2 := ⟨by decide, by decide, by decide +kernel⟩
abbrev rmX10_areTowns : Room := { frames := 2, cells := 0, slots := 0, locals := 46 }
def fX10_areTowns (a0 : Nat) (x1 : Int32) (x2 : Int32) (h : AH) : Option Int32 :=
  ob1 (fX10_isTown a0 x1 h) fun r1 =>
  if r1 = (0 : Int32) then
    some (0 : Int32)
  else
    ob1 (fX10_isTown a0 x2 h) fun r3 =>
    if r3 = (0 : Int32) then
      some (0 : Int32)
    else
      if x1 = x2 then
        some (0 : Int32)
      else
        some (1 : Int32)
set_option maxHeartbeats 4000000 in
set_option maxRecDepth 100000 in
theorem mX10_areTowns (l : Launch) {G : GG} {b0 : Nat} {h : AH} {a0 : Nat} {x1 : Int32} {x2 : Int32} {rr : Int32} (ht : isO h a0 10) (hf : fX10_areTowns a0 x1 x2 h = some rr) : MM l yX10_areTowns cX10_areTowns 3 (some .boolean) rmX10_areTowns G b0 h [.ref a0, .int x1, .int x2] (some (.int rr)) h := by
  refine MM.of (own := RX10) (lv0 := [(0, .ref a0), (1, .int x1), (2, .int x2)]) (by decide) rfl (Nat.le_of_ble_eq_true rfl) rfl ?_
  intro p e s m args below meth c K hnm
  unfold fX10_areTowns at hf
  refine r_aload_n K 0 dX10_areTowns_0 rfl ?_
  refine r_iload_n K 1 dX10_areTowns_1 rfl ?_
  obtain ⟨r1, e2, hf⟩ := ob1_s hf
  refine r_callV (As := [.int x1]) (rest := []) (st1 := [.int r1]) (cells1 := 0) (slots1 := 0) (b := a0) (ci := 10) K (fun z => mX10_isTown l z e2) dX10_areTowns_2 rfl (fun z => z _ _ ht) rfl ceX10_isTown q_1016 q_1018 q_31 q_85 q_1019 ⟨Nat.le_of_ble_eq_true rfl, Nat.le_of_ble_eq_true rfl⟩ (Nat.le_of_ble_eq_true rfl) ⟨Nat.le_of_ble_eq_true rfl, Nat.le_of_ble_eq_true rfl⟩ ?_ rfl rfl rfl rfl
  refine r_if_eq (tgt := 25) K dX10_areTowns_5 (by decide) (fun c7 => ?_) (fun c7 => ?_)
  · replace hf := ite_t hf c7
    refine r_iconst (v := (0 : Int32)) K dX10_areTowns_25 (by decide) ?_
    exact r_zret K dX10_areTowns_26 rfl (retp hf) (Nat.le_of_ble_eq_true rfl) (Nat.le_of_ble_eq_true rfl)
  · replace hf := ite_f hf c7
    refine r_aload_n K 0 dX10_areTowns_8 rfl ?_
    refine r_iload_n K 2 dX10_areTowns_9 rfl ?_
    obtain ⟨r3, e4, hf⟩ := ob1_s hf
    refine r_callV (As := [.int x2]) (rest := []) (st1 := [.int r3]) (cells1 := 0) (slots1 := 0) (b := a0) (ci := 10) K (fun z => mX10_isTown l z e4) dX10_areTowns_10 rfl (fun z => z _ _ ht) rfl ceX10_isTown q_1016 q_1018 q_31 q_85 q_1019 ⟨Nat.le_of_ble_eq_true rfl, Nat.le_of_ble_eq_true rfl⟩ (Nat.le_of_ble_eq_true rfl) ⟨Nat.le_of_ble_eq_true rfl, Nat.le_of_ble_eq_true rfl⟩ ?_ rfl rfl rfl rfl
    refine r_if_eq (tgt := 25) K dX10_areTowns_13 (by decide) (fun c6 => ?_) (fun c6 => ?_)
    · replace hf := ite_t hf c6
      refine r_iconst (v := (0 : Int32)) K dX10_areTowns_25 (by decide) ?_
      exact r_zret K dX10_areTowns_26 rfl (retp hf) (Nat.le_of_ble_eq_true rfl) (Nat.le_of_ble_eq_true rfl)
    · replace hf := ite_f hf c6
      refine r_iload_n K 1 dX10_areTowns_16 rfl ?_
      refine r_iload_n K 2 dX10_areTowns_17 rfl ?_
      refine r_icmp_eq (tgt := 25) K dX10_areTowns_18 (by decide) (fun c5 => ?_) (fun c5 => ?_)
      · replace hf := ite_t hf c5
        refine r_iconst (v := (0 : Int32)) K dX10_areTowns_25 (by decide) ?_
        exact r_zret K dX10_areTowns_26 rfl (retp hf) (Nat.le_of_ble_eq_true rfl) (Nat.le_of_ble_eq_true rfl)
      · replace hf := ite_f hf c5
        refine r_iconst (v := (1 : Int32)) K dX10_areTowns_21 (by decide) ?_
        refine r_goto (tgt := 26) K dX10_areTowns_22 (by decide) ?_
        exact r_zret K dX10_areTowns_26 rfl (retp hf) (Nat.le_of_ble_eq_true rfl) (Nat.le_of_ble_eq_true rfl)
theorem ceX10_road : CE yX10_road 7 := ⟨by decide, by decide, by decide +kernel⟩
abbrev rmX10_road : Room := { frames := 3, cells := 0, slots := 0, locals := 68 }
def fX10_road (a0 : Nat) (x1 : Int32) (x2 : Int32) (x3 : Int32) (x4 : Int64) (x6 : Int64) (x8 : Int64) (x10 : Int32) (h : AH) : Option (Int32 × AH) :=
  ob1 (fX10_areTowns a0 x1 x2 h) fun r1 =>
  if r1 = (0 : Int32) then
    some ((-1 : Int32), h)
  else
    ob1 (fX10_in (Int32.toInt64 x3) (0 : Int64) (2 : Int64)) fun r3 =>
    if r3 = (0 : Int32) then
      some ((-1 : Int32), h)
    else
      ob1 (fX10_in x4 (0 : Int64) (100000000000000000 : Int64)) fun r5 =>
      if r5 = (0 : Int32) then
        some ((-2 : Int32), h)
      else
        ob1 (fX10_in x6 (0 : Int64) (100000000000000 : Int64)) fun r7 =>
        if r7 = (0 : Int32) then
          some ((-2 : Int32), h)
        else
          ob1 (fX10_in x8 (0 : Int64) (100000000000000 : Int64)) fun r9 =>
          if r9 = (0 : Int32) then
            some ((-2 : Int32), h)
          else
            ob1 (fX10_in (Int32.toInt64 x10) (0 : Int64) (36 : Int64)) fun r11 =>
            if r11 = (0 : Int32) then
              some ((-2 : Int32), h)
            else
              ob1 (gR h a0 10 0) fun b13 =>
              ob1 (aL h b13 (1 : Int32)) fun v15 =>
              if v15 = (12 : Int64) then
                some ((-4 : Int32), h)
              else
                ob1 (fX10_puts a0 x1 x2 x3 x4 x6 x8 x10 h) fun g17 =>
                ob1 (fX10_roadMany a0 g17) fun r19 =>
                some (r19 - (1 : Int32), g17)
set_option maxHeartbeats 4000000 in
set_option maxRecDepth 100000 in
theorem mX10_road (l : Launch) {G : GG} {b0 : Nat} {h : AH} {a0 : Nat} {x1 : Int32} {x2 : Int32} {x3 : Int32} {x4 : Int64} {x6 : Int64} {x8 : Int64} {x10 : Int32} {rr : Int32} {hh : AH} (ht : isO h a0 10) (hf : fX10_road a0 x1 x2 x3 x4 x6 x8 x10 h = some (rr, hh)) : MM l yX10_road cX10_road 11 (some .int) rmX10_road G b0 h [.ref a0, .int x1, .int x2, .int x3, .long x4, .long x6, .long x8, .int x10] (some (.int rr)) hh := by
  refine MM.of (own := RX10) (lv0 := [(0, .ref a0), (1, .int x1), (2, .int x2), (3, .int x3), (4, .long x4), (6, .long x6), (8, .long x8), (10, .int x10)]) (by decide) rfl (Nat.le_of_ble_eq_true rfl) rfl ?_
  intro p e s m args below meth c K hnm
  unfold fX10_road at hf
  refine r_aload_n K 0 dX10_road_0 rfl ?_
  refine r_iload_n K 1 dX10_road_1 rfl ?_
  refine r_iload_n K 2 dX10_road_2 rfl ?_
  obtain ⟨r1, e2, hf⟩ := ob1_s hf
  refine r_callV (As := [.int x1, .int x2]) (rest := []) (st1 := [.int r1]) (cells1 := 0) (slots1 := 0) (b := a0) (ci := 10) K (fun z => mX10_areTowns l z e2) dX10_road_3 rfl (fun z => z _ _ ht) rfl ceX10_areTowns q_1012 q_1014 q_30 q_85 q_1015 ⟨Nat.le_of_ble_eq_true rfl, Nat.le_of_ble_eq_true rfl⟩ (Nat.le_of_ble_eq_true rfl) ⟨Nat.le_of_ble_eq_true rfl, Nat.le_of_ble_eq_true rfl⟩ ?_ rfl rfl rfl rfl
  refine r_if_eq (tgt := 21) K dX10_road_6 (by decide) (fun c27 => ?_) (fun c27 => ?_)
  · replace hf := ite_t hf c27
    refine r_iconst (v := (-1 : Int32)) K dX10_road_21 (by decide) ?_
    exact r_iret K dX10_road_22 hf (Nat.le_of_ble_eq_true rfl) (Nat.le_of_ble_eq_true rfl)
  · replace hf := ite_f hf c27
    refine r_iload_n K 3 dX10_road_9 rfl ?_
    refine r_i2l K dX10_road_10 ?_
    refine r_lconst (v := (0 : Int64)) K dX10_road_11 (by decide) ?_
    refine r_ldc2 K dX10_road_12 q_905 ?_
    obtain ⟨r3, e4, hf⟩ := ob1_s hf
    refine r_callS (As := [.long (Int32.toInt64 x3), .long (0 : Int64), .long (2 : Int64)]) (rest := []) (st1 := [.int r3]) (cells1 := 0) (slots1 := 0) K (mX10_in l e4) dX10_road_15 ceX10_in q_1005 q_1006 q_85 q_1007 ⟨Nat.le_of_ble_eq_true rfl, Nat.le_of_ble_eq_true rfl⟩ (Nat.le_of_ble_eq_true rfl) ⟨Nat.le_of_ble_eq_true rfl, Nat.le_of_ble_eq_true rfl⟩ ?_ rfl rfl rfl rfl
    refine r_if_ne (tgt := 23) K dX10_road_18 (by decide) (fun c26 => ?_) (fun c26 => ?_)
    · replace hf := ite_f hf c26
      refine r_lload K 4 dX10_road_23 rfl ?_
      refine r_lconst (v := (0 : Int64)) K dX10_road_25 (by decide) ?_
      refine r_ldc2 K dX10_road_26 q_1020 ?_
      obtain ⟨r5, e6, hf⟩ := ob1_s hf
      refine r_callS (As := [.long x4, .long (0 : Int64), .long (100000000000000000 : Int64)]) (rest := []) (st1 := [.int r5]) (cells1 := 0) (slots1 := 0) K (mX10_in l e6) dX10_road_29 ceX10_in q_1005 q_1006 q_85 q_1007 ⟨Nat.le_of_ble_eq_true rfl, Nat.le_of_ble_eq_true rfl⟩ (Nat.le_of_ble_eq_true rfl) ⟨Nat.le_of_ble_eq_true rfl, Nat.le_of_ble_eq_true rfl⟩ ?_ rfl rfl rfl rfl
      refine r_if_eq (tgt := 72) K dX10_road_32 (by decide) (fun c25 => ?_) (fun c25 => ?_)
      · replace hf := ite_t hf c25
        refine r_bipush (v := (-2 : Int32)) K dX10_road_72 (by decide) ?_
        exact r_iret K dX10_road_74 hf (Nat.le_of_ble_eq_true rfl) (Nat.le_of_ble_eq_true rfl)
      · replace hf := ite_f hf c25
        refine r_lload K 5 dX10_road_35 rfl ?_
        refine r_lconst (v := (0 : Int64)) K dX10_road_37 (by decide) ?_
        refine r_ldc2 K dX10_road_38 q_1021 ?_
        obtain ⟨r7, e8, hf⟩ := ob1_s hf
        refine r_callS (As := [.long x6, .long (0 : Int64), .long (100000000000000 : Int64)]) (rest := []) (st1 := [.int r7]) (cells1 := 0) (slots1 := 0) K (mX10_in l e8) dX10_road_41 ceX10_in q_1005 q_1006 q_85 q_1007 ⟨Nat.le_of_ble_eq_true rfl, Nat.le_of_ble_eq_true rfl⟩ (Nat.le_of_ble_eq_true rfl) ⟨Nat.le_of_ble_eq_true rfl, Nat.le_of_ble_eq_true rfl⟩ ?_ rfl rfl rfl rfl
        refine r_if_eq (tgt := 72) K dX10_road_44 (by decide) (fun c24 => ?_) (fun c24 => ?_)
        · replace hf := ite_t hf c24
          refine r_bipush (v := (-2 : Int32)) K dX10_road_72 (by decide) ?_
          exact r_iret K dX10_road_74 hf (Nat.le_of_ble_eq_true rfl) (Nat.le_of_ble_eq_true rfl)
        · replace hf := ite_f hf c24
          refine r_lload K 6 dX10_road_47 rfl ?_
          refine r_lconst (v := (0 : Int64)) K dX10_road_49 (by decide) ?_
          refine r_ldc2 K dX10_road_50 q_1021 ?_
          obtain ⟨r9, e10, hf⟩ := ob1_s hf
          refine r_callS (As := [.long x8, .long (0 : Int64), .long (100000000000000 : Int64)]) (rest := []) (st1 := [.int r9]) (cells1 := 0) (slots1 := 0) K (mX10_in l e10) dX10_road_53 ceX10_in q_1005 q_1006 q_85 q_1007 ⟨Nat.le_of_ble_eq_true rfl, Nat.le_of_ble_eq_true rfl⟩ (Nat.le_of_ble_eq_true rfl) ⟨Nat.le_of_ble_eq_true rfl, Nat.le_of_ble_eq_true rfl⟩ ?_ rfl rfl rfl rfl
          refine r_if_eq (tgt := 72) K dX10_road_56 (by decide) (fun c23 => ?_) (fun c23 => ?_)
          · replace hf := ite_t hf c23
            refine r_bipush (v := (-2 : Int32)) K dX10_road_72 (by decide) ?_
            exact r_iret K dX10_road_74 hf (Nat.le_of_ble_eq_true rfl) (Nat.le_of_ble_eq_true rfl)
          · replace hf := ite_f hf c23
            refine r_iload K 7 dX10_road_59 rfl ?_
            refine r_i2l K dX10_road_61 ?_
            refine r_lconst (v := (0 : Int64)) K dX10_road_62 (by decide) ?_
            refine r_ldc2 K dX10_road_63 q_1022 ?_
            obtain ⟨r11, e12, hf⟩ := ob1_s hf
            refine r_callS (As := [.long (Int32.toInt64 x10), .long (0 : Int64), .long (36 : Int64)]) (rest := []) (st1 := [.int r11]) (cells1 := 0) (slots1 := 0) K (mX10_in l e12) dX10_road_66 ceX10_in q_1005 q_1006 q_85 q_1007 ⟨Nat.le_of_ble_eq_true rfl, Nat.le_of_ble_eq_true rfl⟩ (Nat.le_of_ble_eq_true rfl) ⟨Nat.le_of_ble_eq_true rfl, Nat.le_of_ble_eq_true rfl⟩ ?_ rfl rfl rfl rfl
            refine r_if_ne (tgt := 75) K dX10_road_69 (by decide) (fun c22 => ?_) (fun c22 => ?_)
            · replace hf := ite_f hf c22
              refine r_aload_n K 0 dX10_road_75 rfl ?_
              obtain ⟨b13, e14, hf⟩ := ob1_s hf
              refine r_getR (ci := 10) (k := 0) K dX10_road_76 inX10 rfl (by decide) rfl q_906 e14 ?_
              refine r_iconst (v := (1 : Int32)) K dX10_road_79 (by decide) ?_
              obtain ⟨v15, e16, hf⟩ := ob1_s hf
              refine r_laload K dX10_road_80 e16 ?_
              refine r_ldc2 K dX10_road_81 q_1023 ?_
              refine r_lif_ne (tgt := 91) K dX10_road_84 dX10_road_85 (by decide) (fun c21 => ?_) (fun c21 => ?_)
              · replace hf := ite_f hf c21
                refine r_aload_n K 0 dX10_road_91 rfl ?_
                refine r_iload_n K 1 dX10_road_92 rfl ?_
                refine r_iload_n K 2 dX10_road_93 rfl ?_
                refine r_iload_n K 3 dX10_road_94 rfl ?_
                refine r_lload K 4 dX10_road_95 rfl ?_
                refine r_lload K 5 dX10_road_97 rfl ?_
                refine r_lload K 6 dX10_road_99 rfl ?_
                refine r_iload K 7 dX10_road_101 rfl ?_
                obtain ⟨g17, e18, hf⟩ := ob1_s hf
                refine r_callV (As := [.int x1, .int x2, .int x3, .long x4, .long x6, .long x8, .int x10]) (rest := []) (st1 := []) (cells1 := 0) (slots1 := 0) (b := a0) (ci := 10) K (fun z => mX10_puts l z e18) dX10_road_103 rfl (fun z => z _ _ ht) rfl ceX10_puts q_1024 q_1026 q_32 q_85 q_1027 ⟨Nat.le_of_ble_eq_true rfl, Nat.le_of_ble_eq_true rfl⟩ (Nat.le_of_ble_eq_true rfl) ⟨Nat.le_of_ble_eq_true rfl, Nat.le_of_ble_eq_true rfl⟩ ?_ rfl rfl rfl rfl
                refine r_aload_n K 0 dX10_road_106 rfl ?_
                obtain ⟨r19, e20, hf⟩ := ob1_s hf
                refine r_callV (As := []) (rest := []) (st1 := [.int r19]) (cells1 := 0) (slots1 := 0) (b := a0) (ci := 10) K (fun z => mX10_roadMany l z e20) dX10_road_107 rfl (fun z => z _ _ ht) rfl ceX10_roadMany q_1028 q_1030 q_33 q_85 q_1031 ⟨Nat.le_of_ble_eq_true rfl, Nat.le_of_ble_eq_true rfl⟩ (Nat.le_of_ble_eq_true rfl) ⟨Nat.le_of_ble_eq_true rfl, Nat.le_of_ble_eq_true rfl⟩ ?_ rfl rfl rfl rfl
                refine r_iconst (v := (1 : Int32)) K dX10_road_110 (by decide) ?_
                refine r_isub K dX10_road_111 ?_
                exact r_iret K dX10_road_112 hf (Nat.le_of_ble_eq_true rfl) (Nat.le_of_ble_eq_true rfl)
              · replace hf := ite_t hf c21
                refine r_bipush (v := (-4 : Int32)) K dX10_road_88 (by decide) ?_
                exact r_iret K dX10_road_90 hf (Nat.le_of_ble_eq_true rfl) (Nat.le_of_ble_eq_true rfl)
            · replace hf := ite_t hf c22
              refine r_bipush (v := (-2 : Int32)) K dX10_road_72 (by decide) ?_
              exact r_iret K dX10_road_74 hf (Nat.le_of_ble_eq_true rfl) (Nat.le_of_ble_eq_true rfl)
    · replace hf := ite_t hf c26
      refine r_iconst (v := (-1 : Int32)) K dX10_road_21 (by decide) ?_
      exact r_iret K dX10_road_22 hf (Nat.le_of_ble_eq_true rfl) (Nat.le_of_ble_eq_true rfl)
theorem ceX10_takesOut : CE yX10_takesOut 1 := ⟨by decide, by decide, by decide +kernel⟩
abbrev rmX10_takesOut : Room := { frames := 1, cells := 0, slots := 0, locals := 20 }
def fX10_takesOut_L5 (a0 : Nat) (k : AH → Option AH) : Nat → Int32 → AH → Option AH
  | 0, _, _ => none
  | n + 1, x2, h =>
    ob1 (fX10_roadMany a0 h) fun r2 =>
    if ((8 : Int32) * (r2 - (1 : Int32))) ≤ x2 then
      k h
    else
      ob1 (gR h a0 10 0) fun b4 =>
      ob1 (gR h a0 10 0) fun b6 =>
      ob1 (aL h b6 (((2 : Int32) + x2) + (8 : Int32))) fun v8 =>
      ob1 (sL h b4 ((2 : Int32) + x2) v8) fun g10 =>
      bnd (x2 + (1 : Int32)) fun y12 =>
      fX10_takesOut_L5 a0 k n y12 g10
def fX10_takesOut (a0 : Nat) (x1 : Int32) (h : AH) : Option AH :=
  bnd ((8 : Int32) * x1) fun y1 =>
  fX10_takesOut_L5 a0 (fun (g14 : AH) =>
    ob1 (gR g14 a0 10 0) fun b15 =>
    ob1 (aL g14 b15 (1 : Int32)) fun v17 =>
    ob1 (sL g14 b15 (1 : Int32) (v17 - (1 : Int64))) fun g19 =>
    some g19
  ) lf y1 h
set_option maxHeartbeats 4000000 in
set_option maxRecDepth 100000 in
theorem wX10_takesOut_L5 {p : Program} {l : Launch} {e : Env} {s : State} {m : MethodId} {args : Array Value} {below : List Frame} {meth : Method} {c : Code} {G : GG} {b0 : Nat} {h0 : AH} {a0 : Nat} {hh : AH} (K : CX p s m args meth c cX10_takesOut 3 RX10 (none) G b0) (ht : isO h0 a0 10) (k : AH → Option AH) (hk : ∀ (h : AH), k h = some hh → WA p l e rmX10_takesOut s m args below meth c (MQ below (QG G b0 h0 none hh) args s (rmX10_takesOut).cells (rmX10_takesOut).slots (AB b0)) G b0 3 h0 0 0 h 43 [(0, .ref a0)] []) : ∀ (n : Nat) (x2 : Int32) (h : AH), fX10_takesOut_L5 a0 k n x2 h = some hh → WA p l e rmX10_takesOut s m args below meth c (MQ below (QG G b0 h0 none hh) args s (rmX10_takesOut).cells (rmX10_takesOut).slots (AB b0)) G b0 3 h0 0 0 h 5 [(0, .ref a0), (2, .int x2)] [] := by
  intro n
  induction n with
  | zero =>
    intro x2 h hf
    rw [fX10_takesOut_L5] at hf
    cases hf
  | succ n ih =>
    intro x2 h hf
    rw [fX10_takesOut_L5] at hf
    refine r_iload_n K 1 dX10_takesOut_5 rfl ?_
    refine r_bipush (v := (8 : Int32)) K dX10_takesOut_6 (by decide) ?_
    refine r_aload_n K 0 dX10_takesOut_8 rfl ?_
    obtain ⟨r2, e3, hf⟩ := ob1_s hf
    refine r_callV (As := []) (rest := [.int (8 : Int32), .int x2]) (st1 := [.int r2, .int (8 : Int32), .int x2]) (cells1 := 0) (slots1 := 0) (b := a0) (ci := 10) K (fun z => mX10_roadMany l z e3) dX10_takesOut_9 rfl (fun z => z _ _ ht) rfl ceX10_roadMany q_1028 q_1030 q_33 q_85 q_1031 ⟨Nat.le_of_ble_eq_true rfl, Nat.le_of_ble_eq_true rfl⟩ (Nat.le_of_ble_eq_true rfl) ⟨Nat.le_of_ble_eq_true rfl, Nat.le_of_ble_eq_true rfl⟩ ?_ rfl rfl rfl rfl
    refine r_iconst (v := (1 : Int32)) K dX10_takesOut_12 (by decide) ?_
    refine r_isub K dX10_takesOut_13 ?_
    refine r_imul K dX10_takesOut_14 ?_
    refine r_icmp_ge (tgt := 43) K dX10_takesOut_15 (by decide) (fun c13 => ?_) (fun c13 => ?_)
    · replace hf := ite_t hf c13
      refine r_lv [0] rfl ?_
      exact hk h hf
    · replace hf := ite_f hf c13
      refine r_aload_n K 0 dX10_takesOut_18 rfl ?_
      obtain ⟨b4, e5, hf⟩ := ob1_s hf
      refine r_getR (ci := 10) (k := 0) K dX10_takesOut_19 inX10 rfl (by decide) rfl q_906 e5 ?_
      refine r_iconst (v := (2 : Int32)) K dX10_takesOut_22 (by decide) ?_
      refine r_iload_n K 1 dX10_takesOut_23 rfl ?_
      refine r_iadd K dX10_takesOut_24 ?_
      refine r_aload_n K 0 dX10_takesOut_25 rfl ?_
      obtain ⟨b6, e7, hf⟩ := ob1_s hf
      refine r_getR (ci := 10) (k := 0) K dX10_takesOut_26 inX10 rfl (by decide) rfl q_906 e7 ?_
      refine r_iconst (v := (2 : Int32)) K dX10_takesOut_29 (by decide) ?_
      refine r_iload_n K 1 dX10_takesOut_30 rfl ?_
      refine r_iadd K dX10_takesOut_31 ?_
      refine r_bipush (v := (8 : Int32)) K dX10_takesOut_32 (by decide) ?_
      refine r_iadd K dX10_takesOut_34 ?_
      obtain ⟨v8, e9, hf⟩ := ob1_s hf
      refine r_laload K dX10_takesOut_35 e9 ?_
      obtain ⟨g10, e11, hf⟩ := ob1_s hf
      refine r_lastore K dX10_takesOut_36 e11 ?_
      obtain ⟨y12, ey12, hf⟩ := bnd_g hf
      refine r_iinc (lv1 := [(2, .int y12), (0, .ref a0)]) K 1 dX10_takesOut_37 rfl (by rw [ey12]; rfl) (by decide) rfl ?_
      refine r_goto (tgt := 5) K dX10_takesOut_40 (by decide) ?_
      refine r_lv [1, 0] rfl ?_
      exact ih y12 g10 hf
set_option maxHeartbeats 4000000 in
set_option maxRecDepth 100000 in
theorem mX10_takesOut (l : Launch) {G : GG} {b0 : Nat} {h : AH} {a0 : Nat} {x1 : Int32} {hh : AH} (ht : isO h a0 10) (hf : fX10_takesOut a0 x1 h = some hh) : MM l yX10_takesOut cX10_takesOut 3 (none) rmX10_takesOut G b0 h [.ref a0, .int x1] none hh := by
  refine MM.of (own := RX10) (lv0 := [(0, .ref a0), (1, .int x1)]) (by decide) rfl (Nat.le_of_ble_eq_true rfl) rfl ?_
  intro p e s m args below meth c K hnm
  unfold fX10_takesOut at hf
  refine r_bipush (v := (8 : Int32)) K dX10_takesOut_0 (by decide) ?_
  refine r_iload_n K 1 dX10_takesOut_2 rfl ?_
  refine r_imul K dX10_takesOut_3 ?_
  obtain ⟨y1, ey1, hf⟩ := bnd_g hf
  refine r_nmi ey1 ?_
  refine r_istore_n (lv1 := [(2, .int y1), (0, .ref a0), (1, .int x1)]) K dX10_takesOut_4 (by decide) rfl ?_
  refine r_lv [1, 0] rfl ?_
  refine wX10_takesOut_L5 K ht _ (fun g14 hf => ?_) lf y1 h hf
  refine r_aload_n K 0 dX10_takesOut_43 rfl ?_
  obtain ⟨b15, e16, hf⟩ := ob1_s hf
  refine r_getR (ci := 10) (k := 0) K dX10_takesOut_44 inX10 rfl (by decide) rfl q_906 e16 ?_
  refine r_iconst (v := (1 : Int32)) K dX10_takesOut_47 (by decide) ?_
  refine r_dup2_11 K dX10_takesOut_48 rfl rfl ?_
  obtain ⟨v17, e18, hf⟩ := ob1_s hf
  refine r_laload K dX10_takesOut_49 e18 ?_
  refine r_lconst (v := (1 : Int64)) K dX10_takesOut_50 (by decide) ?_
  refine r_lsub K dX10_takesOut_51 ?_
  obtain ⟨g19, e20, hf⟩ := ob1_s hf
  refine r_lastore K dX10_takesOut_52 e20 ?_
  exact r_vret K dX10_takesOut_53 hf (Nat.le_of_ble_eq_true rfl) (Nat.le_of_ble_eq_true rfl)
theorem ceX10_close : CE yX10_close 1 := ⟨by decide, by decide, by decide +kernel⟩
abbrev rmX10_close : Room := { frames := 2, cells := 0, slots := 0, locals := 46 }
def fX10_close (a0 : Nat) (x1 : Int32) (h : AH) : Option (Int32 × AH) :=
  ob1 (fX10_isRoad a0 x1 h) fun r1 =>
  if r1 = (0 : Int32) then
    some ((-1 : Int32), h)
  else
    ob1 (fX10_takesOut a0 x1 h) fun g3 =>
    ob1 (fX10_roadMany a0 g3) fun r5 =>
    some (r5, g3)
set_option maxHeartbeats 4000000 in
set_option maxRecDepth 100000 in
theorem mX10_close (l : Launch) {G : GG} {b0 : Nat} {h : AH} {a0 : Nat} {x1 : Int32} {rr : Int32} {hh : AH} (ht : isO h a0 10) (hf : fX10_close a0 x1 h = some (rr, hh)) : MM l yX10_close cX10_close 2 (some .int) rmX10_close G b0 h [.ref a0, .int x1] (some (.int rr)) hh := by
  refine MM.of (own := RX10) (lv0 := [(0, .ref a0), (1, .int x1)]) (by decide) rfl (Nat.le_of_ble_eq_true rfl) rfl ?_
  intro p e s m args below meth c K hnm
  unfold fX10_close at hf
  refine r_aload_n K 0 dX10_close_0 rfl ?_
  refine r_iload_n K 1 dX10_close_1 rfl ?_
  obtain ⟨r1, e2, hf⟩ := ob1_s hf
  refine r_callV (As := [.int x1]) (rest := []) (st1 := [.int r1]) (cells1 := 0) (slots1 := 0) (b := a0) (ci := 10) K (fun z => mX10_isRoad l z e2) dX10_close_2 rfl (fun z => z _ _ ht) rfl ceX10_isRoad q_1036 q_1038 q_34 q_85 q_1039 ⟨Nat.le_of_ble_eq_true rfl, Nat.le_of_ble_eq_true rfl⟩ (Nat.le_of_ble_eq_true rfl) ⟨Nat.le_of_ble_eq_true rfl, Nat.le_of_ble_eq_true rfl⟩ ?_ rfl rfl rfl rfl
  refine r_if_ne (tgt := 10) K dX10_close_5 (by decide) (fun c7 => ?_) (fun c7 => ?_)
  · replace hf := ite_f hf c7
    refine r_aload_n K 0 dX10_close_10 rfl ?_
    refine r_iload_n K 1 dX10_close_11 rfl ?_
    obtain ⟨g3, e4, hf⟩ := ob1_s hf
    refine r_callV (As := [.int x1]) (rest := []) (st1 := []) (cells1 := 0) (slots1 := 0) (b := a0) (ci := 10) K (fun z => mX10_takesOut l z e4) dX10_close_12 rfl (fun z => z _ _ ht) rfl ceX10_takesOut q_1040 q_1042 q_35 q_85 q_1043 ⟨Nat.le_of_ble_eq_true rfl, Nat.le_of_ble_eq_true rfl⟩ (Nat.le_of_ble_eq_true rfl) ⟨Nat.le_of_ble_eq_true rfl, Nat.le_of_ble_eq_true rfl⟩ ?_ rfl rfl rfl rfl
    refine r_aload_n K 0 dX10_close_15 rfl ?_
    obtain ⟨r5, e6, hf⟩ := ob1_s hf
    refine r_callV (As := []) (rest := []) (st1 := [.int r5]) (cells1 := 0) (slots1 := 0) (b := a0) (ci := 10) K (fun z => mX10_roadMany l z e6) dX10_close_16 rfl (fun z => z _ _ ht) rfl ceX10_roadMany q_1028 q_1030 q_33 q_85 q_1031 ⟨Nat.le_of_ble_eq_true rfl, Nat.le_of_ble_eq_true rfl⟩ (Nat.le_of_ble_eq_true rfl) ⟨Nat.le_of_ble_eq_true rfl, Nat.le_of_ble_eq_true rfl⟩ ?_ rfl rfl rfl rfl
    exact r_iret K dX10_close_19 hf (Nat.le_of_ble_eq_true rfl) (Nat.le_of_ble_eq_true rfl)
  · replace hf := ite_t hf c7
    refine r_iconst (v := (-1 : Int32)) K dX10_close_8 (by decide) ?_
    exact r_iret K dX10_close_9 hf (Nat.le_of_ble_eq_true rfl) (Nat.le_of_ble_eq_true rfl)
theorem ceX10_toll : CE yX10_toll 2 := ⟨by decide, by decide, by decide +kernel⟩
abbrev rmX10_toll : Room := { frames := 2, cells := 0, slots := 0, locals := 46 }
def fX10_toll (a0 : Nat) (x1 : Int32) (x2 : Int64) (h : AH) : Option (Int64 × AH) :=
  ob1 (fX10_isRoad a0 x1 h) fun r1 =>
  if r1 = (0 : Int32) then
    some ((-1 : Int64), h)
  else
    ob1 (fX10_in x2 (0 : Int64) (1000000000 : Int64)) fun r3 =>
    if r3 = (0 : Int32) then
      some ((-2 : Int64), h)
    else
      ob1 (fX10_ofRoad a0 x1 (7 : Int32) h) fun r5 =>
      ob1 (gR h a0 10 0) fun b7 =>
      ob1 (sL h b7 (((2 : Int32) + ((8 : Int32) * x1)) + (7 : Int32)) x2) fun g9 =>
      some (r5, g9)
set_option maxHeartbeats 4000000 in
set_option maxRecDepth 100000 in
theorem mX10_toll (l : Launch) {G : GG} {b0 : Nat} {h : AH} {a0 : Nat} {x1 : Int32} {x2 : Int64} {rr : Int64} {hh : AH} (ht : isO h a0 10) (hf : fX10_toll a0 x1 x2 h = some (rr, hh)) : MM l yX10_toll cX10_toll 6 (some .long) rmX10_toll G b0 h [.ref a0, .int x1, .long x2] (some (.long rr)) hh := by
  refine MM.of (own := RX10) (lv0 := [(0, .ref a0), (1, .int x1), (2, .long x2)]) (by decide) rfl (Nat.le_of_ble_eq_true rfl) rfl ?_
  intro p e s m args below meth c K hnm
  unfold fX10_toll at hf
  refine r_aload_n K 0 dX10_toll_0 rfl ?_
  refine r_iload_n K 1 dX10_toll_1 rfl ?_
  obtain ⟨r1, e2, hf⟩ := ob1_s hf
  refine r_callV (As := [.int x1]) (rest := []) (st1 := [.int r1]) (cells1 := 0) (slots1 := 0) (b := a0) (ci := 10) K (fun z => mX10_isRoad l z e2) dX10_toll_2 rfl (fun z => z _ _ ht) rfl ceX10_isRoad q_1036 q_1038 q_34 q_85 q_1039 ⟨Nat.le_of_ble_eq_true rfl, Nat.le_of_ble_eq_true rfl⟩ (Nat.le_of_ble_eq_true rfl) ⟨Nat.le_of_ble_eq_true rfl, Nat.le_of_ble_eq_true rfl⟩ ?_ rfl rfl rfl rfl
  refine r_if_ne (tgt := 12) K dX10_toll_5 (by decide) (fun c12 => ?_) (fun c12 => ?_)
  · replace hf := ite_f hf c12
    refine r_lload_n K 2 dX10_toll_12 rfl ?_
    refine r_lconst (v := (0 : Int64)) K dX10_toll_13 (by decide) ?_
    refine r_ldc2 K dX10_toll_14 q_1049 ?_
    obtain ⟨r3, e4, hf⟩ := ob1_s hf
    refine r_callS (As := [.long x2, .long (0 : Int64), .long (1000000000 : Int64)]) (rest := []) (st1 := [.int r3]) (cells1 := 0) (slots1 := 0) K (mX10_in l e4) dX10_toll_17 ceX10_in q_1005 q_1006 q_85 q_1007 ⟨Nat.le_of_ble_eq_true rfl, Nat.le_of_ble_eq_true rfl⟩ (Nat.le_of_ble_eq_true rfl) ⟨Nat.le_of_ble_eq_true rfl, Nat.le_of_ble_eq_true rfl⟩ ?_ rfl rfl rfl rfl
    refine r_if_ne (tgt := 27) K dX10_toll_20 (by decide) (fun c11 => ?_) (fun c11 => ?_)
    · replace hf := ite_f hf c11
      refine r_aload_n K 0 dX10_toll_27 rfl ?_
      refine r_iload_n K 1 dX10_toll_28 rfl ?_
      refine r_bipush (v := (7 : Int32)) K dX10_toll_29 (by decide) ?_
      obtain ⟨r5, e6, hf⟩ := ob1_s hf
      refine r_callV (As := [.int x1, .int (7 : Int32)]) (rest := []) (st1 := [.long r5]) (cells1 := 0) (slots1 := 0) (b := a0) (ci := 10) K (fun z => mX10_ofRoad l z e6) dX10_toll_31 rfl (fun z => z _ _ ht) rfl ceX10_ofRoad q_1051 q_1053 q_36 q_85 q_1054 ⟨Nat.le_of_ble_eq_true rfl, Nat.le_of_ble_eq_true rfl⟩ (Nat.le_of_ble_eq_true rfl) ⟨Nat.le_of_ble_eq_true rfl, Nat.le_of_ble_eq_true rfl⟩ ?_ rfl rfl rfl rfl
      refine r_lstore (lv1 := [(4, .long r5), (0, .ref a0), (1, .int x1), (2, .long x2)]) K dX10_toll_34 (by decide) rfl ?_
      refine r_aload_n K 1 dX10_toll_36 rfl ?_
      obtain ⟨b7, e8, hf⟩ := ob1_s hf
      refine r_getR (ci := 10) (k := 0) K dX10_toll_37 inX10 rfl (by decide) rfl q_906 e8 ?_
      refine r_iconst (v := (2 : Int32)) K dX10_toll_40 (by decide) ?_
      refine r_bipush (v := (8 : Int32)) K dX10_toll_41 (by decide) ?_
      refine r_iload_n K 2 dX10_toll_43 rfl ?_
      refine r_imul K dX10_toll_44 ?_
      refine r_iadd K dX10_toll_45 ?_
      refine r_bipush (v := (7 : Int32)) K dX10_toll_46 (by decide) ?_
      refine r_iadd K dX10_toll_48 ?_
      refine r_lload_n K 3 dX10_toll_49 rfl ?_
      obtain ⟨g9, e10, hf⟩ := ob1_s hf
      refine r_lastore K dX10_toll_50 e10 ?_
      refine r_lload K 0 dX10_toll_51 rfl ?_
      exact r_lret K dX10_toll_53 hf (Nat.le_of_ble_eq_true rfl) (Nat.le_of_ble_eq_true rfl)
    · replace hf := ite_t hf c11
      refine r_ldc2 K dX10_toll_23 q_1050 ?_
      exact r_lret K dX10_toll_26 hf (Nat.le_of_ble_eq_true rfl) (Nat.le_of_ble_eq_true rfl)
  · replace hf := ite_t hf c12
    refine r_ldc2 K dX10_toll_8 q_1048 ?_
    exact r_lret K dX10_toll_11 hf (Nat.le_of_ble_eq_true rfl) (Nat.le_of_ble_eq_true rfl)
theorem ceX10_of : CE yX10_of 2 := ⟨by decide, by decide, by decide +kernel⟩
abbrev rmX10_of : Room := { frames := 2, cells := 0, slots := 0, locals := 46 }
def fX10_of (a0 : Nat) (x1 : Int32) (x2 : Int32) (h : AH) : Option Int64 :=
  ob1 (fX10_isRoad a0 x1 h) fun r1 =>
  if r1 = (0 : Int32) then
    some (-9223372036854775808 : Int64)
  else
    ob1 (fX10_in (Int32.toInt64 x2) (0 : Int64) (7 : Int64)) fun r3 =>
    if r3 = (0 : Int32) then
      some (-9223372036854775808 : Int64)
    else
      ob1 (fX10_ofRoad a0 x1 x2 h) fun r5 =>
      some r5
set_option maxHeartbeats 4000000 in
set_option maxRecDepth 100000 in
theorem mX10_of (l : Launch) {G : GG} {b0 : Nat} {h : AH} {a0 : Nat} {x1 : Int32} {x2 : Int32} {rr : Int64} (ht : isO h a0 10) (hf : fX10_of a0 x1 x2 h = some rr) : MM l yX10_of cX10_of 3 (some .long) rmX10_of G b0 h [.ref a0, .int x1, .int x2] (some (.long rr)) h := by
  refine MM.of (own := RX10) (lv0 := [(0, .ref a0), (1, .int x1), (2, .int x2)]) (by decide) rfl (Nat.le_of_ble_eq_true rfl) rfl ?_
  intro p e s m args below meth c K hnm
  unfold fX10_of at hf
  refine r_aload_n K 0 dX10_of_0 rfl ?_
  refine r_iload_n K 1 dX10_of_1 rfl ?_
  obtain ⟨r1, e2, hf⟩ := ob1_s hf
  refine r_callV (As := [.int x1]) (rest := []) (st1 := [.int r1]) (cells1 := 0) (slots1 := 0) (b := a0) (ci := 10) K (fun z => mX10_isRoad l z e2) dX10_of_2 rfl (fun z => z _ _ ht) rfl ceX10_isRoad q_1036 q_1038 q_34 q_85 q_1039 ⟨Nat.le_of_ble_eq_true rfl, Nat.le_of_ble_eq_true rfl⟩ (Nat.le_of_ble_eq_true rfl) ⟨Nat.le_of_ble_eq_true rfl, Nat.le_of_ble_eq_true rfl⟩ ?_ rfl rfl rfl rfl
  refine r_if_eq (tgt := 29) K dX10_of_5 (by decide) (fun c8 => ?_) (fun c8 => ?_)
  · replace hf := ite_t hf c8
    refine r_ldc2 K dX10_of_29 q_1060 ?_
    exact r_lret K dX10_of_32 (retp hf) (Nat.le_of_ble_eq_true rfl) (Nat.le_of_ble_eq_true rfl)
  · replace hf := ite_f hf c8
    refine r_iload_n K 2 dX10_of_8 rfl ?_
    refine r_i2l K dX10_of_9 ?_
    refine r_lconst (v := (0 : Int64)) K dX10_of_10 (by decide) ?_
    refine r_ldc2 K dX10_of_11 q_1059 ?_
    obtain ⟨r3, e4, hf⟩ := ob1_s hf
    refine r_callS (As := [.long (Int32.toInt64 x2), .long (0 : Int64), .long (7 : Int64)]) (rest := []) (st1 := [.int r3]) (cells1 := 0) (slots1 := 0) K (mX10_in l e4) dX10_of_14 ceX10_in q_1005 q_1006 q_85 q_1007 ⟨Nat.le_of_ble_eq_true rfl, Nat.le_of_ble_eq_true rfl⟩ (Nat.le_of_ble_eq_true rfl) ⟨Nat.le_of_ble_eq_true rfl, Nat.le_of_ble_eq_true rfl⟩ ?_ rfl rfl rfl rfl
    refine r_if_eq (tgt := 29) K dX10_of_17 (by decide) (fun c7 => ?_) (fun c7 => ?_)
    · replace hf := ite_t hf c7
      refine r_ldc2 K dX10_of_29 q_1060 ?_
      exact r_lret K dX10_of_32 (retp hf) (Nat.le_of_ble_eq_true rfl) (Nat.le_of_ble_eq_true rfl)
    · replace hf := ite_f hf c7
      refine r_aload_n K 0 dX10_of_20 rfl ?_
      refine r_iload_n K 1 dX10_of_21 rfl ?_
      refine r_iload_n K 2 dX10_of_22 rfl ?_
      obtain ⟨r5, e6, hf⟩ := ob1_s hf
      refine r_callV (As := [.int x1, .int x2]) (rest := []) (st1 := [.long r5]) (cells1 := 0) (slots1 := 0) (b := a0) (ci := 10) K (fun z => mX10_ofRoad l z e6) dX10_of_23 rfl (fun z => z _ _ ht) rfl ceX10_ofRoad q_1051 q_1053 q_36 q_85 q_1054 ⟨Nat.le_of_ble_eq_true rfl, Nat.le_of_ble_eq_true rfl⟩ (Nat.le_of_ble_eq_true rfl) ⟨Nat.le_of_ble_eq_true rfl, Nat.le_of_ble_eq_true rfl⟩ ?_ rfl rfl rfl rfl
      refine r_goto (tgt := 32) K dX10_of_26 (by decide) ?_
      exact r_lret K dX10_of_32 (retp hf) (Nat.le_of_ble_eq_true rfl) (Nat.le_of_ble_eq_true rfl)
theorem ceX10_costBy : CE yX10_costBy 2 := ⟨by decide, by decide, by decide +kernel⟩
abbrev rmX10_costBy : Room := { frames := 1, cells := 0, slots := 0, locals := 22 }
def fX10_costBy (a0 : Nat) (x1 : Int32) (x2 : Int32) (h : AH) : Option Int64 :=
  ob1 (fX10_ofRoad a0 x1 (2 : Int32) h) fun r1 =>
  ob1 (fX10_ofRoad a0 x1 (3 : Int32) h) fun r3 =>
  bnd (fun (v6 : Int64) =>
    bnd (r3 + v6) fun y7 =>
    ob1 (fX10_ofRoad a0 x1 (6 : Int32) h) fun r8 =>
    bnd ((Int32.toInt64 x2) - r8) fun y10 =>
    if r1 ≤ (1 : Int64) then
      bnd (y7 + (0 : Int64)) fun y11 =>
      some y11
    else
      if y10 ≤ (0 : Int64) then
        bnd (y7 + (0 : Int64)) fun y12 =>
        some y12
      else
        ob1 (fX10_ofRoad a0 x1 (5 : Int32) h) fun r13 =>
        bnd (y7 + (r13 * y10)) fun y15 =>
        some y15
  ) fun j5 =>
  if r1 ≤ (0 : Int64) then
    j5 (0 : Int64)
  else
    ob1 (fX10_ofRoad a0 x1 (4 : Int32) h) fun r18 =>
    j5 (r18 * (Int32.toInt64 x2))
set_option maxHeartbeats 4000000 in
set_option maxRecDepth 100000 in
theorem mX10_costBy (l : Launch) {G : GG} {b0 : Nat} {h : AH} {a0 : Nat} {x1 : Int32} {x2 : Int32} {rr : Int64} (ht : isO h a0 10) (hf : fX10_costBy a0 x1 x2 h = some rr) : MM l yX10_costBy cX10_costBy 9 (some .long) rmX10_costBy G b0 h [.ref a0, .int x1, .int x2] (some (.long rr)) h := by
  refine MM.of (own := RX10) (lv0 := [(0, .ref a0), (1, .int x1), (2, .int x2)]) (by decide) rfl (Nat.le_of_ble_eq_true rfl) rfl ?_
  intro p e s m args below meth c K hnm
  unfold fX10_costBy at hf
  refine r_aload_n K 0 dX10_costBy_0 rfl ?_
  refine r_iload_n K 1 dX10_costBy_1 rfl ?_
  refine r_iconst (v := (2 : Int32)) K dX10_costBy_2 (by decide) ?_
  obtain ⟨r1, e2, hf⟩ := ob1_s hf
  refine r_callV (As := [.int x1, .int (2 : Int32)]) (rest := []) (st1 := [.long r1]) (cells1 := 0) (slots1 := 0) (b := a0) (ci := 10) K (fun z => mX10_ofRoad l z e2) dX10_costBy_3 rfl (fun z => z _ _ ht) rfl ceX10_ofRoad q_1051 q_1053 q_36 q_85 q_1054 ⟨Nat.le_of_ble_eq_true rfl, Nat.le_of_ble_eq_true rfl⟩ (Nat.le_of_ble_eq_true rfl) ⟨Nat.le_of_ble_eq_true rfl, Nat.le_of_ble_eq_true rfl⟩ ?_ rfl rfl rfl rfl
  refine r_lstore_n (lv1 := [(3, .long r1), (0, .ref a0), (1, .int x1), (2, .int x2)]) K dX10_costBy_6 (by decide) rfl ?_
  refine r_aload_n K 1 dX10_costBy_7 rfl ?_
  refine r_iload_n K 2 dX10_costBy_8 rfl ?_
  refine r_iconst (v := (3 : Int32)) K dX10_costBy_9 (by decide) ?_
  obtain ⟨r3, e4, hf⟩ := ob1_s hf
  refine r_callV (As := [.int x1, .int (3 : Int32)]) (rest := []) (st1 := [.long r3]) (cells1 := 0) (slots1 := 0) (b := a0) (ci := 10) K (fun z => mX10_ofRoad l z e4) dX10_costBy_10 rfl (fun z => z _ _ ht) rfl ceX10_ofRoad q_1051 q_1053 q_36 q_85 q_1054 ⟨Nat.le_of_ble_eq_true rfl, Nat.le_of_ble_eq_true rfl⟩ (Nat.le_of_ble_eq_true rfl) ⟨Nat.le_of_ble_eq_true rfl, Nat.le_of_ble_eq_true rfl⟩ ?_ rfl rfl rfl rfl
  refine r_lstore (lv1 := [(5, .long r3), (3, .long r1), (0, .ref a0), (1, .int x1), (2, .int x2)]) K dX10_costBy_13 (by decide) rfl ?_
  refine r_lload K 0 dX10_costBy_15 rfl ?_
  refine r_lload_n K 1 dX10_costBy_17 rfl ?_
  refine r_lconst (v := (0 : Int64)) K dX10_costBy_18 (by decide) ?_
  obtain ⟨j5, ej5, hf⟩ := bnd_g hf
  have Jj5 : ∀ (v6 : Int64), j5 v6 = some rr → WA p l e rmX10_costBy s m args below meth c (MQ below (QG G b0 h (some (.long rr)) h) args s (rmX10_costBy).cells (rmX10_costBy).slots (AB b0)) G b0 9 h 0 0 h 36 [(0, .ref a0), (1, .int x1), (2, .int x2), (3, .long r1)] [.long v6, .long r3] := by
    intro v6 hf
    rw [ej5] at hf
    refine r_ladd K dX10_costBy_36 ?_
    obtain ⟨y7, ey7, hf⟩ := bnd_g hf
    refine r_nml ey7 ?_
    refine r_lstore (lv1 := [(5, .long y7), (0, .ref a0), (1, .int x1), (2, .int x2), (3, .long r1)]) K dX10_costBy_37 (by decide) rfl ?_
    refine r_iload_n K 3 dX10_costBy_39 rfl ?_
    refine r_i2l K dX10_costBy_40 ?_
    refine r_aload_n K 1 dX10_costBy_41 rfl ?_
    refine r_iload_n K 2 dX10_costBy_42 rfl ?_
    refine r_bipush (v := (6 : Int32)) K dX10_costBy_43 (by decide) ?_
    obtain ⟨r8, e9, hf⟩ := ob1_s hf
    refine r_callV (As := [.int x1, .int (6 : Int32)]) (rest := [.long (Int32.toInt64 x2)]) (st1 := [.long r8, .long (Int32.toInt64 x2)]) (cells1 := 0) (slots1 := 0) (b := a0) (ci := 10) K (fun z => mX10_ofRoad l z e9) dX10_costBy_45 rfl (fun z => z _ _ ht) rfl ceX10_ofRoad q_1051 q_1053 q_36 q_85 q_1054 ⟨Nat.le_of_ble_eq_true rfl, Nat.le_of_ble_eq_true rfl⟩ (Nat.le_of_ble_eq_true rfl) ⟨Nat.le_of_ble_eq_true rfl, Nat.le_of_ble_eq_true rfl⟩ ?_ rfl rfl rfl rfl
    refine r_lsub K dX10_costBy_48 ?_
    obtain ⟨y10, ey10, hf⟩ := bnd_g hf
    refine r_nml ey10 ?_
    refine r_lstore (lv1 := [(7, .long y10), (5, .long y7), (0, .ref a0), (1, .int x1), (2, .int x2), (3, .long r1)]) K dX10_costBy_49 (by decide) rfl ?_
    refine r_lload K 1 dX10_costBy_51 rfl ?_
    refine r_lload_n K 5 dX10_costBy_53 rfl ?_
    refine r_lconst (v := (1 : Int64)) K dX10_costBy_54 (by decide) ?_
    refine r_lif_le (tgt := 78) K dX10_costBy_55 dX10_costBy_56 (by decide) (fun c17 => ?_) (fun c17 => ?_)
    · replace hf := ite_t hf c17
      refine r_lconst (v := (0 : Int64)) K dX10_costBy_78 (by decide) ?_
      refine r_ladd K dX10_costBy_79 ?_
      obtain ⟨y11, ey11, hf⟩ := bnd_g hf
      refine r_nml ey11 ?_
      refine r_lstore (lv1 := [(5, .long y11), (7, .long y10), (0, .ref a0), (1, .int x1), (2, .int x2), (3, .long r1)]) K dX10_costBy_80 (by decide) rfl ?_
      refine r_lload K 0 dX10_costBy_82 rfl ?_
      exact r_lret K dX10_costBy_84 (retp hf) (Nat.le_of_ble_eq_true rfl) (Nat.le_of_ble_eq_true rfl)
    · replace hf := ite_f hf c17
      refine r_lload K 0 dX10_costBy_59 rfl ?_
      refine r_lconst (v := (0 : Int64)) K dX10_costBy_61 (by decide) ?_
      refine r_lif_le (tgt := 78) K dX10_costBy_62 dX10_costBy_63 (by decide) (fun c16 => ?_) (fun c16 => ?_)
      · replace hf := ite_t hf c16
        refine r_lconst (v := (0 : Int64)) K dX10_costBy_78 (by decide) ?_
        refine r_ladd K dX10_costBy_79 ?_
        obtain ⟨y12, ey12, hf⟩ := bnd_g hf
        refine r_nml ey12 ?_
        refine r_lstore (lv1 := [(5, .long y12), (7, .long y10), (0, .ref a0), (1, .int x1), (2, .int x2), (3, .long r1)]) K dX10_costBy_80 (by decide) rfl ?_
        refine r_lload K 0 dX10_costBy_82 rfl ?_
        exact r_lret K dX10_costBy_84 (retp hf) (Nat.le_of_ble_eq_true rfl) (Nat.le_of_ble_eq_true rfl)
      · replace hf := ite_f hf c16
        refine r_aload_n K 2 dX10_costBy_66 rfl ?_
        refine r_iload_n K 3 dX10_costBy_67 rfl ?_
        refine r_iconst (v := (5 : Int32)) K dX10_costBy_68 (by decide) ?_
        obtain ⟨r13, e14, hf⟩ := ob1_s hf
        refine r_callV (As := [.int x1, .int (5 : Int32)]) (rest := [.long y7]) (st1 := [.long r13, .long y7]) (cells1 := 0) (slots1 := 0) (b := a0) (ci := 10) K (fun z => mX10_ofRoad l z e14) dX10_costBy_69 rfl (fun z => z _ _ ht) rfl ceX10_ofRoad q_1051 q_1053 q_36 q_85 q_1054 ⟨Nat.le_of_ble_eq_true rfl, Nat.le_of_ble_eq_true rfl⟩ (Nat.le_of_ble_eq_true rfl) ⟨Nat.le_of_ble_eq_true rfl, Nat.le_of_ble_eq_true rfl⟩ ?_ rfl rfl rfl rfl
        refine r_lload K 0 dX10_costBy_72 rfl ?_
        refine r_lmul K dX10_costBy_74 ?_
        refine r_goto (tgt := 79) K dX10_costBy_75 (by decide) ?_
        refine r_ladd K dX10_costBy_79 ?_
        obtain ⟨y15, ey15, hf⟩ := bnd_g hf
        refine r_nml ey15 ?_
        refine r_lstore (lv1 := [(5, .long y15), (7, .long y10), (0, .ref a0), (1, .int x1), (2, .int x2), (3, .long r1)]) K dX10_costBy_80 (by decide) rfl ?_
        refine r_lload K 0 dX10_costBy_82 rfl ?_
        exact r_lret K dX10_costBy_84 (retp hf) (Nat.le_of_ble_eq_true rfl) (Nat.le_of_ble_eq_true rfl)
  refine r_lif_le (tgt := 35) K dX10_costBy_19 dX10_costBy_20 (by decide) (fun c20 => ?_) (fun c20 => ?_)
  · replace hf := ite_t hf c20
    refine r_lconst (v := (0 : Int64)) K dX10_costBy_35 (by decide) ?_
    refine r_lv [2, 3, 4, 1] rfl ?_
    exact Jj5 (0 : Int64) hf
  · replace hf := ite_f hf c20
    refine r_aload_n K 2 dX10_costBy_23 rfl ?_
    refine r_iload_n K 3 dX10_costBy_24 rfl ?_
    refine r_iconst (v := (4 : Int32)) K dX10_costBy_25 (by decide) ?_
    obtain ⟨r18, e19, hf⟩ := ob1_s hf
    refine r_callV (As := [.int x1, .int (4 : Int32)]) (rest := [.long r3]) (st1 := [.long r18, .long r3]) (cells1 := 0) (slots1 := 0) (b := a0) (ci := 10) K (fun z => mX10_ofRoad l z e19) dX10_costBy_26 rfl (fun z => z _ _ ht) rfl ceX10_ofRoad q_1051 q_1053 q_36 q_85 q_1054 ⟨Nat.le_of_ble_eq_true rfl, Nat.le_of_ble_eq_true rfl⟩ (Nat.le_of_ble_eq_true rfl) ⟨Nat.le_of_ble_eq_true rfl, Nat.le_of_ble_eq_true rfl⟩ ?_ rfl rfl rfl rfl
    refine r_iload_n K 4 dX10_costBy_29 rfl ?_
    refine r_i2l K dX10_costBy_30 ?_
    refine r_lmul K dX10_costBy_31 ?_
    refine r_goto (tgt := 36) K dX10_costBy_32 (by decide) ?_
    refine r_lv [2, 3, 4, 1] rfl ?_
    exact Jj5 (r18 * (Int32.toInt64 x2)) hf
theorem ceX10_lossBy : CE yX10_lossBy 2 := ⟨by decide, by decide, by decide +kernel⟩
abbrev rmX10_lossBy : Room := { frames := 2, cells := 0, slots := 0, locals := 50 }
def fX10_lossBy (a0 : Nat) (x1 : Int32) (x2 : Int32) (h : AH) : Option Int64 :=
  if (1 : Int32) < x2 then
    ob1 (fX10_costBy a0 x1 x2 h) fun r1 =>
    ob1 (fX10_costBy a0 x1 (x2 - (1 : Int32)) h) fun r3 =>
    some (((Int32.toInt64 x2) - (1 : Int64)) * (r1 - r3))
  else
    some (0 : Int64)
set_option maxHeartbeats 4000000 in
set_option maxRecDepth 100000 in
theorem mX10_lossBy (l : Launch) {G : GG} {b0 : Nat} {h : AH} {a0 : Nat} {x1 : Int32} {x2 : Int32} {rr : Int64} (ht : isO h a0 10) (hf : fX10_lossBy a0 x1 x2 h = some rr) : MM l yX10_lossBy cX10_lossBy 3 (some .long) rmX10_lossBy G b0 h [.ref a0, .int x1, .int x2] (some (.long rr)) h := by
  refine MM.of (own := RX10) (lv0 := [(0, .ref a0), (1, .int x1), (2, .int x2)]) (by decide) rfl (Nat.le_of_ble_eq_true rfl) rfl ?_
  intro p e s m args below meth c K hnm
  unfold fX10_lossBy at hf
  refine r_iload_n K 2 dX10_lossBy_0 rfl ?_
  refine r_iconst (v := (1 : Int32)) K dX10_lossBy_1 (by decide) ?_
  refine r_icmp_gt (tgt := 9) K dX10_lossBy_2 (by decide) (fun c5 => ?_) (fun c5 => ?_)
  · replace hf := ite_t hf c5
    refine r_iload_n K 2 dX10_lossBy_9 rfl ?_
    refine r_i2l K dX10_lossBy_10 ?_
    refine r_lconst (v := (1 : Int64)) K dX10_lossBy_11 (by decide) ?_
    refine r_lsub K dX10_lossBy_12 ?_
    refine r_aload_n K 0 dX10_lossBy_13 rfl ?_
    refine r_iload_n K 1 dX10_lossBy_14 rfl ?_
    refine r_iload_n K 2 dX10_lossBy_15 rfl ?_
    obtain ⟨r1, e2, hf⟩ := ob1_s hf
    refine r_callV (As := [.int x1, .int x2]) (rest := [.long ((Int32.toInt64 x2) - (1 : Int64))]) (st1 := [.long r1, .long ((Int32.toInt64 x2) - (1 : Int64))]) (cells1 := 0) (slots1 := 0) (b := a0) (ci := 10) K (fun z => mX10_costBy l z e2) dX10_lossBy_16 rfl (fun z => z _ _ ht) rfl ceX10_costBy q_1065 q_1067 q_37 q_85 q_1068 ⟨Nat.le_of_ble_eq_true rfl, Nat.le_of_ble_eq_true rfl⟩ (Nat.le_of_ble_eq_true rfl) ⟨Nat.le_of_ble_eq_true rfl, Nat.le_of_ble_eq_true rfl⟩ ?_ rfl rfl rfl rfl
    refine r_aload_n K 0 dX10_lossBy_19 rfl ?_
    refine r_iload_n K 1 dX10_lossBy_20 rfl ?_
    refine r_iload_n K 2 dX10_lossBy_21 rfl ?_
    refine r_iconst (v := (1 : Int32)) K dX10_lossBy_22 (by decide) ?_
    refine r_isub K dX10_lossBy_23 ?_
    obtain ⟨r3, e4, hf⟩ := ob1_s hf
    refine r_callV (As := [.int x1, .int (x2 - (1 : Int32))]) (rest := [.long r1, .long ((Int32.toInt64 x2) - (1 : Int64))]) (st1 := [.long r3, .long r1, .long ((Int32.toInt64 x2) - (1 : Int64))]) (cells1 := 0) (slots1 := 0) (b := a0) (ci := 10) K (fun z => mX10_costBy l z e4) dX10_lossBy_24 rfl (fun z => z _ _ ht) rfl ceX10_costBy q_1065 q_1067 q_37 q_85 q_1068 ⟨Nat.le_of_ble_eq_true rfl, Nat.le_of_ble_eq_true rfl⟩ (Nat.le_of_ble_eq_true rfl) ⟨Nat.le_of_ble_eq_true rfl, Nat.le_of_ble_eq_true rfl⟩ ?_ rfl rfl rfl rfl
    refine r_lsub K dX10_lossBy_27 ?_
    refine r_lmul K dX10_lossBy_28 ?_
    exact r_lret K dX10_lossBy_29 (retp hf) (Nat.le_of_ble_eq_true rfl) (Nat.le_of_ble_eq_true rfl)
  · replace hf := ite_f hf c5
    refine r_lconst (v := (0 : Int64)) K dX10_lossBy_5 (by decide) ?_
    refine r_goto (tgt := 29) K dX10_lossBy_6 (by decide) ?_
    exact r_lret K dX10_lossBy_29 (retp hf) (Nat.le_of_ble_eq_true rfl) (Nat.le_of_ble_eq_true rfl)
theorem ceX10_cost : CE yX10_cost 3 := ⟨by decide, by decide, by decide +kernel⟩
abbrev rmX10_cost : Room := { frames := 3, cells := 0, slots := 0, locals := 72 }
def fX10_cost (a0 : Nat) (x1 : Int32) (x2 : Int32) (x3 : Int32) (h : AH) : Option Int64 :=
  ob1 (fX10_isRoad a0 x1 h) fun r1 =>
  if r1 = (0 : Int32) then
    some (-9223372036854775808 : Int64)
  else
    ob1 (fX10_in (Int32.toInt64 x2) (1 : Int64) (36 : Int64)) fun r3 =>
    if r3 = (0 : Int32) then
      some (-9223372036854775808 : Int64)
    else
      ob1 (fX10_in (Int32.toInt64 x3) (0 : Int64) (1 : Int64)) fun r5 =>
      if r5 = (0 : Int32) then
        some (-9223372036854775808 : Int64)
      else
        if x3 = (0 : Int32) then
          ob1 (fX10_costBy a0 x1 x2 h) fun r9 =>
          some r9
        else
          ob1 (fX10_lossBy a0 x1 x2 h) fun r7 =>
          some r7
set_option maxHeartbeats 4000000 in
set_option maxRecDepth 100000 in
theorem mX10_cost (l : Launch) {G : GG} {b0 : Nat} {h : AH} {a0 : Nat} {x1 : Int32} {x2 : Int32} {x3 : Int32} {rr : Int64} (ht : isO h a0 10) (hf : fX10_cost a0 x1 x2 x3 h = some rr) : MM l yX10_cost cX10_cost 4 (some .long) rmX10_cost G b0 h [.ref a0, .int x1, .int x2, .int x3] (some (.long rr)) h := by
  refine MM.of (own := RX10) (lv0 := [(0, .ref a0), (1, .int x1), (2, .int x2), (3, .int x3)]) (by decide) rfl (Nat.le_of_ble_eq_true rfl) rfl ?_
  intro p e s m args below meth c K hnm
  unfold fX10_cost at hf
  refine r_aload_n K 0 dX10_cost_0 rfl ?_
  refine r_iload_n K 1 dX10_cost_1 rfl ?_
  obtain ⟨r1, e2, hf⟩ := ob1_s hf
  refine r_callV (As := [.int x1]) (rest := []) (st1 := [.int r1]) (cells1 := 0) (slots1 := 0) (b := a0) (ci := 10) K (fun z => mX10_isRoad l z e2) dX10_cost_2 rfl (fun z => z _ _ ht) rfl ceX10_isRoad q_1036 q_1038 q_34 q_85 q_1039 ⟨Nat.le_of_ble_eq_true rfl, Nat.le_of_ble_eq_true rfl⟩ (Nat.le_of_ble_eq_true rfl) ⟨Nat.le_of_ble_eq_true rfl, Nat.le_of_ble_eq_true rfl⟩ ?_ rfl rfl rfl rfl
  refine r_if_eq (tgt := 30) K dX10_cost_5 (by decide) (fun c14 => ?_) (fun c14 => ?_)
  · replace hf := ite_t hf c14
    refine r_ldc2 K dX10_cost_30 q_1060 ?_
    exact r_lret K dX10_cost_33 (retp hf) (Nat.le_of_ble_eq_true rfl) (Nat.le_of_ble_eq_true rfl)
  · replace hf := ite_f hf c14
    refine r_iload_n K 2 dX10_cost_8 rfl ?_
    refine r_i2l K dX10_cost_9 ?_
    refine r_lconst (v := (1 : Int64)) K dX10_cost_10 (by decide) ?_
    refine r_ldc2 K dX10_cost_11 q_1022 ?_
    obtain ⟨r3, e4, hf⟩ := ob1_s hf
    refine r_callS (As := [.long (Int32.toInt64 x2), .long (1 : Int64), .long (36 : Int64)]) (rest := []) (st1 := [.int r3]) (cells1 := 0) (slots1 := 0) K (mX10_in l e4) dX10_cost_14 ceX10_in q_1005 q_1006 q_85 q_1007 ⟨Nat.le_of_ble_eq_true rfl, Nat.le_of_ble_eq_true rfl⟩ (Nat.le_of_ble_eq_true rfl) ⟨Nat.le_of_ble_eq_true rfl, Nat.le_of_ble_eq_true rfl⟩ ?_ rfl rfl rfl rfl
    refine r_if_eq (tgt := 30) K dX10_cost_17 (by decide) (fun c13 => ?_) (fun c13 => ?_)
    · replace hf := ite_t hf c13
      refine r_ldc2 K dX10_cost_30 q_1060 ?_
      exact r_lret K dX10_cost_33 (retp hf) (Nat.le_of_ble_eq_true rfl) (Nat.le_of_ble_eq_true rfl)
    · replace hf := ite_f hf c13
      refine r_iload_n K 3 dX10_cost_20 rfl ?_
      refine r_i2l K dX10_cost_21 ?_
      refine r_lconst (v := (0 : Int64)) K dX10_cost_22 (by decide) ?_
      refine r_lconst (v := (1 : Int64)) K dX10_cost_23 (by decide) ?_
      obtain ⟨r5, e6, hf⟩ := ob1_s hf
      refine r_callS (As := [.long (Int32.toInt64 x3), .long (0 : Int64), .long (1 : Int64)]) (rest := []) (st1 := [.int r5]) (cells1 := 0) (slots1 := 0) K (mX10_in l e6) dX10_cost_24 ceX10_in q_1005 q_1006 q_85 q_1007 ⟨Nat.le_of_ble_eq_true rfl, Nat.le_of_ble_eq_true rfl⟩ (Nat.le_of_ble_eq_true rfl) ⟨Nat.le_of_ble_eq_true rfl, Nat.le_of_ble_eq_true rfl⟩ ?_ rfl rfl rfl rfl
      refine r_if_ne (tgt := 34) K dX10_cost_27 (by decide) (fun c12 => ?_) (fun c12 => ?_)
      · replace hf := ite_f hf c12
        refine r_iload_n K 3 dX10_cost_34 rfl ?_
        refine r_if_ne (tgt := 47) K dX10_cost_35 (by decide) (fun c11 => ?_) (fun c11 => ?_)
        · replace hf := ite_f hf c11
          refine r_aload_n K 0 dX10_cost_47 rfl ?_
          refine r_iload_n K 1 dX10_cost_48 rfl ?_
          refine r_iload_n K 2 dX10_cost_49 rfl ?_
          obtain ⟨r7, e8, hf⟩ := ob1_s hf
          refine r_callV (As := [.int x1, .int x2]) (rest := []) (st1 := [.long r7]) (cells1 := 0) (slots1 := 0) (b := a0) (ci := 10) K (fun z => mX10_lossBy l z e8) dX10_cost_50 rfl (fun z => z _ _ ht) rfl ceX10_lossBy q_1069 q_1071 q_38 q_85 q_1072 ⟨Nat.le_of_ble_eq_true rfl, Nat.le_of_ble_eq_true rfl⟩ (Nat.le_of_ble_eq_true rfl) ⟨Nat.le_of_ble_eq_true rfl, Nat.le_of_ble_eq_true rfl⟩ ?_ rfl rfl rfl rfl
          exact r_lret K dX10_cost_53 (retp hf) (Nat.le_of_ble_eq_true rfl) (Nat.le_of_ble_eq_true rfl)
        · replace hf := ite_t hf c11
          refine r_aload_n K 0 dX10_cost_38 rfl ?_
          refine r_iload_n K 1 dX10_cost_39 rfl ?_
          refine r_iload_n K 2 dX10_cost_40 rfl ?_
          obtain ⟨r9, e10, hf⟩ := ob1_s hf
          refine r_callV (As := [.int x1, .int x2]) (rest := []) (st1 := [.long r9]) (cells1 := 0) (slots1 := 0) (b := a0) (ci := 10) K (fun z => mX10_costBy l z e10) dX10_cost_41 rfl (fun z => z _ _ ht) rfl ceX10_costBy q_1065 q_1067 q_37 q_85 q_1068 ⟨Nat.le_of_ble_eq_true rfl, Nat.le_of_ble_eq_true rfl⟩ (Nat.le_of_ble_eq_true rfl) ⟨Nat.le_of_ble_eq_true rfl, Nat.le_of_ble_eq_true rfl⟩ ?_ rfl rfl rfl rfl
          refine r_goto (tgt := 53) K dX10_cost_44 (by decide) ?_
          exact r_lret K dX10_cost_53 (retp hf) (Nat.le_of_ble_eq_true rfl) (Nat.le_of_ble_eq_true rfl)
      · replace hf := ite_t hf c12
        refine r_ldc2 K dX10_cost_30 q_1060 ?_
        exact r_lret K dX10_cost_33 (retp hf) (Nat.le_of_ble_eq_true rfl) (Nat.le_of_ble_eq_true rfl)
theorem ceX10_isGood : CE yX10_isGood 2 := ⟨by decide, by decide, by decide +kernel⟩
abbrev rmX10_isGood : Room := { frames := 1, cells := 0, slots := 0, locals := 25 }
def fX10_isGood (x0 : Int32) (x1 : Int32) : Option Int32 :=
  if x0 = (0 : Int32) then
    ob1 (fX10_in (Int32.toInt64 x1) (1 : Int64) (5 : Int64)) fun r1 =>
    gd (zb r1) <|
    some r1
  else
  if x0 = (1 : Int32) then
    ob1 (fX10_in (Int32.toInt64 x1) (0 : Int64) (12 : Int64)) fun r5 =>
    gd (zb r5) <|
    some r5
  else
  if x0 = (2 : Int32) then
    ob1 (fX10_in (Int32.toInt64 x1) (1 : Int64) (9 : Int64)) fun r9 =>
    gd (zb r9) <|
    some r9
  else
  ob1 (fX10_in (Int32.toInt64 x1) (0 : Int64) (9 : Int64)) fun r13 =>
  gd (zb r13) <|
  some r13
set_option maxHeartbeats 4000000 in
set_option maxRecDepth 100000 in
theorem mX10_isGood (l : Launch) {G : GG} {b0 : Nat} {h : AH} {x0 : Int32} {x1 : Int32} {rr : Int32} (hf : fX10_isGood x0 x1 = some rr) : MM l yX10_isGood cX10_isGood 2 (some .boolean) rmX10_isGood G b0 h [.int x0, .int x1] (some (.int rr)) h := by
  refine MM.of (own := RX10) (lv0 := [(0, .int x0), (1, .int x1)]) (by decide) rfl (Nat.le_of_ble_eq_true rfl) rfl ?_
  intro p e s m args below meth c K hnm
  unfold fX10_isGood at hf
  refine r_iload_n K 0 dX10_isGood_0 rfl ?_
  by_cases c4 : x0 = (0 : Int32)
  · replace hf := ite_t hf c4
    refine r_tin (v := (0 : Int32)) (tgt := 28) K dX10_isGood_1 c4 (by decide) (by decide) rfl (by decide) ?_
    refine r_iload_n K 1 dX10_isGood_28 rfl ?_
    refine r_i2l K dX10_isGood_29 ?_
    refine r_lconst (v := (1 : Int64)) K dX10_isGood_30 (by decide) ?_
    refine r_ldc2 K dX10_isGood_31 q_1084 ?_
    obtain ⟨r1, e2, hf⟩ := ob1_s hf
    refine r_callS (As := [.long (Int32.toInt64 x1), .long (1 : Int64), .long (5 : Int64)]) (rest := []) (st1 := [.int r1]) (cells1 := 0) (slots1 := 0) K (mX10_in l e2) dX10_isGood_34 ceX10_in q_1005 q_1006 q_85 q_1007 ⟨Nat.le_of_ble_eq_true rfl, Nat.le_of_ble_eq_true rfl⟩ (Nat.le_of_ble_eq_true rfl) ⟨Nat.le_of_ble_eq_true rfl, Nat.le_of_ble_eq_true rfl⟩ ?_ rfl rfl rfl rfl
    obtain ⟨z3, hf⟩ := gd_s hf
    exact r_zret K dX10_isGood_37 (zb_n z3) (retp hf) (Nat.le_of_ble_eq_true rfl) (Nat.le_of_ble_eq_true rfl)
  replace hf := ite_f hf c4
  by_cases c8 : x0 = (1 : Int32)
  · replace hf := ite_t hf c8
    refine r_tin (v := (1 : Int32)) (tgt := 38) K dX10_isGood_1 c8 (by decide) (by decide) rfl (by decide) ?_
    refine r_iload_n K 1 dX10_isGood_38 rfl ?_
    refine r_i2l K dX10_isGood_39 ?_
    refine r_lconst (v := (0 : Int64)) K dX10_isGood_40 (by decide) ?_
    refine r_ldc2 K dX10_isGood_41 q_1023 ?_
    obtain ⟨r5, e6, hf⟩ := ob1_s hf
    refine r_callS (As := [.long (Int32.toInt64 x1), .long (0 : Int64), .long (12 : Int64)]) (rest := []) (st1 := [.int r5]) (cells1 := 0) (slots1 := 0) K (mX10_in l e6) dX10_isGood_44 ceX10_in q_1005 q_1006 q_85 q_1007 ⟨Nat.le_of_ble_eq_true rfl, Nat.le_of_ble_eq_true rfl⟩ (Nat.le_of_ble_eq_true rfl) ⟨Nat.le_of_ble_eq_true rfl, Nat.le_of_ble_eq_true rfl⟩ ?_ rfl rfl rfl rfl
    obtain ⟨z7, hf⟩ := gd_s hf
    exact r_zret K dX10_isGood_47 (zb_n z7) (retp hf) (Nat.le_of_ble_eq_true rfl) (Nat.le_of_ble_eq_true rfl)
  replace hf := ite_f hf c8
  by_cases c12 : x0 = (2 : Int32)
  · replace hf := ite_t hf c12
    refine r_tin (v := (2 : Int32)) (tgt := 48) K dX10_isGood_1 c12 (by decide) (by decide) rfl (by decide) ?_
    refine r_iload_n K 1 dX10_isGood_48 rfl ?_
    refine r_i2l K dX10_isGood_49 ?_
    refine r_lconst (v := (1 : Int64)) K dX10_isGood_50 (by decide) ?_
    refine r_ldc2 K dX10_isGood_51 q_1085 ?_
    obtain ⟨r9, e10, hf⟩ := ob1_s hf
    refine r_callS (As := [.long (Int32.toInt64 x1), .long (1 : Int64), .long (9 : Int64)]) (rest := []) (st1 := [.int r9]) (cells1 := 0) (slots1 := 0) K (mX10_in l e10) dX10_isGood_54 ceX10_in q_1005 q_1006 q_85 q_1007 ⟨Nat.le_of_ble_eq_true rfl, Nat.le_of_ble_eq_true rfl⟩ (Nat.le_of_ble_eq_true rfl) ⟨Nat.le_of_ble_eq_true rfl, Nat.le_of_ble_eq_true rfl⟩ ?_ rfl rfl rfl rfl
    obtain ⟨z11, hf⟩ := gd_s hf
    exact r_zret K dX10_isGood_57 (zb_n z11) (retp hf) (Nat.le_of_ble_eq_true rfl) (Nat.le_of_ble_eq_true rfl)
  replace hf := ite_f hf c12
  refine r_tout (N := 3) (tgt := 58) K dX10_isGood_1 (fun j hj => by match j, hj with | 0, _ => exact c4 | 1, _ => exact c8 | 2, _ => exact c12) (by decide) (by decide) (by decide) ?_
  refine r_iload_n K 1 dX10_isGood_58 rfl ?_
  refine r_i2l K dX10_isGood_59 ?_
  refine r_lconst (v := (0 : Int64)) K dX10_isGood_60 (by decide) ?_
  refine r_ldc2 K dX10_isGood_61 q_1085 ?_
  obtain ⟨r13, e14, hf⟩ := ob1_s hf
  refine r_callS (As := [.long (Int32.toInt64 x1), .long (0 : Int64), .long (9 : Int64)]) (rest := []) (st1 := [.int r13]) (cells1 := 0) (slots1 := 0) K (mX10_in l e14) dX10_isGood_64 ceX10_in q_1005 q_1006 q_85 q_1007 ⟨Nat.le_of_ble_eq_true rfl, Nat.le_of_ble_eq_true rfl⟩ (Nat.le_of_ble_eq_true rfl) ⟨Nat.le_of_ble_eq_true rfl, Nat.le_of_ble_eq_true rfl⟩ ?_ rfl rfl rfl rfl
  obtain ⟨z15, hf⟩ := gd_s hf
  exact r_zret K dX10_isGood_67 (zb_n z15) (retp hf) (Nat.le_of_ble_eq_true rfl) (Nat.le_of_ble_eq_true rfl)
theorem ceX10_drivers : CE yX10_drivers 3 := ⟨by decide, by decide, by decide +kernel⟩
abbrev rmX10_drivers : Room := { frames := 2, cells := 0, slots := 0, locals := 46 }
def fX10_drivers (a0 : Nat) (x1 : Int32) (x2 : Int32) (x3 : Int32) (h : AH) : Option (Int32 × AH) :=
  ob1 (fX10_isClass x1) fun r1 =>
  if r1 = (0 : Int32) then
    some ((-1 : Int32), h)
  else
    ob1 (fX10_in (Int32.toInt64 x2) (0 : Int64) (3 : Int64)) fun r3 =>
    if r3 = (0 : Int32) then
      some ((-1 : Int32), h)
    else
      ob1 (fX10_isGood x2 x3) fun r5 =>
      if r5 = (0 : Int32) then
        some ((-2 : Int32), h)
      else
        ob1 (fX10_ofClass a0 x1 x2 h) fun r7 =>
        bnd (Int64.toInt32 r7) fun y9 =>
        ob1 (gR h a0 10 0) fun b10 =>
        ob1 (sL h b10 (((106 : Int32) + ((4 : Int32) * x1)) + x2) (Int32.toInt64 x3)) fun g12 =>
        some (y9, g12)
set_option maxHeartbeats 4000000 in
set_option maxRecDepth 100000 in
theorem mX10_drivers (l : Launch) {G : GG} {b0 : Nat} {h : AH} {a0 : Nat} {x1 : Int32} {x2 : Int32} {x3 : Int32} {rr : Int32} {hh : AH} (ht : isO h a0 10) (hf : fX10_drivers a0 x1 x2 x3 h = some (rr, hh)) : MM l yX10_drivers cX10_drivers 5 (some .int) rmX10_drivers G b0 h [.ref a0, .int x1, .int x2, .int x3] (some (.int rr)) hh := by
  refine MM.of (own := RX10) (lv0 := [(0, .ref a0), (1, .int x1), (2, .int x2), (3, .int x3)]) (by decide) rfl (Nat.le_of_ble_eq_true rfl) rfl ?_
  intro p e s m args below meth c K hnm
  unfold fX10_drivers at hf
  refine r_iload_n K 1 dX10_drivers_0 rfl ?_
  obtain ⟨r1, e2, hf⟩ := ob1_s hf
  refine r_callS (As := [.int x1]) (rest := []) (st1 := [.int r1]) (cells1 := 0) (slots1 := 0) K (mX10_isClass l e2) dX10_drivers_1 ceX10_isClass q_1077 q_1078 q_85 q_1079 ⟨Nat.le_of_ble_eq_true rfl, Nat.le_of_ble_eq_true rfl⟩ (Nat.le_of_ble_eq_true rfl) ⟨Nat.le_of_ble_eq_true rfl, Nat.le_of_ble_eq_true rfl⟩ ?_ rfl rfl rfl rfl
  refine r_if_eq (tgt := 19) K dX10_drivers_4 (by decide) (fun c16 => ?_) (fun c16 => ?_)
  · replace hf := ite_t hf c16
    refine r_iconst (v := (-1 : Int32)) K dX10_drivers_19 (by decide) ?_
    exact r_iret K dX10_drivers_20 hf (Nat.le_of_ble_eq_true rfl) (Nat.le_of_ble_eq_true rfl)
  · replace hf := ite_f hf c16
    refine r_iload_n K 2 dX10_drivers_7 rfl ?_
    refine r_i2l K dX10_drivers_8 ?_
    refine r_lconst (v := (0 : Int64)) K dX10_drivers_9 (by decide) ?_
    refine r_ldc2 K dX10_drivers_10 q_1080 ?_
    obtain ⟨r3, e4, hf⟩ := ob1_s hf
    refine r_callS (As := [.long (Int32.toInt64 x2), .long (0 : Int64), .long (3 : Int64)]) (rest := []) (st1 := [.int r3]) (cells1 := 0) (slots1 := 0) K (mX10_in l e4) dX10_drivers_13 ceX10_in q_1005 q_1006 q_85 q_1007 ⟨Nat.le_of_ble_eq_true rfl, Nat.le_of_ble_eq_true rfl⟩ (Nat.le_of_ble_eq_true rfl) ⟨Nat.le_of_ble_eq_true rfl, Nat.le_of_ble_eq_true rfl⟩ ?_ rfl rfl rfl rfl
    refine r_if_ne (tgt := 21) K dX10_drivers_16 (by decide) (fun c15 => ?_) (fun c15 => ?_)
    · replace hf := ite_f hf c15
      refine r_iload_n K 2 dX10_drivers_21 rfl ?_
      refine r_iload_n K 3 dX10_drivers_22 rfl ?_
      obtain ⟨r5, e6, hf⟩ := ob1_s hf
      refine r_callS (As := [.int x2, .int x3]) (rest := []) (st1 := [.int r5]) (cells1 := 0) (slots1 := 0) K (mX10_isGood l e6) dX10_drivers_23 ceX10_isGood q_1081 q_1082 q_85 q_1083 ⟨Nat.le_of_ble_eq_true rfl, Nat.le_of_ble_eq_true rfl⟩ (Nat.le_of_ble_eq_true rfl) ⟨Nat.le_of_ble_eq_true rfl, Nat.le_of_ble_eq_true rfl⟩ ?_ rfl rfl rfl rfl
      refine r_if_ne (tgt := 32) K dX10_drivers_26 (by decide) (fun c14 => ?_) (fun c14 => ?_)
      · replace hf := ite_f hf c14
        refine r_aload_n K 0 dX10_drivers_32 rfl ?_
        refine r_iload_n K 1 dX10_drivers_33 rfl ?_
        refine r_iload_n K 2 dX10_drivers_34 rfl ?_
        obtain ⟨r7, e8, hf⟩ := ob1_s hf
        refine r_callV (As := [.int x1, .int x2]) (rest := []) (st1 := [.long r7]) (cells1 := 0) (slots1 := 0) (b := a0) (ci := 10) K (fun z => mX10_ofClass l z e8) dX10_drivers_35 rfl (fun z => z _ _ ht) rfl ceX10_ofClass q_1086 q_1088 q_39 q_85 q_1089 ⟨Nat.le_of_ble_eq_true rfl, Nat.le_of_ble_eq_true rfl⟩ (Nat.le_of_ble_eq_true rfl) ⟨Nat.le_of_ble_eq_true rfl, Nat.le_of_ble_eq_true rfl⟩ ?_ rfl rfl rfl rfl
        refine r_l2i K dX10_drivers_38 ?_
        obtain ⟨y9, ey9, hf⟩ := bnd_g hf
        refine r_nmi ey9 ?_
        refine r_istore (lv1 := [(4, .int y9), (0, .ref a0), (1, .int x1), (2, .int x2), (3, .int x3)]) K dX10_drivers_39 (by decide) rfl ?_
        refine r_aload_n K 1 dX10_drivers_41 rfl ?_
        obtain ⟨b10, e11, hf⟩ := ob1_s hf
        refine r_getR (ci := 10) (k := 0) K dX10_drivers_42 inX10 rfl (by decide) rfl q_906 e11 ?_
        refine r_bipush (v := (106 : Int32)) K dX10_drivers_45 (by decide) ?_
        refine r_iconst (v := (4 : Int32)) K dX10_drivers_47 (by decide) ?_
        refine r_iload_n K 2 dX10_drivers_48 rfl ?_
        refine r_imul K dX10_drivers_49 ?_
        refine r_iadd K dX10_drivers_50 ?_
        refine r_iload_n K 3 dX10_drivers_51 rfl ?_
        refine r_iadd K dX10_drivers_52 ?_
        refine r_iload_n K 4 dX10_drivers_53 rfl ?_
        refine r_i2l K dX10_drivers_54 ?_
        obtain ⟨g12, e13, hf⟩ := ob1_s hf
        refine r_lastore K dX10_drivers_55 e13 ?_
        refine r_iload K 0 dX10_drivers_56 rfl ?_
        exact r_iret K dX10_drivers_58 hf (Nat.le_of_ble_eq_true rfl) (Nat.le_of_ble_eq_true rfl)
      · replace hf := ite_t hf c14
        refine r_bipush (v := (-2 : Int32)) K dX10_drivers_29 (by decide) ?_
        exact r_iret K dX10_drivers_31 hf (Nat.le_of_ble_eq_true rfl) (Nat.le_of_ble_eq_true rfl)
    · replace hf := ite_t hf c15
      refine r_iconst (v := (-1 : Int32)) K dX10_drivers_19 (by decide) ?_
      exact r_iret K dX10_drivers_20 hf (Nat.le_of_ble_eq_true rfl) (Nat.le_of_ble_eq_true rfl)
theorem ceX10_driversOf : CE yX10_driversOf 2 := ⟨by decide, by decide, by decide +kernel⟩
abbrev rmX10_driversOf : Room := { frames := 2, cells := 0, slots := 0, locals := 45 }
def fX10_driversOf (a0 : Nat) (x1 : Int32) (x2 : Int32) (h : AH) : Option Int32 :=
  ob1 (fX10_isClass x1) fun r1 =>
  if r1 = (0 : Int32) then
    some (-1 : Int32)
  else
    ob1 (fX10_in (Int32.toInt64 x2) (0 : Int64) (3 : Int64)) fun r3 =>
    if r3 = (0 : Int32) then
      some (-1 : Int32)
    else
      ob1 (fX10_ofClass a0 x1 x2 h) fun r5 =>
      some (Int64.toInt32 r5)
set_option maxHeartbeats 4000000 in
set_option maxRecDepth 100000 in
theorem mX10_driversOf (l : Launch) {G : GG} {b0 : Nat} {h : AH} {a0 : Nat} {x1 : Int32} {x2 : Int32} {rr : Int32} (ht : isO h a0 10) (hf : fX10_driversOf a0 x1 x2 h = some rr) : MM l yX10_driversOf cX10_driversOf 3 (some .int) rmX10_driversOf G b0 h [.ref a0, .int x1, .int x2] (some (.int rr)) h := by
  refine MM.of (own := RX10) (lv0 := [(0, .ref a0), (1, .int x1), (2, .int x2)]) (by decide) rfl (Nat.le_of_ble_eq_true rfl) rfl ?_
  intro p e s m args below meth c K hnm
  unfold fX10_driversOf at hf
  refine r_iload_n K 1 dX10_driversOf_0 rfl ?_
  obtain ⟨r1, e2, hf⟩ := ob1_s hf
  refine r_callS (As := [.int x1]) (rest := []) (st1 := [.int r1]) (cells1 := 0) (slots1 := 0) K (mX10_isClass l e2) dX10_driversOf_1 ceX10_isClass q_1077 q_1078 q_85 q_1079 ⟨Nat.le_of_ble_eq_true rfl, Nat.le_of_ble_eq_true rfl⟩ (Nat.le_of_ble_eq_true rfl) ⟨Nat.le_of_ble_eq_true rfl, Nat.le_of_ble_eq_true rfl⟩ ?_ rfl rfl rfl rfl
  refine r_if_eq (tgt := 29) K dX10_driversOf_4 (by decide) (fun c8 => ?_) (fun c8 => ?_)
  · replace hf := ite_t hf c8
    refine r_iconst (v := (-1 : Int32)) K dX10_driversOf_29 (by decide) ?_
    exact r_iret K dX10_driversOf_30 (retp hf) (Nat.le_of_ble_eq_true rfl) (Nat.le_of_ble_eq_true rfl)
  · replace hf := ite_f hf c8
    refine r_iload_n K 2 dX10_driversOf_7 rfl ?_
    refine r_i2l K dX10_driversOf_8 ?_
    refine r_lconst (v := (0 : Int64)) K dX10_driversOf_9 (by decide) ?_
    refine r_ldc2 K dX10_driversOf_10 q_1080 ?_
    obtain ⟨r3, e4, hf⟩ := ob1_s hf
    refine r_callS (As := [.long (Int32.toInt64 x2), .long (0 : Int64), .long (3 : Int64)]) (rest := []) (st1 := [.int r3]) (cells1 := 0) (slots1 := 0) K (mX10_in l e4) dX10_driversOf_13 ceX10_in q_1005 q_1006 q_85 q_1007 ⟨Nat.le_of_ble_eq_true rfl, Nat.le_of_ble_eq_true rfl⟩ (Nat.le_of_ble_eq_true rfl) ⟨Nat.le_of_ble_eq_true rfl, Nat.le_of_ble_eq_true rfl⟩ ?_ rfl rfl rfl rfl
    refine r_if_eq (tgt := 29) K dX10_driversOf_16 (by decide) (fun c7 => ?_) (fun c7 => ?_)
    · replace hf := ite_t hf c7
      refine r_iconst (v := (-1 : Int32)) K dX10_driversOf_29 (by decide) ?_
      exact r_iret K dX10_driversOf_30 (retp hf) (Nat.le_of_ble_eq_true rfl) (Nat.le_of_ble_eq_true rfl)
    · replace hf := ite_f hf c7
      refine r_aload_n K 0 dX10_driversOf_19 rfl ?_
      refine r_iload_n K 1 dX10_driversOf_20 rfl ?_
      refine r_iload_n K 2 dX10_driversOf_21 rfl ?_
      obtain ⟨r5, e6, hf⟩ := ob1_s hf
      refine r_callV (As := [.int x1, .int x2]) (rest := []) (st1 := [.long r5]) (cells1 := 0) (slots1 := 0) (b := a0) (ci := 10) K (fun z => mX10_ofClass l z e6) dX10_driversOf_22 rfl (fun z => z _ _ ht) rfl ceX10_ofClass q_1086 q_1088 q_39 q_85 q_1089 ⟨Nat.le_of_ble_eq_true rfl, Nat.le_of_ble_eq_true rfl⟩ (Nat.le_of_ble_eq_true rfl) ⟨Nat.le_of_ble_eq_true rfl, Nat.le_of_ble_eq_true rfl⟩ ?_ rfl rfl rfl rfl
      refine r_l2i K dX10_driversOf_25 ?_
      refine r_goto (tgt := 30) K dX10_driversOf_26 (by decide) ?_
      exact r_iret K dX10_driversOf_30 (retp hf) (Nat.le_of_ble_eq_true rfl) (Nat.le_of_ble_eq_true rfl)
theorem ceX10_feed : CE yX10_feed 1 := ⟨by decide, by decide, by decide +kernel⟩
abbrev rmX10_feed : Room := { frames := 1, cells := 0, slots := 0, locals := 25 }
def fX10_feed (a0 : Nat) (x1 : Int32) (h : AH) : Option (Int32 × AH) :=
  ob1 (fX10_in (Int32.toInt64 x1) (1 : Int64) (127 : Int64)) fun r1 =>
  if r1 = (0 : Int32) then
    some ((-2 : Int32), h)
  else
    ob1 (gI h a0 10 5) fun v3 =>
    if v3 = (100 : Int32) then
      some ((-4 : Int32), h)
    else
      ob1 (gR h a0 10 4) fun b5 =>
      ob1 (gI h a0 10 5) fun v7 =>
      ob1 (sI h b5 v7 x1) fun g9 =>
      ob1 (gI g9 a0 10 5) fun v11 =>
      ob1 (pV g9 a0 10 5 (.int (v11 + (1 : Int32)))) fun g13 =>
      ob1 (gI g13 a0 10 5) fun v15 =>
      some (v15, g13)
set_option maxHeartbeats 4000000 in
set_option maxRecDepth 100000 in
theorem mX10_feed (l : Launch) {G : GG} {b0 : Nat} {h : AH} {a0 : Nat} {x1 : Int32} {rr : Int32} {hh : AH} (ht : isO h a0 10) (hf : fX10_feed a0 x1 h = some (rr, hh)) : MM l yX10_feed cX10_feed 2 (some .int) rmX10_feed G b0 h [.ref a0, .int x1] (some (.int rr)) hh := by
  refine MM.of (own := RX10) (lv0 := [(0, .ref a0), (1, .int x1)]) (by decide) rfl (Nat.le_of_ble_eq_true rfl) rfl ?_
  intro p e s m args below meth c K hnm
  unfold fX10_feed at hf
  refine r_iload_n K 1 dX10_feed_0 rfl ?_
  refine r_i2l K dX10_feed_1 ?_
  refine r_lconst (v := (1 : Int64)) K dX10_feed_2 (by decide) ?_
  refine r_ldc2 K dX10_feed_3 q_1098 ?_
  obtain ⟨r1, e2, hf⟩ := ob1_s hf
  refine r_callS (As := [.long (Int32.toInt64 x1), .long (1 : Int64), .long (127 : Int64)]) (rest := []) (st1 := [.int r1]) (cells1 := 0) (slots1 := 0) K (mX10_in l e2) dX10_feed_6 ceX10_in q_1005 q_1006 q_85 q_1007 ⟨Nat.le_of_ble_eq_true rfl, Nat.le_of_ble_eq_true rfl⟩ (Nat.le_of_ble_eq_true rfl) ⟨Nat.le_of_ble_eq_true rfl, Nat.le_of_ble_eq_true rfl⟩ ?_ rfl rfl rfl rfl
  refine r_if_ne (tgt := 15) K dX10_feed_9 (by decide) (fun c18 => ?_) (fun c18 => ?_)
  · replace hf := ite_f hf c18
    refine r_aload_n K 0 dX10_feed_15 rfl ?_
    obtain ⟨v3, e4, hf⟩ := ob1_s hf
    refine r_getI (ci := 10) (k := 5) K dX10_feed_16 inX10 rfl (by decide) rfl q_911 e4 ?_
    refine r_bipush (v := (100 : Int32)) K dX10_feed_19 (by decide) ?_
    refine r_icmp_ne (tgt := 27) K dX10_feed_21 (by decide) (fun c17 => ?_) (fun c17 => ?_)
    · replace hf := ite_f hf c17
      refine r_aload_n K 0 dX10_feed_27 rfl ?_
      obtain ⟨b5, e6, hf⟩ := ob1_s hf
      refine r_getR (ci := 10) (k := 4) K dX10_feed_28 inX10 rfl (by decide) rfl q_910 e6 ?_
      refine r_aload_n K 0 dX10_feed_31 rfl ?_
      obtain ⟨v7, e8, hf⟩ := ob1_s hf
      refine r_getI (ci := 10) (k := 5) K dX10_feed_32 inX10 rfl (by decide) rfl q_911 e8 ?_
      refine r_iload_n K 1 dX10_feed_35 rfl ?_
      obtain ⟨g9, e10, hf⟩ := ob1_s hf
      refine r_iastore K dX10_feed_36 e10 ?_
      refine r_aload_n K 0 dX10_feed_37 rfl ?_
      refine r_dup K dX10_feed_38 rfl ?_
      obtain ⟨v11, e12, hf⟩ := ob1_s hf
      refine r_getI (ci := 10) (k := 5) K dX10_feed_39 inX10 rfl (by decide) rfl q_911 e12 ?_
      refine r_iconst (v := (1 : Int32)) K dX10_feed_42 (by decide) ?_
      refine r_iadd K dX10_feed_43 ?_
      obtain ⟨g13, e14, hf⟩ := ob1_s hf
      refine r_putV (ci := 10) (k := 5) (ty0 := tyX10) (ty := tyX10 5) K dX10_feed_44 inX10 rfl (by decide) rfl q_911 tyX10_ok nmX10 rfl rfl rfl rfl e14 ?_
      refine r_aload_n K 0 dX10_feed_47 rfl ?_
      obtain ⟨v15, e16, hf⟩ := ob1_s hf
      refine r_getI (ci := 10) (k := 5) K dX10_feed_48 inX10 rfl (by decide) rfl q_911 e16 ?_
      exact r_iret K dX10_feed_51 hf (Nat.le_of_ble_eq_true rfl) (Nat.le_of_ble_eq_true rfl)
    · replace hf := ite_t hf c17
      refine r_bipush (v := (-4 : Int32)) K dX10_feed_24 (by decide) ?_
      exact r_iret K dX10_feed_26 hf (Nat.le_of_ble_eq_true rfl) (Nat.le_of_ble_eq_true rfl)
  · replace hf := ite_t hf c18
    refine r_bipush (v := (-2 : Int32)) K dX10_feed_12 (by decide) ?_
    exact r_iret K dX10_feed_14 hf (Nat.le_of_ble_eq_true rfl) (Nat.le_of_ble_eq_true rfl)
