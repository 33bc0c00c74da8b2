theorem ceX9_init : CE yX9_init 0 := ⟨by decide, by decide, by decide +kernel⟩
abbrev rmX9_init : Room := { frames := 3, cells := 107, slots := 6639, locals := 72 }
def fX9_init (a0 : Nat) (h : AH) : Option AH :=
  bnd h.1 fun b1 =>
  bnd (hnew h (.inr (1, [.int 0, .int 0, .null, .null, .null]))) fun g2 =>
  ob1 (fX1_init b1 g2) fun g3 =>
  ob1 (pV g3 a0 9 0 (.ref b1)) fun g5 =>
  bnd g5.1 fun b7 =>
  bnd (hnew g5 (.inr (1, [.int 0, .int 0, .null, .null, .null]))) fun g8 =>
  ob1 (fX1_init b7 g8) fun g9 =>
  ob1 (pV g9 a0 9 1 (.ref b7)) fun g11 =>
  ob1 (pV g11 a0 9 2 (.int (0 : Int32))) fun g13 =>
  bnd g13.1 fun b15 =>
  bnd (hnew g13 (.inr (2, [.int 0, .null, .null, .null, .null, .null, .null]))) fun g16 =>
  ob1 (fX2_init b15 g16) fun g17 =>
  ob1 (pV g17 a0 9 3 (.ref b15)) fun g19 =>
  ob1 (pV g19 a0 9 4 (.int (0 : Int32))) fun g21 =>
  bnd g21.1 fun b23 =>
  bnd (hnew g21 (.inl (5, 3, .inr (.inr (.inr (.inr (fun _ => none))))))) fun g24 =>
  ob1 (pV g24 a0 9 5 (.ref b23)) fun g25 =>
  bnd g25.1 fun b27 =>
  bnd (hnew g25 (.inl (2, 3, .inl (fun _ => 0)))) fun g28 =>
  ob1 (pV g28 a0 9 6 (.ref b27)) fun g29 =>
  bnd g29.1 fun b31 =>
  bnd (hnew g29 (.inr (0, [.null, .null, .null, .null, .null, .null]))) fun g32 =>
  ob1 (fX0_init b31 g32) fun g33 =>
  ob1 (pV g33 a0 9 7 (.ref b31)) fun g35 =>
  ob1 (pV g35 a0 9 8 (.int (0 : Int32))) fun g37 =>
  bnd g37.1 fun b39 =>
  bnd (hnew g37 (.inr (1, [.int 0, .int 0, .null, .null, .null]))) fun g40 =>
  ob1 (fX1_init b39 g40) fun g41 =>
  ob1 (pV g41 a0 9 9 (.ref b39)) fun g43 =>
  bnd g43.1 fun b45 =>
  bnd (hnew g43 (.inr (2, [.int 0, .null, .null, .null, .null, .null, .null]))) fun g46 =>
  ob1 (fX2_init b45 g46) fun g47 =>
  ob1 (pV g47 a0 9 10 (.ref b45)) fun g49 =>
  bnd g49.1 fun b51 =>
  bnd (hnew g49 (.inr (5, [.null, .null, .null, .int 0, .int 0, .null, .null, .null]))) fun g52 =>
  ob1 (fX5_init b51 g52) fun g53 =>
  ob1 (pV g53 a0 9 11 (.ref b51)) fun g55 =>
  bnd g55.1 fun b57 =>
  bnd (hnew g55 (.inr (7, [.int 0, .null, .int 0, .int 0]))) fun g58 =>
  ob1 (fX7_init b57 g58) fun g59 =>
  ob1 (pV g59 a0 9 12 (.ref b57)) fun g61 =>
  bnd g61.1 fun b63 =>
  bnd (hnew g61 (.inl (6, 3, .inr (.inr (.inr (.inr (fun _ => none))))))) fun g64 =>
  ob1 (pV g64 a0 9 13 (.ref b63)) fun g65 =>
  bnd g65.1 fun b67 =>
  bnd (hnew g65 (.inl (7, 4, .inr (.inr (.inr (.inr (fun _ => none))))))) fun g68 =>
  ob1 (pV g68 a0 9 14 (.ref b67)) fun g69 =>
  bnd g69.1 fun b71 =>
  bnd (hnew g69 (.inl (0, 13, .inl (fun _ => 0)))) fun g72 =>
  ob1 (pV g72 a0 9 15 (.ref b71)) fun g73 =>
  bnd g73.1 fun b75 =>
  bnd (hnew g73 (.inr (6, [.long 0, .int 0]))) fun g76 =>
  ob1 (fX6_init b75 g76) fun g77 =>
  ob1 (pV g77 a0 9 16 (.ref b75)) fun g79 =>
  ob1 (gR g79 a0 9 5) fun b81 =>
  bnd g79.1 fun b83 =>
  bnd (hnew g79 (.inr (5, [.null, .null, .null, .int 0, .int 0, .null, .null, .null]))) fun g84 =>
  ob1 (fX5_init b83 g84) fun g85 =>
  ob1 (sQ g85 b81 5 (0 : Int32) (some b83)) fun g87 =>
  ob1 (gR g87 a0 9 5) fun b89 =>
  bnd g87.1 fun b91 =>
  bnd (hnew g87 (.inr (5, [.null, .null, .null, .int 0, .int 0, .null, .null, .null]))) fun g92 =>
  ob1 (fX5_init b91 g92) fun g93 =>
  ob1 (sQ g93 b89 5 (1 : Int32) (some b91)) fun g95 =>
  ob1 (gR g95 a0 9 5) fun b97 =>
  bnd g95.1 fun b99 =>
  bnd (hnew g95 (.inr (5, [.null, .null, .null, .int 0, .int 0, .null, .null, .null]))) fun g100 =>
  ob1 (fX5_init b99 g100) fun g101 =>
  ob1 (sQ g101 b97 5 (2 : Int32) (some b99)) fun g103 =>
  ob1 (gR g103 a0 9 13) fun b105 =>
  bnd g103.1 fun b107 =>
  bnd (hnew g103 (.inr (8, [.int 0, .int 0, .null]))) fun g108 =>
  ob1 (fX8_init b107 g108) fun g109 =>
  ob1 (sQ g109 b105 6 (0 : Int32) (some b107)) fun g111 =>
  ob1 (gR g111 a0 9 13) fun b113 =>
  bnd g111.1 fun b115 =>
  bnd (hnew g111 (.inr (8, [.int 0, .int 0, .null]))) fun g116 =>
  ob1 (fX8_init b115 g116) fun g117 =>
  ob1 (sQ g117 b113 6 (1 : Int32) (some b115)) fun g119 =>
  ob1 (gR g119 a0 9 13) fun b121 =>
  bnd g119.1 fun b123 =>
  bnd (hnew g119 (.inr (8, [.int 0, .int 0, .null]))) fun g124 =>
  ob1 (fX8_init b123 g124) fun g125 =>
  ob1 (sQ g125 b121 6 (2 : Int32) (some b123)) fun g127 =>
  ob1 (gR g127 a0 9 14) fun b129 =>
  bnd g127.1 fun b131 =>
  bnd (hnew g127 (.inr (4, [.int 0, .null]))) fun g132 =>
  ob1 (fX4_init b131 g132) fun g133 =>
  ob1 (sQ g133 b129 7 (0 : Int32) (some b131)) fun g135 =>
  ob1 (gR g135 a0 9 14) fun b137 =>
  bnd g135.1 fun b139 =>
  bnd (hnew g135 (.inr (4, [.int 0, .null]))) fun g140 =>
  ob1 (fX4_init b139 g140) fun g141 =>
  ob1 (sQ g141 b137 7 (1 : Int32) (some b139)) fun g143 =>
  ob1 (gR g143 a0 9 14) fun b145 =>
  bnd g143.1 fun b147 =>
  bnd (hnew g143 (.inr (4, [.int 0, .null]))) fun g148 =>
  ob1 (fX4_init b147 g148) fun g149 =>
  ob1 (sQ g149 b145 7 (2 : Int32) (some b147)) fun g151 =>
  ob1 (gR g151 a0 9 14) fun b153 =>
  bnd g151.1 fun b155 =>
  bnd (hnew g151 (.inr (4, [.int 0, .null]))) fun g156 =>
  ob1 (fX4_init b155 g156) fun g157 =>
  ob1 (sQ g157 b153 7 (3 : Int32) (some b155)) fun g159 =>
  some g159
set_option maxHeartbeats 4000000 in
set_option maxRecDepth 100000 in
theorem mX9_init (l : Launch) {G : GG} {b0 : Nat} {h : AH} {a0 : Nat} {hh : AH} (ht : isO h a0 9) (hf : fX9_init a0 h = some hh) : MM l yX9_init cX9_init 2 (none) rmX9_init G b0 h [.ref a0] none hh := by
  refine MM.of (own := RX9) (lv0 := [(0, .ref a0)]) (by decide) rfl (Nat.le_of_ble_eq_true rfl) rfl ?_
  intro p e s m args below meth c K hnm
  unfold fX9_init at hf
  refine r_aload_n K 0 dX9_init_0 rfl ?_
  refine r_objInit K dX9_init_1 q_96 q_97 q_98 (Nat.le_of_ble_eq_true rfl) (Nat.le_of_ble_eq_true rfl) ?_
  refine r_aload_n K 0 dX9_init_4 rfl ?_
  obtain ⟨b1, eb1, hf⟩ := bnd_g hf
  obtain ⟨g2, eg2, hf⟩ := bnd_g hf
  have ob1 : isO g2 b1 1 := isO_new eb1 eg2
  refine r_new (ci := 1) (N := 5) (ty0 := tyX1) (cells1 := 1) (slots1 := 5) K dX9_init_5 inX1 rfl tyX1_ok q_99 q_100 q_76 (fun j hj => by match j, hj with | 0, _ => rfl | 1, _ => rfl | 2, _ => rfl | 3, _ => rfl | 4, _ => rfl) eb1 eg2 rfl rfl (Nat.le_of_ble_eq_true rfl) (Nat.le_of_ble_eq_true rfl) ?_
  refine r_dup K dX9_init_8 rfl ?_
  obtain ⟨g3, e4, hf⟩ := ob1_s hf
  refine r_callI (As := []) (rest := [.ref b1, .ref a0]) (st1 := [.ref b1, .ref a0]) (cells1 := 8) (slots1 := 53) (rt := none) (b := b1) K (mX1_init l ob1 e4) dX9_init_9 rfl ceX1_init q_101 q_102 q_76 q_103 ⟨Nat.le_of_ble_eq_true rfl, Nat.le_of_ble_eq_true rfl⟩ (Nat.le_of_ble_eq_true rfl) ⟨Nat.le_of_ble_eq_true rfl, Nat.le_of_ble_eq_true rfl⟩ ?_ rfl rfl rfl rfl
  obtain ⟨g5, e6, hf⟩ := ob1_s hf
  refine r_putF (ci := 9) (k := 0) (ty0 := tyX9) (ty := tyX9 0) K dX9_init_12 inX9 rfl (by decide) rfl q_357 tyX9_ok nmX9 rfl hnm rfl rfl rfl rfl e6 ?_
  refine r_aload_n K 0 dX9_init_15 rfl ?_
  obtain ⟨b7, eb7, hf⟩ := bnd_g hf
  obtain ⟨g8, eg8, hf⟩ := bnd_g hf
  have ob7 : isO g8 b7 1 := isO_new eb7 eg8
  refine r_new (ci := 1) (N := 5) (ty0 := tyX1) (cells1 := 9) (slots1 := 58) K dX9_init_16 inX1 rfl tyX1_ok q_99 q_100 q_76 (fun j hj => by match j, hj with | 0, _ => rfl | 1, _ => rfl | 2, _ => rfl | 3, _ => rfl | 4, _ => rfl) eb7 eg8 rfl rfl (Nat.le_of_ble_eq_true rfl) (Nat.le_of_ble_eq_true rfl) ?_
  refine r_dup K dX9_init_19 rfl ?_
  obtain ⟨g9, e10, hf⟩ := ob1_s hf
  refine r_callI (As := []) (rest := [.ref b7, .ref a0]) (st1 := [.ref b7, .ref a0]) (cells1 := 16) (slots1 := 106) (rt := none) (b := b7) K (mX1_init l ob7 e10) dX9_init_20 rfl ceX1_init q_101 q_102 q_76 q_103 ⟨Nat.le_of_ble_eq_true rfl, Nat.le_of_ble_eq_true rfl⟩ (Nat.le_of_ble_eq_true rfl) ⟨Nat.le_of_ble_eq_true rfl, Nat.le_of_ble_eq_true rfl⟩ ?_ rfl rfl rfl rfl
  obtain ⟨g11, e12, hf⟩ := ob1_s hf
  refine r_putF (ci := 9) (k := 1) (ty0 := tyX9) (ty := tyX9 1) K dX9_init_23 inX9 rfl (by decide) rfl q_358 tyX9_ok nmX9 rfl hnm rfl rfl rfl rfl e12 ?_
  refine r_aload_n K 0 dX9_init_26 rfl ?_
  refine r_iconst (v := (0 : Int32)) K dX9_init_27 (by decide) ?_
  obtain ⟨g13, e14, hf⟩ := ob1_s hf
  refine r_putV (ci := 9) (k := 2) (ty0 := tyX9) (ty := tyX9 2) K dX9_init_28 inX9 rfl (by decide) rfl q_359 tyX9_ok nmX9 rfl rfl rfl rfl e14 ?_
  refine r_aload_n K 0 dX9_init_31 rfl ?_
  obtain ⟨b15, eb15, hf⟩ := bnd_g hf
  obtain ⟨g16, eg16, hf⟩ := bnd_g hf
  have ob15 : isO g16 b15 2 := isO_new eb15 eg16
  refine r_new (ci := 2) (N := 7) (ty0 := tyX2) (cells1 := 17) (slots1 := 113) K dX9_init_32 inX2 rfl tyX2_ok q_179 q_180 q_78 (fun j hj => by match j, hj with | 0, _ => rfl | 1, _ => rfl | 2, _ => rfl | 3, _ => rfl | 4, _ => rfl | 5, _ => rfl | 6, _ => rfl) eb15 eg16 rfl rfl (Nat.le_of_ble_eq_true rfl) (Nat.le_of_ble_eq_true rfl) ?_
  refine r_dup K dX9_init_35 rfl ?_
  obtain ⟨g17, e18, hf⟩ := ob1_s hf
  refine r_callI (As := []) (rest := [.ref b15, .ref a0]) (st1 := [.ref b15, .ref a0]) (cells1 := 23) (slots1 := 1379) (rt := none) (b := b15) K (mX2_init l ob15 e18) dX9_init_36 rfl ceX2_init q_181 q_182 q_78 q_183 ⟨Nat.le_of_ble_eq_true rfl, Nat.le_of_ble_eq_true rfl⟩ (Nat.le_of_ble_eq_true rfl) ⟨Nat.le_of_ble_eq_true rfl, Nat.le_of_ble_eq_true rfl⟩ ?_ rfl rfl rfl rfl
  obtain ⟨g19, e20, hf⟩ := ob1_s hf
  refine r_putF (ci := 9) (k := 3) (ty0 := tyX9) (ty := tyX9 3) K dX9_init_39 inX9 rfl (by decide) rfl q_360 tyX9_ok nmX9 rfl hnm rfl rfl rfl rfl e20 ?_
  refine r_aload_n K 0 dX9_init_42 rfl ?_
  refine r_iconst (v := (0 : Int32)) K dX9_init_43 (by decide) ?_
  obtain ⟨g21, e22, hf⟩ := ob1_s hf
  refine r_putV (ci := 9) (k := 4) (ty0 := tyX9) (ty := tyX9 4) K dX9_init_44 inX9 rfl (by decide) rfl q_361 tyX9_ok nmX9 rfl rfl rfl rfl e22 ?_
  refine r_aload_n K 0 dX9_init_47 rfl ?_
  refine r_iconst (v := (3 : Int32)) K dX9_init_48 (by decide) ?_
  obtain ⟨b23, eb23, hf⟩ := bnd_g hf
  obtain ⟨g24, eg24, hf⟩ := bnd_g hf
  refine r_newr5 (cells1 := 24) (slots1 := 1382) K dX9_init_49 q_214 (by decide) (by decide) (by decide) eb23 eg24 rfl rfl (Nat.le_of_ble_eq_true rfl) (Nat.le_of_ble_eq_true rfl) ?_
  obtain ⟨g25, e26, hf⟩ := ob1_s hf
  refine r_putF (ci := 9) (k := 5) (ty0 := tyX9) (ty := tyX9 5) K dX9_init_52 inX9 rfl (by decide) rfl q_362 tyX9_ok nmX9 rfl hnm rfl rfl rfl rfl e26 ?_
  refine r_aload_n K 0 dX9_init_55 rfl ?_
  refine r_iconst (v := (3 : Int32)) K dX9_init_56 (by decide) ?_
  obtain ⟨b27, eb27, hf⟩ := bnd_g hf
  obtain ⟨g28, eg28, hf⟩ := bnd_g hf
  refine r_newa2 (cells1 := 25) (slots1 := 1385) K dX9_init_57 q_239 (by decide) (by decide) (by decide) eb27 eg28 rfl rfl (Nat.le_of_ble_eq_true rfl) (Nat.le_of_ble_eq_true rfl) ?_
  obtain ⟨g29, e30, hf⟩ := ob1_s hf
  refine r_putF (ci := 9) (k := 6) (ty0 := tyX9) (ty := tyX9 6) K dX9_init_59 inX9 rfl (by decide) rfl q_363 tyX9_ok nmX9 rfl hnm rfl rfl rfl rfl e30 ?_
  refine r_aload_n K 0 dX9_init_62 rfl ?_
  obtain ⟨b31, eb31, hf⟩ := bnd_g hf
  obtain ⟨g32, eg32, hf⟩ := bnd_g hf
  have ob31 : isO g32 b31 0 := isO_new eb31 eg32
  refine r_new (ci := 0) (N := 6) (ty0 := tyX0) (cells1 := 26) (slots1 := 1391) K dX9_init_63 inX0 rfl tyX0_ok q_216 q_217 q_79 (fun j hj => by match j, hj with | 0, _ => rfl | 1, _ => rfl | 2, _ => rfl | 3, _ => rfl | 4, _ => rfl | 5, _ => rfl) eb31 eg32 rfl rfl (Nat.le_of_ble_eq_true rfl) (Nat.le_of_ble_eq_true rfl) ?_
  refine r_dup K dX9_init_66 rfl ?_
  obtain ⟨g33, e34, hf⟩ := ob1_s hf
  refine r_callIN (As := []) (rest := [.ref b31, .ref a0]) (st1 := [.ref b31, .ref a0]) (cells1 := 32) (slots1 := 1430) (rt := none) (b := b31) K (mX0_init l ob31 e34) dX9_init_67 rfl ceX0_init nw_0 q_219 q_79 q_220 ⟨Nat.le_of_ble_eq_true rfl, Nat.le_of_ble_eq_true rfl⟩ (Nat.le_of_ble_eq_true rfl) ⟨Nat.le_of_ble_eq_true rfl, Nat.le_of_ble_eq_true rfl⟩ ?_ rfl rfl rfl rfl
  obtain ⟨g35, e36, hf⟩ := ob1_s hf
  refine r_putF (ci := 9) (k := 7) (ty0 := tyX9) (ty := tyX9 7) K dX9_init_70 inX9 rfl (by decide) rfl q_364 tyX9_ok nmX9 rfl hnm rfl rfl rfl rfl e36 ?_
  refine r_aload_n K 0 dX9_init_73 rfl ?_
  refine r_iconst (v := (0 : Int32)) K dX9_init_74 (by decide) ?_
  obtain ⟨g37, e38, hf⟩ := ob1_s hf
  refine r_putV (ci := 9) (k := 8) (ty0 := tyX9) (ty := tyX9 8) K dX9_init_75 inX9 rfl (by decide) rfl q_365 tyX9_ok nmX9 rfl rfl rfl rfl e38 ?_
  refine r_aload_n K 0 dX9_init_78 rfl ?_
  obtain ⟨b39, eb39, hf⟩ := bnd_g hf
  obtain ⟨g40, eg40, hf⟩ := bnd_g hf
  have ob39 : isO g40 b39 1 := isO_new eb39 eg40
  refine r_new (ci := 1) (N := 5) (ty0 := tyX1) (cells1 := 33) (slots1 := 1435) K dX9_init_79 inX1 rfl tyX1_ok q_99 q_100 q_76 (fun j hj => by match j, hj with | 0, _ => rfl | 1, _ => rfl | 2, _ => rfl | 3, _ => rfl | 4, _ => rfl) eb39 eg40 rfl rfl (Nat.le_of_ble_eq_true rfl) (Nat.le_of_ble_eq_true rfl) ?_
  refine r_dup K dX9_init_82 rfl ?_
  obtain ⟨g41, e42, hf⟩ := ob1_s hf
  refine r_callI (As := []) (rest := [.ref b39, .ref a0]) (st1 := [.ref b39, .ref a0]) (cells1 := 40) (slots1 := 1483) (rt := none) (b := b39) K (mX1_init l ob39 e42) dX9_init_83 rfl ceX1_init q_101 q_102 q_76 q_103 ⟨Nat.le_of_ble_eq_true rfl, Nat.le_of_ble_eq_true rfl⟩ (Nat.le_of_ble_eq_true rfl) ⟨Nat.le_of_ble_eq_true rfl, Nat.le_of_ble_eq_true rfl⟩ ?_ rfl rfl rfl rfl
  obtain ⟨g43, e44, hf⟩ := ob1_s hf
  refine r_putF (ci := 9) (k := 9) (ty0 := tyX9) (ty := tyX9 9) K dX9_init_86 inX9 rfl (by decide) rfl q_366 tyX9_ok nmX9 rfl hnm rfl rfl rfl rfl e44 ?_
  refine r_aload_n K 0 dX9_init_89 rfl ?_
  obtain ⟨b45, eb45, hf⟩ := bnd_g hf
  obtain ⟨g46, eg46, hf⟩ := bnd_g hf
  have ob45 : isO g46 b45 2 := isO_new eb45 eg46
  refine r_new (ci := 2) (N := 7) (ty0 := tyX2) (cells1 := 41) (slots1 := 1490) K dX9_init_90 inX2 rfl tyX2_ok q_179 q_180 q_78 (fun j hj => by match j, hj with | 0, _ => rfl | 1, _ => rfl | 2, _ => rfl | 3, _ => rfl | 4, _ => rfl | 5, _ => rfl | 6, _ => rfl) eb45 eg46 rfl rfl (Nat.le_of_ble_eq_true rfl) (Nat.le_of_ble_eq_true rfl) ?_
  refine r_dup K dX9_init_93 rfl ?_
  obtain ⟨g47, e48, hf⟩ := ob1_s hf
  refine r_callI (As := []) (rest := [.ref b45, .ref a0]) (st1 := [.ref b45, .ref a0]) (cells1 := 47) (slots1 := 2756) (rt := none) (b := b45) K (mX2_init l ob45 e48) dX9_init_94 rfl ceX2_init q_181 q_182 q_78 q_183 ⟨Nat.le_of_ble_eq_true rfl, Nat.le_of_ble_eq_true rfl⟩ (Nat.le_of_ble_eq_true rfl) ⟨Nat.le_of_ble_eq_true rfl, Nat.le_of_ble_eq_true rfl⟩ ?_ rfl rfl rfl rfl
  obtain ⟨g49, e50, hf⟩ := ob1_s hf
  refine r_putF (ci := 9) (k := 10) (ty0 := tyX9) (ty := tyX9 10) K dX9_init_97 inX9 rfl (by decide) rfl q_367 tyX9_ok nmX9 rfl hnm rfl rfl rfl rfl e50 ?_
  refine r_aload_n K 0 dX9_init_100 rfl ?_
  obtain ⟨b51, eb51, hf⟩ := bnd_g hf
  obtain ⟨g52, eg52, hf⟩ := bnd_g hf
  have ob51 : isO g52 b51 5 := isO_new eb51 eg52
  refine r_new (ci := 5) (N := 8) (ty0 := tyX5) (cells1 := 48) (slots1 := 2764) K dX9_init_101 inX5 rfl tyX5_ok q_214 q_260 q_81 (fun j hj => by match j, hj with | 0, _ => rfl | 1, _ => rfl | 2, _ => rfl | 3, _ => rfl | 4, _ => rfl | 5, _ => rfl | 6, _ => rfl | 7, _ => rfl) eb51 eg52 rfl rfl (Nat.le_of_ble_eq_true rfl) (Nat.le_of_ble_eq_true rfl) ?_
  refine r_dup K dX9_init_104 rfl ?_
  obtain ⟨g53, e54, hf⟩ := ob1_s hf
  refine r_callIN (As := []) (rest := [.ref b51, .ref a0]) (st1 := [.ref b51, .ref a0]) (cells1 := 57) (slots1 := 3652) (rt := none) (b := b51) K (mX5_init l ob51 e54) dX9_init_105 rfl ceX5_init nw_2 q_262 q_81 q_263 ⟨Nat.le_of_ble_eq_true rfl, Nat.le_of_ble_eq_true rfl⟩ (Nat.le_of_ble_eq_true rfl) ⟨Nat.le_of_ble_eq_true rfl, Nat.le_of_ble_eq_true rfl⟩ ?_ rfl rfl rfl rfl
  obtain ⟨g55, e56, hf⟩ := ob1_s hf
  refine r_putF (ci := 9) (k := 11) (ty0 := tyX9) (ty := tyX9 11) K dX9_init_108 inX9 rfl (by decide) rfl q_368 tyX9_ok nmX9 rfl hnm rfl rfl rfl rfl e56 ?_
  refine r_aload_n K 0 dX9_init_111 rfl ?_
  obtain ⟨b57, eb57, hf⟩ := bnd_g hf
  obtain ⟨g58, eg58, hf⟩ := bnd_g hf
  have ob57 : isO g58 b57 7 := isO_new eb57 eg58
  refine r_new (ci := 7) (N := 4) (ty0 := tyX7) (cells1 := 58) (slots1 := 3656) K dX9_init_112 inX7 rfl tyX7_ok q_298 q_299 q_82 (fun j hj => by match j, hj with | 0, _ => rfl | 1, _ => rfl | 2, _ => rfl | 3, _ => rfl) eb57 eg58 rfl rfl (Nat.le_of_ble_eq_true rfl) (Nat.le_of_ble_eq_true rfl) ?_
  refine r_dup K dX9_init_115 rfl ?_
  obtain ⟨g59, e60, hf⟩ := ob1_s hf
  refine r_callIN (As := []) (rest := [.ref b57, .ref a0]) (st1 := [.ref b57, .ref a0]) (cells1 := 59) (slots1 := 3756) (rt := none) (b := b57) K (mX7_init l ob57 e60) dX9_init_116 rfl ceX7_init nw_4 q_301 q_82 q_302 ⟨Nat.le_of_ble_eq_true rfl, Nat.le_of_ble_eq_true rfl⟩ (Nat.le_of_ble_eq_true rfl) ⟨Nat.le_of_ble_eq_true rfl, Nat.le_of_ble_eq_true rfl⟩ ?_ rfl rfl rfl rfl
  obtain ⟨g61, e62, hf⟩ := ob1_s hf
  refine r_putF (ci := 9) (k := 12) (ty0 := tyX9) (ty := tyX9 12) K dX9_init_119 inX9 rfl (by decide) rfl q_369 tyX9_ok nmX9 rfl hnm rfl rfl rfl rfl e62 ?_
  refine r_aload_n K 0 dX9_init_122 rfl ?_
  refine r_iconst (v := (3 : Int32)) K dX9_init_123 (by decide) ?_
  obtain ⟨b63, eb63, hf⟩ := bnd_g hf
  obtain ⟨g64, eg64, hf⟩ := bnd_g hf
  refine r_newr6 (cells1 := 60) (slots1 := 3759) K dX9_init_124 q_318 (by decide) (by decide) (by decide) eb63 eg64 rfl rfl (Nat.le_of_ble_eq_true rfl) (Nat.le_of_ble_eq_true rfl) ?_
  obtain ⟨g65, e66, hf⟩ := ob1_s hf
  refine r_putF (ci := 9) (k := 13) (ty0 := tyX9) (ty := tyX9 13) K dX9_init_127 inX9 rfl (by decide) rfl q_370 tyX9_ok nmX9 rfl hnm rfl rfl rfl rfl e66 ?_
  refine r_aload_n K 0 dX9_init_130 rfl ?_
  refine r_iconst (v := (4 : Int32)) K dX9_init_131 (by decide) ?_
  obtain ⟨b67, eb67, hf⟩ := bnd_g hf
  obtain ⟨g68, eg68, hf⟩ := bnd_g hf
  refine r_newr7 (cells1 := 61) (slots1 := 3763) K dX9_init_132 q_320 (by decide) (by decide) (by decide) eb67 eg68 rfl rfl (Nat.le_of_ble_eq_true rfl) (Nat.le_of_ble_eq_true rfl) ?_
  obtain ⟨g69, e70, hf⟩ := ob1_s hf
  refine r_putF (ci := 9) (k := 14) (ty0 := tyX9) (ty := tyX9 14) K dX9_init_135 inX9 rfl (by decide) rfl q_371 tyX9_ok nmX9 rfl hnm rfl rfl rfl rfl e70 ?_
  refine r_aload_n K 0 dX9_init_138 rfl ?_
  refine r_bipush (v := (13 : Int32)) K dX9_init_139 (by decide) ?_
  obtain ⟨b71, eb71, hf⟩ := bnd_g hf
  obtain ⟨g72, eg72, hf⟩ := bnd_g hf
  refine r_newa0 (cells1 := 62) (slots1 := 3776) K dX9_init_141 q_148 (by decide) (by decide) (by decide) eb71 eg72 rfl rfl (Nat.le_of_ble_eq_true rfl) (Nat.le_of_ble_eq_true rfl) ?_
  obtain ⟨g73, e74, hf⟩ := ob1_s hf
  refine r_putF (ci := 9) (k := 15) (ty0 := tyX9) (ty := tyX9 15) K dX9_init_143 inX9 rfl (by decide) rfl q_372 tyX9_ok nmX9 rfl hnm rfl rfl rfl rfl e74 ?_
  refine r_aload_n K 0 dX9_init_146 rfl ?_
  obtain ⟨b75, eb75, hf⟩ := bnd_g hf
  obtain ⟨g76, eg76, hf⟩ := bnd_g hf
  have ob75 : isO g76 b75 6 := isO_new eb75 eg76
  refine r_new (ci := 6) (N := 2) (ty0 := tyX6) (cells1 := 63) (slots1 := 3778) K dX9_init_147 inX6 rfl tyX6_ok q_322 q_223 q_80 (fun j hj => by match j, hj with | 0, _ => rfl | 1, _ => rfl) eb75 eg76 rfl rfl (Nat.le_of_ble_eq_true rfl) (Nat.le_of_ble_eq_true rfl) ?_
  refine r_dup K dX9_init_150 rfl ?_
  obtain ⟨g77, e78, hf⟩ := ob1_s hf
  refine r_callIN (As := []) (rest := [.ref b75, .ref a0]) (st1 := [.ref b75, .ref a0]) (cells1 := 63) (slots1 := 3778) (rt := none) (b := b75) K (mX6_init l ob75 e78) dX9_init_151 rfl ceX6_init nw_5 q_225 q_80 q_226 ⟨Nat.le_of_ble_eq_true rfl, Nat.le_of_ble_eq_true rfl⟩ (Nat.le_of_ble_eq_true rfl) ⟨Nat.le_of_ble_eq_true rfl, Nat.le_of_ble_eq_true rfl⟩ ?_ rfl rfl rfl rfl
  obtain ⟨g79, e80, hf⟩ := ob1_s hf
  refine r_putF (ci := 9) (k := 16) (ty0 := tyX9) (ty := tyX9 16) K dX9_init_154 inX9 rfl (by decide) rfl q_373 tyX9_ok nmX9 rfl hnm rfl rfl rfl rfl e80 ?_
  refine r_iconst (v := (0 : Int32)) K dX9_init_157 (by decide) ?_
  refine r_istore_n (lv1 := [(1, .int (0 : Int32)), (0, .ref a0)]) K dX9_init_158 (by decide) rfl ?_
  refine r_iload_n K 0 dX9_init_159 rfl ?_
  refine r_iconst (v := (3 : Int32)) K dX9_init_160 (by decide) ?_
  refine r_icmp_ge (tgt := 183) K dX9_init_161 (by decide) (fun c173 => absurd c173 (by decide)) (fun _ => ?_)
  refine r_aload_n K 1 dX9_init_164 rfl ?_
  obtain ⟨b81, e82, hf⟩ := ob1_s hf
  refine r_getR (ci := 9) (k := 5) K dX9_init_165 inX9 rfl (by decide) rfl q_362 e82 ?_
  refine r_iload_n K 0 dX9_init_168 rfl ?_
  obtain ⟨b83, eb83, hf⟩ := bnd_g hf
  obtain ⟨g84, eg84, hf⟩ := bnd_g hf
  have ob83 : isO g84 b83 5 := isO_new eb83 eg84
  refine r_new (ci := 5) (N := 8) (ty0 := tyX5) (cells1 := 64) (slots1 := 3786) K dX9_init_169 inX5 rfl tyX5_ok q_214 q_260 q_81 (fun j hj => by match j, hj with | 0, _ => rfl | 1, _ => rfl | 2, _ => rfl | 3, _ => rfl | 4, _ => rfl | 5, _ => rfl | 6, _ => rfl | 7, _ => rfl) eb83 eg84 rfl rfl (Nat.le_of_ble_eq_true rfl) (Nat.le_of_ble_eq_true rfl) ?_
  refine r_dup K dX9_init_172 rfl ?_
  obtain ⟨g85, e86, hf⟩ := ob1_s hf
  refine r_callIN (As := []) (rest := [.ref b83, .int (0 : Int32), .ref b81]) (st1 := [.ref b83, .int (0 : Int32), .ref b81]) (cells1 := 73) (slots1 := 4674) (rt := none) (b := b83) K (mX5_init l ob83 e86) dX9_init_173 rfl ceX5_init nw_2 q_262 q_81 q_263 ⟨Nat.le_of_ble_eq_true rfl, Nat.le_of_ble_eq_true rfl⟩ (Nat.le_of_ble_eq_true rfl) ⟨Nat.le_of_ble_eq_true rfl, Nat.le_of_ble_eq_true rfl⟩ ?_ rfl rfl rfl rfl
  obtain ⟨g87, e88, hf⟩ := ob1_s hf
  refine r_aastore (kd := 5) (x := (some b83)) K dX9_init_176 rfl rfl e88 ?_
  refine r_iinc (v := (1 : Int32)) (lv1 := [(1, .int (1 : Int32)), (0, .ref a0)]) K 0 dX9_init_177 rfl (by decide) (by decide) rfl ?_
  refine r_goto (tgt := 159) K dX9_init_180 (by decide) ?_
  refine r_iload_n K 0 dX9_init_159 rfl ?_
  refine r_iconst (v := (3 : Int32)) K dX9_init_160 (by decide) ?_
  refine r_icmp_ge (tgt := 183) K dX9_init_161 (by decide) (fun c172 => absurd c172 (by decide)) (fun _ => ?_)
  refine r_aload_n K 1 dX9_init_164 rfl ?_
  obtain ⟨b89, e90, hf⟩ := ob1_s hf
  refine r_getR (ci := 9) (k := 5) K dX9_init_165 inX9 rfl (by decide) rfl q_362 e90 ?_
  refine r_iload_n K 0 dX9_init_168 rfl ?_
  obtain ⟨b91, eb91, hf⟩ := bnd_g hf
  obtain ⟨g92, eg92, hf⟩ := bnd_g hf
  have ob91 : isO g92 b91 5 := isO_new eb91 eg92
  refine r_new (ci := 5) (N := 8) (ty0 := tyX5) (cells1 := 74) (slots1 := 4682) K dX9_init_169 inX5 rfl tyX5_ok q_214 q_260 q_81 (fun j hj => by match j, hj with | 0, _ => rfl | 1, _ => rfl | 2, _ => rfl | 3, _ => rfl | 4, _ => rfl | 5, _ => rfl | 6, _ => rfl | 7, _ => rfl) eb91 eg92 rfl rfl (Nat.le_of_ble_eq_true rfl) (Nat.le_of_ble_eq_true rfl) ?_
  refine r_dup K dX9_init_172 rfl ?_
  obtain ⟨g93, e94, hf⟩ := ob1_s hf
  refine r_callIN (As := []) (rest := [.ref b91, .int (1 : Int32), .ref b89]) (st1 := [.ref b91, .int (1 : Int32), .ref b89]) (cells1 := 83) (slots1 := 5570) (rt := none) (b := b91) K (mX5_init l ob91 e94) dX9_init_173 rfl ceX5_init nw_2 q_262 q_81 q_263 ⟨Nat.le_of_ble_eq_true rfl, Nat.le_of_ble_eq_true rfl⟩ (Nat.le_of_ble_eq_true rfl) ⟨Nat.le_of_ble_eq_true rfl, Nat.le_of_ble_eq_true rfl⟩ ?_ rfl rfl rfl rfl
  obtain ⟨g95, e96, hf⟩ := ob1_s hf
  refine r_aastore (kd := 5) (x := (some b91)) K dX9_init_176 rfl rfl e96 ?_
  refine r_iinc (v := (2 : Int32)) (lv1 := [(1, .int (2 : Int32)), (0, .ref a0)]) K 0 dX9_init_177 rfl (by decide) (by decide) rfl ?_
  refine r_goto (tgt := 159) K dX9_init_180 (by decide) ?_
  refine r_iload_n K 0 dX9_init_159 rfl ?_
  refine r_iconst (v := (3 : Int32)) K dX9_init_160 (by decide) ?_
  refine r_icmp_ge (tgt := 183) K dX9_init_161 (by decide) (fun c171 => absurd c171 (by decide)) (fun _ => ?_)
  refine r_aload_n K 1 dX9_init_164 rfl ?_
  obtain ⟨b97, e98, hf⟩ := ob1_s hf
  refine r_getR (ci := 9) (k := 5) K dX9_init_165 inX9 rfl (by decide) rfl q_362 e98 ?_
  refine r_iload_n K 0 dX9_init_168 rfl ?_
  obtain ⟨b99, eb99, hf⟩ := bnd_g hf
  obtain ⟨g100, eg100, hf⟩ := bnd_g hf
  have ob99 : isO g100 b99 5 := isO_new eb99 eg100
  refine r_new (ci := 5) (N := 8) (ty0 := tyX5) (cells1 := 84) (slots1 := 5578) K dX9_init_169 inX5 rfl tyX5_ok q_214 q_260 q_81 (fun j hj => by match j, hj with | 0, _ => rfl | 1, _ => rfl | 2, _ => rfl | 3, _ => rfl | 4, _ => rfl | 5, _ => rfl | 6, _ => rfl | 7, _ => rfl) eb99 eg100 rfl rfl (Nat.le_of_ble_eq_true rfl) (Nat.le_of_ble_eq_true rfl) ?_
  refine r_dup K dX9_init_172 rfl ?_
  obtain ⟨g101, e102, hf⟩ := ob1_s hf
  refine r_callIN (As := []) (rest := [.ref b99, .int (2 : Int32), .ref b97]) (st1 := [.ref b99, .int (2 : Int32), .ref b97]) (cells1 := 93) (slots1 := 6466) (rt := none) (b := b99) K (mX5_init l ob99 e102) dX9_init_173 rfl ceX5_init nw_2 q_262 q_81 q_263 ⟨Nat.le_of_ble_eq_true rfl, Nat.le_of_ble_eq_true rfl⟩ (Nat.le_of_ble_eq_true rfl) ⟨Nat.le_of_ble_eq_true rfl, Nat.le_of_ble_eq_true rfl⟩ ?_ rfl rfl rfl rfl
  obtain ⟨g103, e104, hf⟩ := ob1_s hf
  refine r_aastore (kd := 5) (x := (some b99)) K dX9_init_176 rfl rfl e104 ?_
  refine r_iinc (v := (3 : Int32)) (lv1 := [(1, .int (3 : Int32)), (0, .ref a0)]) K 0 dX9_init_177 rfl (by decide) (by decide) rfl ?_
  refine r_goto (tgt := 159) K dX9_init_180 (by decide) ?_
  refine r_iload_n K 0 dX9_init_159 rfl ?_
  refine r_iconst (v := (3 : Int32)) K dX9_init_160 (by decide) ?_
  refine r_icmp_ge (tgt := 183) K dX9_init_161 (by decide) (fun _ => ?_) (fun c170 => absurd (by decide) c170)
  refine r_iconst (v := (0 : Int32)) K dX9_init_183 (by decide) ?_
  refine r_istore_n (lv1 := [(1, .int (0 : Int32)), (0, .ref a0)]) K dX9_init_184 (by decide) rfl ?_
  refine r_iload_n K 0 dX9_init_185 rfl ?_
  refine r_iconst (v := (3 : Int32)) K dX9_init_186 (by decide) ?_
  refine r_icmp_ge (tgt := 209) K dX9_init_187 (by decide) (fun c169 => absurd c169 (by decide)) (fun _ => ?_)
  refine r_aload_n K 1 dX9_init_190 rfl ?_
  obtain ⟨b105, e106, hf⟩ := ob1_s hf
  refine r_getR (ci := 9) (k := 13) K dX9_init_191 inX9 rfl (by decide) rfl q_370 e106 ?_
  refine r_iload_n K 0 dX9_init_194 rfl ?_
  obtain ⟨b107, eb107, hf⟩ := bnd_g hf
  obtain ⟨g108, eg108, hf⟩ := bnd_g hf
  have ob107 : isO g108 b107 8 := isO_new eb107 eg108
  refine r_new (ci := 8) (N := 3) (ty0 := tyX8) (cells1 := 94) (slots1 := 6469) K dX9_init_195 inX8 rfl tyX8_ok q_318 q_324 q_83 (fun j hj => by match j, hj with | 0, _ => rfl | 1, _ => rfl | 2, _ => rfl) eb107 eg108 rfl rfl (Nat.le_of_ble_eq_true rfl) (Nat.le_of_ble_eq_true rfl) ?_
  refine r_dup K dX9_init_198 rfl ?_
  obtain ⟨g109, e110, hf⟩ := ob1_s hf
  refine r_callIN (As := []) (rest := [.ref b107, .int (0 : Int32), .ref b105]) (st1 := [.ref b107, .int (0 : Int32), .ref b105]) (cells1 := 95) (slots1 := 6489) (rt := none) (b := b107) K (mX8_init l ob107 e110) dX9_init_199 rfl ceX8_init nw_6 q_326 q_83 q_327 ⟨Nat.le_of_ble_eq_true rfl, Nat.le_of_ble_eq_true rfl⟩ (Nat.le_of_ble_eq_true rfl) ⟨Nat.le_of_ble_eq_true rfl, Nat.le_of_ble_eq_true rfl⟩ ?_ rfl rfl rfl rfl
  obtain ⟨g111, e112, hf⟩ := ob1_s hf
  refine r_aastore (kd := 6) (x := (some b107)) K dX9_init_202 rfl rfl e112 ?_
  refine r_iinc (v := (1 : Int32)) (lv1 := [(1, .int (1 : Int32)), (0, .ref a0)]) K 0 dX9_init_203 rfl (by decide) (by decide) rfl ?_
  refine r_goto (tgt := 185) K dX9_init_206 (by decide) ?_
  refine r_iload_n K 0 dX9_init_185 rfl ?_
  refine r_iconst (v := (3 : Int32)) K dX9_init_186 (by decide) ?_
  refine r_icmp_ge (tgt := 209) K dX9_init_187 (by decide) (fun c168 => absurd c168 (by decide)) (fun _ => ?_)
  refine r_aload_n K 1 dX9_init_190 rfl ?_
  obtain ⟨b113, e114, hf⟩ := ob1_s hf
  refine r_getR (ci := 9) (k := 13) K dX9_init_191 inX9 rfl (by decide) rfl q_370 e114 ?_
  refine r_iload_n K 0 dX9_init_194 rfl ?_
  obtain ⟨b115, eb115, hf⟩ := bnd_g hf
  obtain ⟨g116, eg116, hf⟩ := bnd_g hf
  have ob115 : isO g116 b115 8 := isO_new eb115 eg116
  refine r_new (ci := 8) (N := 3) (ty0 := tyX8) (cells1 := 96) (slots1 := 6492) K dX9_init_195 inX8 rfl tyX8_ok q_318 q_324 q_83 (fun j hj => by match j, hj with | 0, _ => rfl | 1, _ => rfl | 2, _ => rfl) eb115 eg116 rfl rfl (Nat.le_of_ble_eq_true rfl) (Nat.le_of_ble_eq_true rfl) ?_
  refine r_dup K dX9_init_198 rfl ?_
  obtain ⟨g117, e118, hf⟩ := ob1_s hf
  refine r_callIN (As := []) (rest := [.ref b115, .int (1 : Int32), .ref b113]) (st1 := [.ref b115, .int (1 : Int32), .ref b113]) (cells1 := 97) (slots1 := 6512) (rt := none) (b := b115) K (mX8_init l ob115 e118) dX9_init_199 rfl ceX8_init nw_6 q_326 q_83 q_327 ⟨Nat.le_of_ble_eq_true rfl, Nat.le_of_ble_eq_true rfl⟩ (Nat.le_of_ble_eq_true rfl) ⟨Nat.le_of_ble_eq_true rfl, Nat.le_of_ble_eq_true rfl⟩ ?_ rfl rfl rfl rfl
  obtain ⟨g119, e120, hf⟩ := ob1_s hf
  refine r_aastore (kd := 6) (x := (some b115)) K dX9_init_202 rfl rfl e120 ?_
  refine r_iinc (v := (2 : Int32)) (lv1 := [(1, .int (2 : Int32)), (0, .ref a0)]) K 0 dX9_init_203 rfl (by decide) (by decide) rfl ?_
  refine r_goto (tgt := 185) K dX9_init_206 (by decide) ?_
  refine r_iload_n K 0 dX9_init_185 rfl ?_
  refine r_iconst (v := (3 : Int32)) K dX9_init_186 (by decide) ?_
  refine r_icmp_ge (tgt := 209) K dX9_init_187 (by decide) (fun c167 => absurd c167 (by decide)) (fun _ => ?_)
  refine r_aload_n K 1 dX9_init_190 rfl ?_
  obtain ⟨b121, e122, hf⟩ := ob1_s hf
  refine r_getR (ci := 9) (k := 13) K dX9_init_191 inX9 rfl (by decide) rfl q_370 e122 ?_
  refine r_iload_n K 0 dX9_init_194 rfl ?_
  obtain ⟨b123, eb123, hf⟩ := bnd_g hf
  obtain ⟨g124, eg124, hf⟩ := bnd_g hf
  have ob123 : isO g124 b123 8 := isO_new eb123 eg124
  refine r_new (ci := 8) (N := 3) (ty0 := tyX8) (cells1 := 98) (slots1 := 6515) K dX9_init_195 inX8 rfl tyX8_ok q_318 q_324 q_83 (fun j hj => by match j, hj with | 0, _ => rfl | 1, _ => rfl | 2, _ => rfl) eb123 eg124 rfl rfl (Nat.le_of_ble_eq_true rfl) (Nat.le_of_ble_eq_true rfl) ?_
  refine r_dup K dX9_init_198 rfl ?_
  obtain ⟨g125, e126, hf⟩ := ob1_s hf
  refine r_callIN (As := []) (rest := [.ref b123, .int (2 : Int32), .ref b121]) (st1 := [.ref b123, .int (2 : Int32), .ref b121]) (cells1 := 99) (slots1 := 6535) (rt := none) (b := b123) K (mX8_init l ob123 e126) dX9_init_199 rfl ceX8_init nw_6 q_326 q_83 q_327 ⟨Nat.le_of_ble_eq_true rfl, Nat.le_of_ble_eq_true rfl⟩ (Nat.le_of_ble_eq_true rfl) ⟨Nat.le_of_ble_eq_true rfl, Nat.le_of_ble_eq_true rfl⟩ ?_ rfl rfl rfl rfl
  obtain ⟨g127, e128, hf⟩ := ob1_s hf
  refine r_aastore (kd := 6) (x := (some b123)) K dX9_init_202 rfl rfl e128 ?_
  refine r_iinc (v := (3 : Int32)) (lv1 := [(1, .int (3 : Int32)), (0, .ref a0)]) K 0 dX9_init_203 rfl (by decide) (by decide) rfl ?_
  refine r_goto (tgt := 185) K dX9_init_206 (by decide) ?_
  refine r_iload_n K 0 dX9_init_185 rfl ?_
  refine r_iconst (v := (3 : Int32)) K dX9_init_186 (by decide) ?_
  refine r_icmp_ge (tgt := 209) K dX9_init_187 (by decide) (fun _ => ?_) (fun c166 => absurd (by decide) c166)
  refine r_iconst (v := (0 : Int32)) K dX9_init_209 (by decide) ?_
  refine r_istore_n (lv1 := [(1, .int (0 : Int32)), (0, .ref a0)]) K dX9_init_210 (by decide) rfl ?_
  refine r_iload_n K 0 dX9_init_211 rfl ?_
  refine r_iconst (v := (4 : Int32)) K dX9_init_212 (by decide) ?_
  refine r_icmp_ge (tgt := 235) K dX9_init_213 (by decide) (fun c165 => absurd c165 (by decide)) (fun _ => ?_)
  refine r_aload_n K 1 dX9_init_216 rfl ?_
  obtain ⟨b129, e130, hf⟩ := ob1_s hf
  refine r_getR (ci := 9) (k := 14) K dX9_init_217 inX9 rfl (by decide) rfl q_371 e130 ?_
  refine r_iload_n K 0 dX9_init_220 rfl ?_
  obtain ⟨b131, eb131, hf⟩ := bnd_g hf
  obtain ⟨g132, eg132, hf⟩ := bnd_g hf
  have ob131 : isO g132 b131 4 := isO_new eb131 eg132
  refine r_new (ci := 4) (N := 2) (ty0 := tyX4) (cells1 := 100) (slots1 := 6537) K dX9_init_221 inX4 rfl tyX4_ok q_320 q_343 q_84 (fun j hj => by match j, hj with | 0, _ => rfl | 1, _ => rfl) eb131 eg132 rfl rfl (Nat.le_of_ble_eq_true rfl) (Nat.le_of_ble_eq_true rfl) ?_
  refine r_dup K dX9_init_224 rfl ?_
  obtain ⟨g133, e134, hf⟩ := ob1_s hf
  refine r_callIN (As := []) (rest := [.ref b131, .int (0 : Int32), .ref b129]) (st1 := [.ref b131, .int (0 : Int32), .ref b129]) (cells1 := 101) (slots1 := 6561) (rt := none) (b := b131) K (mX4_init l ob131 e134) dX9_init_225 rfl ceX4_init nw_7 q_345 q_84 q_346 ⟨Nat.le_of_ble_eq_true rfl, Nat.le_of_ble_eq_true rfl⟩ (Nat.le_of_ble_eq_true rfl) ⟨Nat.le_of_ble_eq_true rfl, Nat.le_of_ble_eq_true rfl⟩ ?_ rfl rfl rfl rfl
  obtain ⟨g135, e136, hf⟩ := ob1_s hf
  refine r_aastore (kd := 7) (x := (some b131)) K dX9_init_228 rfl rfl e136 ?_
  refine r_iinc (v := (1 : Int32)) (lv1 := [(1, .int (1 : Int32)), (0, .ref a0)]) K 0 dX9_init_229 rfl (by decide) (by decide) rfl ?_
  refine r_goto (tgt := 211) K dX9_init_232 (by decide) ?_
  refine r_iload_n K 0 dX9_init_211 rfl ?_
  refine r_iconst (v := (4 : Int32)) K dX9_init_212 (by decide) ?_
  refine r_icmp_ge (tgt := 235) K dX9_init_213 (by decide) (fun c164 => absurd c164 (by decide)) (fun _ => ?_)
  refine r_aload_n K 1 dX9_init_216 rfl ?_
  obtain ⟨b137, e138, hf⟩ := ob1_s hf
  refine r_getR (ci := 9) (k := 14) K dX9_init_217 inX9 rfl (by decide) rfl q_371 e138 ?_
  refine r_iload_n K 0 dX9_init_220 rfl ?_
  obtain ⟨b139, eb139, hf⟩ := bnd_g hf
  obtain ⟨g140, eg140, hf⟩ := bnd_g hf
  have ob139 : isO g140 b139 4 := isO_new eb139 eg140
  refine r_new (ci := 4) (N := 2) (ty0 := tyX4) (cells1 := 102) (slots1 := 6563) K dX9_init_221 inX4 rfl tyX4_ok q_320 q_343 q_84 (fun j hj => by match j, hj with | 0, _ => rfl | 1, _ => rfl) eb139 eg140 rfl rfl (Nat.le_of_ble_eq_true rfl) (Nat.le_of_ble_eq_true rfl) ?_
  refine r_dup K dX9_init_224 rfl ?_
  obtain ⟨g141, e142, hf⟩ := ob1_s hf
  refine r_callIN (As := []) (rest := [.ref b139, .int (1 : Int32), .ref b137]) (st1 := [.ref b139, .int (1 : Int32), .ref b137]) (cells1 := 103) (slots1 := 6587) (rt := none) (b := b139) K (mX4_init l ob139 e142) dX9_init_225 rfl ceX4_init nw_7 q_345 q_84 q_346 ⟨Nat.le_of_ble_eq_true rfl, Nat.le_of_ble_eq_true rfl⟩ (Nat.le_of_ble_eq_true rfl) ⟨Nat.le_of_ble_eq_true rfl, Nat.le_of_ble_eq_true rfl⟩ ?_ rfl rfl rfl rfl
  obtain ⟨g143, e144, hf⟩ := ob1_s hf
  refine r_aastore (kd := 7) (x := (some b139)) K dX9_init_228 rfl rfl e144 ?_
  refine r_iinc (v := (2 : Int32)) (lv1 := [(1, .int (2 : Int32)), (0, .ref a0)]) K 0 dX9_init_229 rfl (by decide) (by decide) rfl ?_
  refine r_goto (tgt := 211) K dX9_init_232 (by decide) ?_
  refine r_iload_n K 0 dX9_init_211 rfl ?_
  refine r_iconst (v := (4 : Int32)) K dX9_init_212 (by decide) ?_
  refine r_icmp_ge (tgt := 235) K dX9_init_213 (by decide) (fun c163 => absurd c163 (by decide)) (fun _ => ?_)
  refine r_aload_n K 1 dX9_init_216 rfl ?_
  obtain ⟨b145, e146, hf⟩ := ob1_s hf
  refine r_getR (ci := 9) (k := 14) K dX9_init_217 inX9 rfl (by decide) rfl q_371 e146 ?_
  refine r_iload_n K 0 dX9_init_220 rfl ?_
  obtain ⟨b147, eb147, hf⟩ := bnd_g hf
  obtain ⟨g148, eg148, hf⟩ := bnd_g hf
  have ob147 : isO g148 b147 4 := isO_new eb147 eg148
  refine r_new (ci := 4) (N := 2) (ty0 := tyX4) (cells1 := 104) (slots1 := 6589) K dX9_init_221 inX4 rfl tyX4_ok q_320 q_343 q_84 (fun j hj => by match j, hj with | 0, _ => rfl | 1, _ => rfl) eb147 eg148 rfl rfl (Nat.le_of_ble_eq_true rfl) (Nat.le_of_ble_eq_true rfl) ?_
  refine r_dup K dX9_init_224 rfl ?_
  obtain ⟨g149, e150, hf⟩ := ob1_s hf
  refine r_callIN (As := []) (rest := [.ref b147, .int (2 : Int32), .ref b145]) (st1 := [.ref b147, .int (2 : Int32), .ref b145]) (cells1 := 105) (slots1 := 6613) (rt := none) (b := b147) K (mX4_init l ob147 e150) dX9_init_225 rfl ceX4_init nw_7 q_345 q_84 q_346 ⟨Nat.le_of_ble_eq_true rfl, Nat.le_of_ble_eq_true rfl⟩ (Nat.le_of_ble_eq_true rfl) ⟨Nat.le_of_ble_eq_true rfl, Nat.le_of_ble_eq_true rfl⟩ ?_ rfl rfl rfl rfl
  obtain ⟨g151, e152, hf⟩ := ob1_s hf
  refine r_aastore (kd := 7) (x := (some b147)) K dX9_init_228 rfl rfl e152 ?_
  refine r_iinc (v := (3 : Int32)) (lv1 := [(1, .int (3 : Int32)), (0, .ref a0)]) K 0 dX9_init_229 rfl (by decide) (by decide) rfl ?_
  refine r_goto (tgt := 211) K dX9_init_232 (by decide) ?_
  refine r_iload_n K 0 dX9_init_211 rfl ?_
  refine r_iconst (v := (4 : Int32)) K dX9_init_212 (by decide) ?_
  refine r_icmp_ge (tgt := 235) K dX9_init_213 (by decide) (fun c162 => absurd c162 (by decide)) (fun _ => ?_)
  refine r_aload_n K 1 dX9_init_216 rfl ?_
  obtain ⟨b153, e154, hf⟩ := ob1_s hf
  refine r_getR (ci := 9) (k := 14) K dX9_init_217 inX9 rfl (by decide) rfl q_371 e154 ?_
  refine r_iload_n K 0 dX9_init_220 rfl ?_
  obtain ⟨b155, eb155, hf⟩ := bnd_g hf
  obtain ⟨g156, eg156, hf⟩ := bnd_g hf
  have ob155 : isO g156 b155 4 := isO_new eb155 eg156
  refine r_new (ci := 4) (N := 2) (ty0 := tyX4) (cells1 := 106) (slots1 := 6615) K dX9_init_221 inX4 rfl tyX4_ok q_320 q_343 q_84 (fun j hj => by match j, hj with | 0, _ => rfl | 1, _ => rfl) eb155 eg156 rfl rfl (Nat.le_of_ble_eq_true rfl) (Nat.le_of_ble_eq_true rfl) ?_
  refine r_dup K dX9_init_224 rfl ?_
  obtain ⟨g157, e158, hf⟩ := ob1_s hf
  refine r_callIN (As := []) (rest := [.ref b155, .int (3 : Int32), .ref b153]) (st1 := [.ref b155, .int (3 : Int32), .ref b153]) (cells1 := 107) (slots1 := 6639) (rt := none) (b := b155) K (mX4_init l ob155 e158) dX9_init_225 rfl ceX4_init nw_7 q_345 q_84 q_346 ⟨Nat.le_of_ble_eq_true rfl, Nat.le_of_ble_eq_true rfl⟩ (Nat.le_of_ble_eq_true rfl) ⟨Nat.le_of_ble_eq_true rfl, Nat.le_of_ble_eq_true rfl⟩ ?_ rfl rfl rfl rfl
  obtain ⟨g159, e160, hf⟩ := ob1_s hf
  refine r_aastore (kd := 7) (x := (some b155)) K dX9_init_228 rfl rfl e160 ?_
  refine r_iinc (v := (4 : Int32)) (lv1 := [(1, .int (4 : Int32)), (0, .ref a0)]) K 0 dX9_init_229 rfl (by decide) (by decide) rfl ?_
  refine r_goto (tgt := 211) K dX9_init_232 (by decide) ?_
  refine r_iload_n K 0 dX9_init_211 rfl ?_
  refine r_iconst (v := (4 : Int32)) K dX9_init_212 (by decide) ?_
  refine r_icmp_ge (tgt := 235) K dX9_init_213 (by decide) (fun _ => ?_) (fun c161 => absurd (by decide) c161)
  exact r_vret K dX9_init_235 hf (Nat.le_of_ble_eq_true rfl) (Nat.le_of_ble_eq_true rfl)
theorem ceX9_changed : CE yX9_changed 0 := ⟨by decide, by decide, by decide +kernel⟩
abbrev rmX9_changed : Room := { frames := 0, cells := 0, slots := 0, locals := 0 }
def fX9_changed_L12 (a0 : Nat) (k : AH → Option AH) : Nat → Int32 → AH → Option AH
  | 0, _, _ => none
  | n + 1, x1, h =>
    if (3 : Int32) ≤ x1 then
      k h
    else
      ob1 (gR h a0 9 6) fun b5 =>
      ob1 (sZ h b5 x1 (0 : Int32)) fun g7 =>
      bnd (x1 + (1 : Int32)) fun y9 =>
      fX9_changed_L12 a0 k n y9 g7
def fX9_changed (a0 : Nat) (h : AH) : Option AH :=
  ob1 (pV h a0 9 4 (.int (0 : Int32))) fun g1 =>
  ob1 (pV g1 a0 9 8 (.int (0 : Int32))) fun g3 =>
  fX9_changed_L12 a0 (fun (g11 : AH) =>
    some g11
  ) lf (0 : Int32) g3
set_option maxHeartbeats 4000000 in
set_option maxRecDepth 100000 in
theorem wX9_changed_L12 {p : Program} {l : Launch} {e : Env} {s : State} {m : MethodId} {args : Array Value} {below : List Frame} {meth : Method} {c : Code} {G : GG} {b0 : Nat} {h0 : AH} {a0 : Nat} {hh : AH} (K : CX p s m args meth c cX9_changed 2 RX9 (none) G b0) (ht : isO h0 a0 9) (k : AH → Option AH) (hk : ∀ (h : AH), k h = some hh → WA p l e rmX9_changed s m args below meth c (MQ below (QG G b0 h0 none hh) args s (rmX9_changed).cells (rmX9_changed).slots (AB b0)) G b0 2 h0 0 0 h 30 [] []) : ∀ (n : Nat) (x1 : Int32) (h : AH), fX9_changed_L12 a0 k n x1 h = some hh → WA p l e rmX9_changed s m args below meth c (MQ below (QG G b0 h0 none hh) args s (rmX9_changed).cells (rmX9_changed).slots (AB b0)) G b0 2 h0 0 0 h 12 [(0, .ref a0), (1, .int x1)] [] := by
  intro n
  induction n with
  | zero =>
    intro x1 h hf
    rw [fX9_changed_L12] at hf
    cases hf
  | succ n ih =>
    intro x1 h hf
    rw [fX9_changed_L12] at hf
    refine r_iload_n K 1 dX9_changed_12 rfl ?_
    refine r_iconst (v := (3 : Int32)) K dX9_changed_13 (by decide) ?_
    refine r_icmp_ge (tgt := 30) K dX9_changed_14 (by decide) (fun c10 => ?_) (fun c10 => ?_)
    · replace hf := ite_t hf c10
      refine r_lv [] rfl ?_
      exact hk h hf
    · replace hf := ite_f hf c10
      refine r_aload_n K 0 dX9_changed_17 rfl ?_
      obtain ⟨b5, e6, hf⟩ := ob1_s hf
      refine r_getR (ci := 9) (k := 6) K dX9_changed_18 inX9 rfl (by decide) rfl q_363 e6 ?_
      refine r_iload_n K 1 dX9_changed_21 rfl ?_
      refine r_iconst (v := (0 : Int32)) K dX9_changed_22 (by decide) ?_
      obtain ⟨g7, e8, hf⟩ := ob1_s hf
      refine r_zastore K dX9_changed_23 e8 ?_
      obtain ⟨y9, ey9, hf⟩ := bnd_g hf
      refine r_iinc (lv1 := [(1, .int y9), (0, .ref a0)]) K 1 dX9_changed_24 rfl (by rw [ey9]; rfl) (by decide) rfl ?_
      refine r_goto (tgt := 12) K dX9_changed_27 (by decide) ?_
      refine r_lv [1, 0] rfl ?_
      exact ih y9 g7 hf
set_option maxHeartbeats 4000000 in
set_option maxRecDepth 100000 in
theorem mX9_changed (l : Launch) {G : GG} {b0 : Nat} {h : AH} {a0 : Nat} {hh : AH} (ht : isO h a0 9) (hf : fX9_changed a0 h = some hh) : MM l yX9_changed cX9_changed 2 (none) rmX9_changed G b0 h [.ref a0] none hh := by
  refine MM.of (own := RX9) (lv0 := [(0, .ref a0)]) (by decide) rfl (Nat.le_of_ble_eq_true rfl) rfl ?_
  intro p e s m args below meth c K hnm
  unfold fX9_changed at hf
  refine r_aload_n K 0 dX9_changed_0 rfl ?_
  refine r_iconst (v := (0 : Int32)) K dX9_changed_1 (by decide) ?_
  obtain ⟨g1, e2, hf⟩ := ob1_s hf
  refine r_putV (ci := 9) (k := 4) (ty0 := tyX9) (ty := tyX9 4) K dX9_changed_2 inX9 rfl (by decide) rfl q_361 tyX9_ok nmX9 rfl rfl rfl rfl e2 ?_
  refine r_aload_n K 0 dX9_changed_5 rfl ?_
  refine r_iconst (v := (0 : Int32)) K dX9_changed_6 (by decide) ?_
  obtain ⟨g3, e4, hf⟩ := ob1_s hf
  refine r_putV (ci := 9) (k := 8) (ty0 := tyX9) (ty := tyX9 8) K dX9_changed_7 inX9 rfl (by decide) rfl q_365 tyX9_ok nmX9 rfl rfl rfl rfl e4 ?_
  refine r_iconst (v := (0 : Int32)) K dX9_changed_10 (by decide) ?_
  refine r_istore_n (lv1 := [(1, .int (0 : Int32)), (0, .ref a0)]) K dX9_changed_11 (by decide) rfl ?_
  refine r_lv [1, 0] rfl ?_
  refine wX9_changed_L12 K ht _ (fun g11 hf => ?_) lf (0 : Int32) g3 hf
  exact r_vret K dX9_changed_30 hf (Nat.le_of_ble_eq_true rfl) (Nat.le_of_ble_eq_true rfl)
theorem ceX9_towns : CE yX9_towns 1 := ⟨by decide, by decide, by decide +kernel⟩
abbrev rmX9_towns : Room := { frames := 1, cells := 0, slots := 0, locals := 21 }
def fX9_towns (a0 : Nat) (x1 : Int32) (h : AH) : Option (Int32 × AH) :=
  if x1 < (2 : Int32) then
    some ((-2 : Int32), h)
  else
    if x1 ≤ (6 : Int32) then
      ob1 (gR h a0 9 0) fun b1 =>
      ob1 (gI h b1 1 0) fun v3 =>
      ob1 (gR h a0 9 0) fun b5 =>
      ob1 (pV h b5 1 0 (.int x1)) fun g7 =>
      ob1 (gR g7 a0 9 0) fun b9 =>
      ob1 (pV g7 b9 1 1 (.int (0 : Int32))) fun g11 =>
      ob1 (fX9_changed a0 g11) fun g13 =>
      some (v3, g13)
    else
      some ((-2 : Int32), h)
set_option maxHeartbeats 4000000 in
set_option maxRecDepth 100000 in
theorem mX9_towns (l : Launch) {G : GG} {b0 : Nat} {h : AH} {a0 : Nat} {x1 : Int32} {rr : Int32} {hh : AH} (ht : isO h a0 9) (hf : fX9_towns a0 x1 h = some (rr, hh)) : MM l yX9_towns cX9_towns 3 (some .int) rmX9_towns G b0 h [.ref a0, .int x1] (some (.int rr)) hh := by
  refine MM.of (own := RX9) (lv0 := [(0, .ref a0), (1, .int x1)]) (by decide) rfl (Nat.le_of_ble_eq_true rfl) rfl ?_
  intro p e s m args below meth c K hnm
  unfold fX9_towns at hf
  refine r_iload_n K 1 dX9_towns_0 rfl ?_
  refine r_iconst (v := (2 : Int32)) K dX9_towns_1 (by decide) ?_
  refine r_icmp_lt (tgt := 11) K dX9_towns_2 (by decide) (fun c16 => ?_) (fun c16 => ?_)
  · replace hf := ite_t hf c16
    refine r_bipush (v := (-2 : Int32)) K dX9_towns_11 (by decide) ?_
    exact r_iret K dX9_towns_13 hf (Nat.le_of_ble_eq_true rfl) (Nat.le_of_ble_eq_true rfl)
  · replace hf := ite_f hf c16
    refine r_iload_n K 1 dX9_towns_5 rfl ?_
    refine r_bipush (v := (6 : Int32)) K dX9_towns_6 (by decide) ?_
    refine r_icmp_le (tgt := 14) K dX9_towns_8 (by decide) (fun c15 => ?_) (fun c15 => ?_)
    · replace hf := ite_t hf c15
      refine r_aload_n K 0 dX9_towns_14 rfl ?_
      obtain ⟨b1, e2, hf⟩ := ob1_s hf
      refine r_getR (ci := 9) (k := 0) K dX9_towns_15 inX9 rfl (by decide) rfl q_357 e2 ?_
      obtain ⟨v3, e4, hf⟩ := ob1_s hf
      refine r_getI (ci := 1) (k := 0) K dX9_towns_18 inX1 rfl (by decide) rfl q_150 e4 ?_
      refine r_istore_n (lv1 := [(2, .int v3), (0, .ref a0), (1, .int x1)]) K dX9_towns_21 (by decide) rfl ?_
      refine r_aload_n K 1 dX9_towns_22 rfl ?_
      obtain ⟨b5, e6, hf⟩ := ob1_s hf
      refine r_getR (ci := 9) (k := 0) K dX9_towns_23 inX9 rfl (by decide) rfl q_357 e6 ?_
      refine r_iload_n K 2 dX9_towns_26 rfl ?_
      obtain ⟨g7, e8, hf⟩ := ob1_s hf
      refine r_putV (ci := 1) (k := 0) (ty0 := tyX1) (ty := tyX1 0) K dX9_towns_27 inX1 rfl (by decide) rfl q_150 tyX1_ok nmX1 rfl rfl rfl rfl e8 ?_
      refine r_aload_n K 1 dX9_towns_30 rfl ?_
      obtain ⟨b9, e10, hf⟩ := ob1_s hf
      refine r_getR (ci := 9) (k := 0) K dX9_towns_31 inX9 rfl (by decide) rfl q_357 e10 ?_
      refine r_iconst (v := (0 : Int32)) K dX9_towns_34 (by decide) ?_
      obtain ⟨g11, e12, hf⟩ := ob1_s hf
      refine r_putV (ci := 1) (k := 1) (ty0 := tyX1) (ty := tyX1 1) K dX9_towns_35 inX1 rfl (by decide) rfl q_154 tyX1_ok nmX1 rfl rfl rfl rfl e12 ?_
      refine r_aload_n K 1 dX9_towns_38 rfl ?_
      obtain ⟨g13, e14, hf⟩ := ob1_s hf
      refine r_callV (As := []) (rest := []) (st1 := []) (cells1 := 0) (slots1 := 0) (b := a0) (ci := 9) K (fun z => mX9_changed l z e14) dX9_towns_39 rfl (fun z => z _ _ ht) rfl ceX9_changed q_413 q_415 q_0 q_75 q_416 ⟨Nat.le_of_ble_eq_true rfl, Nat.le_of_ble_eq_true rfl⟩ (Nat.le_of_ble_eq_true rfl) ⟨Nat.le_of_ble_eq_true rfl, Nat.le_of_ble_eq_true rfl⟩ ?_ rfl rfl rfl rfl
      refine r_iload_n K 0 dX9_towns_42 rfl ?_
      exact r_iret K dX9_towns_43 hf (Nat.le_of_ble_eq_true rfl) (Nat.le_of_ble_eq_true rfl)
    · replace hf := ite_f hf c15
      refine r_bipush (v := (-2 : Int32)) K dX9_towns_11 (by decide) ?_
      exact r_iret K dX9_towns_13 hf (Nat.le_of_ble_eq_true rfl) (Nat.le_of_ble_eq_true rfl)
theorem ceX9_isKind : CE yX9_isKind 1 := ⟨by decide, by decide, by decide +kernel⟩
abbrev rmX9_isKind : Room := { frames := 1, cells := 0, slots := 0, locals := 21 }
def fX9_isKind (x0 : Int32) : Option Int32 :=
  ob1 (fX9_isOneOf x0 (3 : Int32)) fun r1 =>
  gd (zb r1) <|
  some r1
set_option maxHeartbeats 4000000 in
set_option maxRecDepth 100000 in
theorem mX9_isKind (l : Launch) {G : GG} {b0 : Nat} {h : AH} {x0 : Int32} {rr : Int32} (hf : fX9_isKind x0 = some rr) : MM l yX9_isKind cX9_isKind 1 (some .boolean) rmX9_isKind G b0 h [.int x0] (some (.int rr)) h := by
  refine MM.of (own := RX9) (lv0 := [(0, .int x0)]) (by decide) rfl (Nat.le_of_ble_eq_true rfl) rfl ?_
  intro p e s m args below meth c K hnm
  unfold fX9_isKind at hf
  refine r_iload_n K 0 dX9_isKind_0 rfl ?_
  refine r_iconst (v := (3 : Int32)) K dX9_isKind_1 (by decide) ?_
  obtain ⟨r1, e2, hf⟩ := ob1_s hf
  refine r_callS (As := [.int x0, .int (3 : Int32)]) (rest := []) (st1 := [.int r1]) (cells1 := 0) (slots1 := 0) K (mX9_isOneOf l e2) dX9_isKind_2 ceX9_isOneOf q_431 q_426 q_75 q_427 ⟨Nat.le_of_ble_eq_true rfl, Nat.le_of_ble_eq_true rfl⟩ (Nat.le_of_ble_eq_true rfl) ⟨Nat.le_of_ble_eq_true rfl, Nat.le_of_ble_eq_true rfl⟩ ?_ rfl rfl rfl rfl
  obtain ⟨z3, hf⟩ := gd_s hf
  exact r_zret K dX9_isKind_5 (zb_n z3) (retp hf) (Nat.le_of_ble_eq_true rfl) (Nat.le_of_ble_eq_true rfl)
theorem ceX9_isWithin : CE yX9_isWithin 2 := ⟨by decide, by decide, by decide +kernel⟩
abbrev rmX9_isWithin : Room := { frames := 0, cells := 0, slots := 0, locals := 0 }
def fX9_isWithin (x0 : Int64) (x2 : Int64) : Option Int32 :=
  if x0 < (0 : Int64) then
    some (0 : Int32)
  else
    if x2 < x0 then
      some (0 : Int32)
    else
      some (1 : Int32)
set_option maxHeartbeats 4000000 in
set_option maxRecDepth 100000 in
theorem mX9_isWithin (l : Launch) {G : GG} {b0 : Nat} {h : AH} {x0 : Int64} {x2 : Int64} {rr : Int32} (hf : fX9_isWithin x0 x2 = some rr) : MM l yX9_isWithin cX9_isWithin 4 (some .boolean) rmX9_isWithin G b0 h [.long x0, .long x2] (some (.int rr)) h := by
  refine MM.of (own := RX9) (lv0 := [(0, .long x0), (2, .long x2)]) (by decide) rfl (Nat.le_of_ble_eq_true rfl) rfl ?_
  intro p e s m args below meth c K hnm
  unfold fX9_isWithin at hf
  refine r_lload_n K 0 dX9_isWithin_0 rfl ?_
  refine r_lconst (v := (0 : Int64)) K dX9_isWithin_1 (by decide) ?_
  refine r_lif_lt (tgt := 16) K dX9_isWithin_2 dX9_isWithin_3 (by decide) (fun c2 => ?_) (fun c2 => ?_)
  · replace hf := ite_t hf c2
    refine r_iconst (v := (0 : Int32)) K dX9_isWithin_16 (by decide) ?_
    exact r_zret K dX9_isWithin_17 rfl (retp hf) (Nat.le_of_ble_eq_true rfl) (Nat.le_of_ble_eq_true rfl)
  · replace hf := ite_f hf c2
    refine r_lload_n K 0 dX9_isWithin_6 rfl ?_
    refine r_lload_n K 1 dX9_isWithin_7 rfl ?_
    refine r_lif_gt (tgt := 16) K dX9_isWithin_8 dX9_isWithin_9 (by decide) (fun c1 => ?_) (fun c1 => ?_)
    · replace hf := ite_t hf c1
      refine r_iconst (v := (0 : Int32)) K dX9_isWithin_16 (by decide) ?_
      exact r_zret K dX9_isWithin_17 rfl (retp hf) (Nat.le_of_ble_eq_true rfl) (Nat.le_of_ble_eq_true rfl)
    · replace hf := ite_f hf c1
      refine r_iconst (v := (1 : Int32)) K dX9_isWithin_12 (by decide) ?_
      refine r_goto (tgt := 17) K dX9_isWithin_13 (by decide) ?_
      exact r_zret K dX9_isWithin_17 rfl (retp hf) (Nat.le_of_ble_eq_true rfl) (Nat.le_of_ble_eq_true rfl)
theorem ceX9_road : CE yX9_road 7 := ⟨by decide, by decide, by decide +kernel⟩
abbrev rmX9_road : Room := { frames := 2, cells := 1, slots := 7, locals := 50 }
def fX9_road (a0 : Nat) (x1 : Int32) (x2 : Int32) (x3 : Int32) (x4 : Int64) (x6 : Int64) (x8 : Int64) (x10 : Int32) (h : AH) : Option (Int32 × AH) :=
  ob1 (gR h a0 9 0) fun b1 =>
  gd (ckO h b1 1) <|
  ob1 (fX1_joins b1 x1 x2 h) fun r4 =>
  if r4 = (0 : Int32) then
    some ((-1 : Int32), h)
  else
    ob1 (fX9_isKind x3) fun r6 =>
    if r6 = (0 : Int32) then
      some ((-1 : Int32), h)
    else
      ob1 (fX9_isWithin x4 (100000000000000000 : Int64)) fun r8 =>
      bnd (fun (g11 : AH) =>
        if (0 : Int32) = (0 : Int32) then
          some ((-2 : Int32), g11)
        else
          ob1 (fX9_isWithin x8 (100000000000000 : Int64)) fun r12 =>
          if r12 = (0 : Int32) then
            some ((-2 : Int32), g11)
          else
            ob1 (fX9_isWithin (Int32.toInt64 x10) (36 : Int64)) fun r14 =>
            if r14 = (0 : Int32) then
              some ((-2 : Int32), g11)
            else
              ob1 (gR g11 a0 9 0) fun b16 =>
              ob1 (gI g11 b16 1 1) fun v18 =>
              if v18 < (12 : Int32) then
                ob1 (gR g11 a0 9 0) fun b20 =>
                bnd g11.1 fun b22 =>
                bnd (hnew g11 (.inr (3, [.int 0, .int 0, .int 0, .long 0, .long 0, .long 0, .int 0]))) fun g23 =>
                ob1 (fX3_init b22 x1 x2 x3 x4 x6 x8 x10 g23) fun g24 =>
                gd (ckO g24 b20 1) <|
                ob1 (fX1_append b20 b22 g24) fun g27 =>
                ob1 (fX9_changed a0 g27) fun g29 =>
                ob1 (gR g29 a0 9 0) fun b31 =>
                ob1 (gI g29 b31 1 1) fun v33 =>
                some (v33 - (1 : Int32), g29)
              else
                some ((-4 : Int32), g11)
      ) fun j10 =>
      if r8 = (0 : Int32) then
        j10 h
      else
        ob1 (fX9_isWithin x6 (100000000000000 : Int64)) fun r39 =>
        if r39 = (0 : Int32) then
          j10 h
        else
          if (1 : Int32) = (0 : Int32) then
            some ((-2 : Int32), h)
          else
            ob1 (fX9_isWithin x8 (100000000000000 : Int64)) fun r41 =>
            if r41 = (0 : Int32) then
              some ((-2 : Int32), h)
            else
              ob1 (fX9_isWithin (Int32.toInt64 x10) (36 : Int64)) fun r43 =>
              if r43 = (0 : Int32) then
                some ((-2 : Int32), h)
              else
                ob1 (gR h a0 9 0) fun b45 =>
                ob1 (gI h b45 1 1) fun v47 =>
                if v47 < (12 : Int32) then
                  ob1 (gR h a0 9 0) fun b49 =>
                  bnd h.1 fun b51 =>
                  bnd (hnew h (.inr (3, [.int 0, .int 0, .int 0, .long 0, .long 0, .long 0, .int 0]))) fun g52 =>
                  ob1 (fX3_init b51 x1 x2 x3 x4 x6 x8 x10 g52) fun g53 =>
                  gd (ckO g53 b49 1) <|
                  ob1 (fX1_append b49 b51 g53) fun g56 =>
                  ob1 (fX9_changed a0 g56) fun g58 =>
                  ob1 (gR g58 a0 9 0) fun b60 =>
                  ob1 (gI g58 b60 1 1) fun v62 =>
                  some (v62 - (1 : Int32), g58)
                else
                  some ((-4 : Int32), h)
set_option maxHeartbeats 4000000 in
set_option maxRecDepth 100000 in
theorem mX9_road (l : Launch) {G : GG} {b0 : Nat} {h : AH} {a0 : Nat} {x1 : Int32} {x2 : Int32} {x3 : Int32} {x4 : Int64} {x6 : Int64} {x8 : Int64} {x10 : Int32} {rr : Int32} {hh : AH} (ht : isO h a0 9) (hf : fX9_road a0 x1 x2 x3 x4 x6 x8 x10 h = some (rr, hh)) : MM l yX9_road cX9_road 12 (some .int) rmX9_road G b0 h [.ref a0, .int x1, .int x2, .int x3, .long x4, .long x6, .long x8, .int x10] (some (.int rr)) hh := by
  refine MM.of (own := RX9) (lv0 := [(0, .ref a0), (1, .int x1), (2, .int x2), (3, .int x3), (4, .long x4), (6, .long x6), (8, .long x8), (10, .int x10)]) (by decide) rfl (Nat.le_of_ble_eq_true rfl) rfl ?_
  intro p e s m args below meth c K hnm
  unfold fX9_road at hf
  refine r_aload_n K 0 dX9_road_0 rfl ?_
  obtain ⟨b1, e2, hf⟩ := ob1_s hf
  refine r_getR (ci := 9) (k := 0) K dX9_road_1 inX9 rfl (by decide) rfl q_357 e2 ?_
  refine r_iload_n K 1 dX9_road_4 rfl ?_
  refine r_iload_n K 2 dX9_road_5 rfl ?_
  obtain ⟨z3, hf⟩ := gd_s hf
  obtain ⟨r4, e5, hf⟩ := ob1_s hf
  refine r_callV (As := [.int x1, .int x2]) (rest := []) (st1 := [.int r4]) (cells1 := 0) (slots1 := 0) (b := b1) (ci := 1) K (fun z => mX1_joins l z e5) dX9_road_6 rfl (fun _ => isO_of z3) rfl ceX1_joins q_421 q_422 q_423 q_76 q_424 ⟨Nat.le_of_ble_eq_true rfl, Nat.le_of_ble_eq_true rfl⟩ (Nat.le_of_ble_eq_true rfl) ⟨Nat.le_of_ble_eq_true rfl, Nat.le_of_ble_eq_true rfl⟩ ?_ rfl rfl rfl rfl
  refine r_if_eq (tgt := 19) K dX9_road_9 (by decide) (fun c71 => ?_) (fun c71 => ?_)
  · replace hf := ite_t hf c71
    refine r_iconst (v := (-1 : Int32)) K dX9_road_19 (by decide) ?_
    exact r_iret K dX9_road_20 hf (Nat.le_of_ble_eq_true rfl) (Nat.le_of_ble_eq_true rfl)
  · replace hf := ite_f hf c71
    refine r_iload_n K 3 dX9_road_12 rfl ?_
    obtain ⟨r6, e7, hf⟩ := ob1_s hf
    refine r_callS (As := [.int x3]) (rest := []) (st1 := [.int r6]) (cells1 := 0) (slots1 := 0) K (mX9_isKind l e7) dX9_road_13 ceX9_isKind q_428 q_429 q_75 q_430 ⟨Nat.le_of_ble_eq_true rfl, Nat.le_of_ble_eq_true rfl⟩ (Nat.le_of_ble_eq_true rfl) ⟨Nat.le_of_ble_eq_true rfl, Nat.le_of_ble_eq_true rfl⟩ ?_ rfl rfl rfl rfl
    refine r_if_ne (tgt := 21) K dX9_road_16 (by decide) (fun c70 => ?_) (fun c70 => ?_)
    · replace hf := ite_f hf c70
      refine r_lload K 4 dX9_road_21 rfl ?_
      refine r_ldc2 K dX9_road_23 q_432 ?_
      obtain ⟨r8, e9, hf⟩ := ob1_s hf
      refine r_callS (As := [.long x4, .long (100000000000000000 : Int64)]) (rest := []) (st1 := [.int r8]) (cells1 := 0) (slots1 := 0) K (mX9_isWithin l e9) dX9_road_26 ceX9_isWithin q_433 q_434 q_75 q_435 ⟨Nat.le_of_ble_eq_true rfl, Nat.le_of_ble_eq_true rfl⟩ (Nat.le_of_ble_eq_true rfl) ⟨Nat.le_of_ble_eq_true rfl, Nat.le_of_ble_eq_true rfl⟩ ?_ rfl rfl rfl rfl
      obtain ⟨j10, ej10, hf⟩ := bnd_g hf
      have Jj10 : ∀ (g11 : AH), j10 g11 = some (rr, hh) → WA p l e rmX9_road s m args below meth c (MQ below (QG G b0 h (some (.int rr)) hh) args s (rmX9_road).cells (rmX9_road).slots (AB b0)) G b0 12 h 0 0 g11 47 [(0, .ref a0), (1, .int x1), (2, .int x2), (3, .int x3), (4, .long x4), (6, .long x6), (8, .long x8), (10, .int x10)] [] := by
        intro g11 hf
        rw [ej10] at hf
        refine r_iconst (v := (0 : Int32)) K dX9_road_47 (by decide) ?_
        refine r_istore (lv1 := [(11, .int (0 : Int32)), (0, .ref a0), (1, .int x1), (2, .int x2), (3, .int x3), (4, .long x4), (6, .long x6), (8, .long x8), (10, .int x10)]) K dX9_road_48 (by decide) rfl ?_
        refine r_iload K 0 dX9_road_50 rfl ?_
        refine r_if_eq (tgt := 78) K dX9_road_52 (by decide) (fun c38 => ?_) (fun c38 => ?_)
        · replace hf := ite_t hf c38
          refine r_bipush (v := (-2 : Int32)) K dX9_road_78 (by decide) ?_
          exact r_iret K dX9_road_80 hf (Nat.le_of_ble_eq_true rfl) (Nat.le_of_ble_eq_true rfl)
        · replace hf := ite_f hf c38
          refine r_lload K 7 dX9_road_55 rfl ?_
          refine r_ldc2 K dX9_road_57 q_436 ?_
          obtain ⟨r12, e13, hf⟩ := ob1_s hf
          refine r_callS (As := [.long x8, .long (100000000000000 : Int64)]) (rest := []) (st1 := [.int r12]) (cells1 := 0) (slots1 := 0) K (mX9_isWithin l e13) dX9_road_60 ceX9_isWithin q_433 q_434 q_75 q_435 ⟨Nat.le_of_ble_eq_true rfl, Nat.le_of_ble_eq_true rfl⟩ (Nat.le_of_ble_eq_true rfl) ⟨Nat.le_of_ble_eq_true rfl, Nat.le_of_ble_eq_true rfl⟩ ?_ rfl rfl rfl rfl
          refine r_if_eq (tgt := 78) K dX9_road_63 (by decide) (fun c37 => ?_) (fun c37 => ?_)
          · replace hf := ite_t hf c37
            refine r_bipush (v := (-2 : Int32)) K dX9_road_78 (by decide) ?_
            exact r_iret K dX9_road_80 hf (Nat.le_of_ble_eq_true rfl) (Nat.le_of_ble_eq_true rfl)
          · replace hf := ite_f hf c37
            refine r_iload K 8 dX9_road_66 rfl ?_
            refine r_i2l K dX9_road_68 ?_
            refine r_ldc2 K dX9_road_69 q_437 ?_
            obtain ⟨r14, e15, hf⟩ := ob1_s hf
            refine r_callS (As := [.long (Int32.toInt64 x10), .long (36 : Int64)]) (rest := []) (st1 := [.int r14]) (cells1 := 0) (slots1 := 0) K (mX9_isWithin l e15) dX9_road_72 ceX9_isWithin q_433 q_434 q_75 q_435 ⟨Nat.le_of_ble_eq_true rfl, Nat.le_of_ble_eq_true rfl⟩ (Nat.le_of_ble_eq_true rfl) ⟨Nat.le_of_ble_eq_true rfl, Nat.le_of_ble_eq_true rfl⟩ ?_ rfl rfl rfl rfl
            refine r_if_ne (tgt := 81) K dX9_road_75 (by decide) (fun c36 => ?_) (fun c36 => ?_)
            · replace hf := ite_f hf c36
              refine r_aload_n K 1 dX9_road_81 rfl ?_
              obtain ⟨b16, e17, hf⟩ := ob1_s hf
              refine r_getR (ci := 9) (k := 0) K dX9_road_82 inX9 rfl (by decide) rfl q_357 e17 ?_
              obtain ⟨v18, e19, hf⟩ := ob1_s hf
              refine r_getI (ci := 1) (k := 1) K dX9_road_85 inX1 rfl (by decide) rfl q_154 e19 ?_
              refine r_bipush (v := (12 : Int32)) K dX9_road_88 (by decide) ?_
              refine r_icmp_lt (tgt := 96) K dX9_road_90 (by decide) (fun c35 => ?_) (fun c35 => ?_)
              · replace hf := ite_t hf c35
                refine r_aload_n K 1 dX9_road_96 rfl ?_
                obtain ⟨b20, e21, hf⟩ := ob1_s hf
                refine r_getR (ci := 9) (k := 0) K dX9_road_97 inX9 rfl (by decide) rfl q_357 e21 ?_
                obtain ⟨b22, eb22, hf⟩ := bnd_g hf
                obtain ⟨g23, eg23, hf⟩ := bnd_g hf
                have ob22 : isO g23 b22 3 := isO_new eb22 eg23
                refine r_new (ci := 3) (N := 7) (ty0 := tyX3) (cells1 := 1) (slots1 := 7) K dX9_road_100 inX3 rfl tyX3_ok q_438 q_109 q_77 (fun j hj => by match j, hj with | 0, _ => rfl | 1, _ => rfl | 2, _ => rfl | 3, _ => rfl | 4, _ => rfl | 5, _ => rfl | 6, _ => rfl) eb22 eg23 rfl rfl (Nat.le_of_ble_eq_true rfl) (Nat.le_of_ble_eq_true rfl) ?_
                refine r_dup K dX9_road_103 rfl ?_
                refine r_iload_n K 2 dX9_road_104 rfl ?_
                refine r_iload_n K 3 dX9_road_105 rfl ?_
                refine r_iload_n K 4 dX9_road_106 rfl ?_
                refine r_lload K 5 dX9_road_107 rfl ?_
                refine r_lload K 6 dX9_road_109 rfl ?_
                refine r_lload K 7 dX9_road_111 rfl ?_
                refine r_iload K 8 dX9_road_113 rfl ?_
                obtain ⟨g24, e25, hf⟩ := ob1_s hf
                refine r_callI (As := [.int x1, .int x2, .int x3, .long x4, .long x6, .long x8, .int x10]) (rest := [.ref b22, .ref b20]) (st1 := [.ref b22, .ref b20]) (cells1 := 1) (slots1 := 7) (rt := none) (b := b22) K (mX3_init l ob22 e25) dX9_road_115 rfl ceX3_init q_439 q_111 q_77 q_112 ⟨Nat.le_of_ble_eq_true rfl, Nat.le_of_ble_eq_true rfl⟩ (Nat.le_of_ble_eq_true rfl) ⟨Nat.le_of_ble_eq_true rfl, Nat.le_of_ble_eq_true rfl⟩ ?_ rfl rfl rfl rfl
                obtain ⟨z26, hf⟩ := gd_s hf
                obtain ⟨g27, e28, hf⟩ := ob1_s hf
                refine r_callV (As := [.ref b22]) (rest := []) (st1 := []) (cells1 := 1) (slots1 := 7) (b := b20) (ci := 1) K (fun z => mX1_append l z e28) dX9_road_118 rfl (fun _ => isO_of z26) rfl ceX1_append q_440 q_441 q_442 q_76 q_443 ⟨Nat.le_of_ble_eq_true rfl, Nat.le_of_ble_eq_true rfl⟩ (Nat.le_of_ble_eq_true rfl) ⟨Nat.le_of_ble_eq_true rfl, Nat.le_of_ble_eq_true rfl⟩ ?_ rfl rfl rfl rfl
                refine r_aload_n K 1 dX9_road_121 rfl ?_
                obtain ⟨g29, e30, hf⟩ := ob1_s hf
                refine r_callV (As := []) (rest := []) (st1 := []) (cells1 := 1) (slots1 := 7) (b := a0) (ci := 9) K (fun z => mX9_changed l z e30) dX9_road_122 rfl (fun z => z _ _ ht) rfl ceX9_changed q_413 q_415 q_0 q_75 q_416 ⟨Nat.le_of_ble_eq_true rfl, Nat.le_of_ble_eq_true rfl⟩ (Nat.le_of_ble_eq_true rfl) ⟨Nat.le_of_ble_eq_true rfl, Nat.le_of_ble_eq_true rfl⟩ ?_ rfl rfl rfl rfl
                refine r_aload_n K 1 dX9_road_125 rfl ?_
                obtain ⟨b31, e32, hf⟩ := ob1_s hf
                refine r_getR (ci := 9) (k := 0) K dX9_road_126 inX9 rfl (by decide) rfl q_357 e32 ?_
                obtain ⟨v33, e34, hf⟩ := ob1_s hf
                refine r_getI (ci := 1) (k := 1) K dX9_road_129 inX1 rfl (by decide) rfl q_154 e34 ?_
                refine r_iconst (v := (1 : Int32)) K dX9_road_132 (by decide) ?_
                refine r_isub K dX9_road_133 ?_
                exact r_iret K dX9_road_134 hf (Nat.le_of_ble_eq_true rfl) (Nat.le_of_ble_eq_true rfl)
              · replace hf := ite_f hf c35
                refine r_bipush (v := (-4 : Int32)) K dX9_road_93 (by decide) ?_
                exact r_iret K dX9_road_95 hf (Nat.le_of_ble_eq_true rfl) (Nat.le_of_ble_eq_true rfl)
            · replace hf := ite_t hf c36
              refine r_bipush (v := (-2 : Int32)) K dX9_road_78 (by decide) ?_
              exact r_iret K dX9_road_80 hf (Nat.le_of_ble_eq_true rfl) (Nat.le_of_ble_eq_true rfl)
      refine r_if_eq (tgt := 47) K dX9_road_29 (by decide) (fun c69 => ?_) (fun c69 => ?_)
      · replace hf := ite_t hf c69
        exact Jj10 h hf
      · replace hf := ite_f hf c69
        refine r_lload K 5 dX9_road_32 rfl ?_
        refine r_ldc2 K dX9_road_34 q_436 ?_
        obtain ⟨r39, e40, hf⟩ := ob1_s hf
        refine r_callS (As := [.long x6, .long (100000000000000 : Int64)]) (rest := []) (st1 := [.int r39]) (cells1 := 0) (slots1 := 0) K (mX9_isWithin l e40) dX9_road_37 ceX9_isWithin q_433 q_434 q_75 q_435 ⟨Nat.le_of_ble_eq_true rfl, Nat.le_of_ble_eq_true rfl⟩ (Nat.le_of_ble_eq_true rfl) ⟨Nat.le_of_ble_eq_true rfl, Nat.le_of_ble_eq_true rfl⟩ ?_ rfl rfl rfl rfl
        refine r_if_eq (tgt := 47) K dX9_road_40 (by decide) (fun c68 => ?_) (fun c68 => ?_)
        · replace hf := ite_t hf c68
          exact Jj10 h hf
        · replace hf := ite_f hf c68
          refine r_iconst (v := (1 : Int32)) K dX9_road_43 (by decide) ?_
          refine r_goto (tgt := 48) K dX9_road_44 (by decide) ?_
          refine r_istore (lv1 := [(11, .int (1 : Int32)), (0, .ref a0), (1, .int x1), (2, .int x2), (3, .int x3), (4, .long x4), (6, .long x6), (8, .long x8), (10, .int x10)]) K dX9_road_48 (by decide) rfl ?_
          refine r_iload K 0 dX9_road_50 rfl ?_
          refine r_if_eq (tgt := 78) K dX9_road_52 (by decide) (fun c67 => ?_) (fun c67 => ?_)
          · replace hf := ite_t hf c67
            refine r_bipush (v := (-2 : Int32)) K dX9_road_78 (by decide) ?_
            exact r_iret K dX9_road_80 hf (Nat.le_of_ble_eq_true rfl) (Nat.le_of_ble_eq_true rfl)
          · replace hf := ite_f hf c67
            refine r_lload K 7 dX9_road_55 rfl ?_
            refine r_ldc2 K dX9_road_57 q_436 ?_
            obtain ⟨r41, e42, hf⟩ := ob1_s hf
            refine r_callS (As := [.long x8, .long (100000000000000 : Int64)]) (rest := []) (st1 := [.int r41]) (cells1 := 0) (slots1 := 0) K (mX9_isWithin l e42) dX9_road_60 ceX9_isWithin q_433 q_434 q_75 q_435 ⟨Nat.le_of_ble_eq_true rfl, Nat.le_of_ble_eq_true rfl⟩ (Nat.le_of_ble_eq_true rfl) ⟨Nat.le_of_ble_eq_true rfl, Nat.le_of_ble_eq_true rfl⟩ ?_ rfl rfl rfl rfl
            refine r_if_eq (tgt := 78) K dX9_road_63 (by decide) (fun c66 => ?_) (fun c66 => ?_)
            · replace hf := ite_t hf c66
              refine r_bipush (v := (-2 : Int32)) K dX9_road_78 (by decide) ?_
              exact r_iret K dX9_road_80 hf (Nat.le_of_ble_eq_true rfl) (Nat.le_of_ble_eq_true rfl)
            · replace hf := ite_f hf c66
              refine r_iload K 8 dX9_road_66 rfl ?_
              refine r_i2l K dX9_road_68 ?_
              refine r_ldc2 K dX9_road_69 q_437 ?_
              obtain ⟨r43, e44, hf⟩ := ob1_s hf
              refine r_callS (As := [.long (Int32.toInt64 x10), .long (36 : Int64)]) (rest := []) (st1 := [.int r43]) (cells1 := 0) (slots1 := 0) K (mX9_isWithin l e44) dX9_road_72 ceX9_isWithin q_433 q_434 q_75 q_435 ⟨Nat.le_of_ble_eq_true rfl, Nat.le_of_ble_eq_true rfl⟩ (Nat.le_of_ble_eq_true rfl) ⟨Nat.le_of_ble_eq_true rfl, Nat.le_of_ble_eq_true rfl⟩ ?_ rfl rfl rfl rfl
              refine r_if_ne (tgt := 81) K dX9_road_75 (by decide) (fun c65 => ?_) (fun c65 => ?_)
              · replace hf := ite_f hf c65
                refine r_aload_n K 1 dX9_road_81 rfl ?_
                obtain ⟨b45, e46, hf⟩ := ob1_s hf
                refine r_getR (ci := 9) (k := 0) K dX9_road_82 inX9 rfl (by decide) rfl q_357 e46 ?_
                obtain ⟨v47, e48, hf⟩ := ob1_s hf
                refine r_getI (ci := 1) (k := 1) K dX9_road_85 inX1 rfl (by decide) rfl q_154 e48 ?_
                refine r_bipush (v := (12 : Int32)) K dX9_road_88 (by decide) ?_
                refine r_icmp_lt (tgt := 96) K dX9_road_90 (by decide) (fun c64 => ?_) (fun c64 => ?_)
                · replace hf := ite_t hf c64
                  refine r_aload_n K 1 dX9_road_96 rfl ?_
                  obtain ⟨b49, e50, hf⟩ := ob1_s hf
                  refine r_getR (ci := 9) (k := 0) K dX9_road_97 inX9 rfl (by decide) rfl q_357 e50 ?_
                  obtain ⟨b51, eb51, hf⟩ := bnd_g hf
                  obtain ⟨g52, eg52, hf⟩ := bnd_g hf
                  have ob51 : isO g52 b51 3 := isO_new eb51 eg52
                  refine r_new (ci := 3) (N := 7) (ty0 := tyX3) (cells1 := 1) (slots1 := 7) K dX9_road_100 inX3 rfl tyX3_ok q_438 q_109 q_77 (fun j hj => by match j, hj with | 0, _ => rfl | 1, _ => rfl | 2, _ => rfl | 3, _ => rfl | 4, _ => rfl | 5, _ => rfl | 6, _ => rfl) eb51 eg52 rfl rfl (Nat.le_of_ble_eq_true rfl) (Nat.le_of_ble_eq_true rfl) ?_
                  refine r_dup K dX9_road_103 rfl ?_
                  refine r_iload_n K 2 dX9_road_104 rfl ?_
                  refine r_iload_n K 3 dX9_road_105 rfl ?_
                  refine r_iload_n K 4 dX9_road_106 rfl ?_
                  refine r_lload K 5 dX9_road_107 rfl ?_
                  refine r_lload K 6 dX9_road_109 rfl ?_
                  refine r_lload K 7 dX9_road_111 rfl ?_
                  refine r_iload K 8 dX9_road_113 rfl ?_
                  obtain ⟨g53, e54, hf⟩ := ob1_s hf
                  refine r_callI (As := [.int x1, .int x2, .int x3, .long x4, .long x6, .long x8, .int x10]) (rest := [.ref b51, .ref b49]) (st1 := [.ref b51, .ref b49]) (cells1 := 1) (slots1 := 7) (rt := none) (b := b51) K (mX3_init l ob51 e54) dX9_road_115 rfl ceX3_init q_439 q_111 q_77 q_112 ⟨Nat.le_of_ble_eq_true rfl, Nat.le_of_ble_eq_true rfl⟩ (Nat.le_of_ble_eq_true rfl) ⟨Nat.le_of_ble_eq_true rfl, Nat.le_of_ble_eq_true rfl⟩ ?_ rfl rfl rfl rfl
                  obtain ⟨z55, hf⟩ := gd_s hf
                  obtain ⟨g56, e57, hf⟩ := ob1_s hf
                  refine r_callV (As := [.ref b51]) (rest := []) (st1 := []) (cells1 := 1) (slots1 := 7) (b := b49) (ci := 1) K (fun z => mX1_append l z e57) dX9_road_118 rfl (fun _ => isO_of z55) rfl ceX1_append q_440 q_441 q_442 q_76 q_443 ⟨Nat.le_of_ble_eq_true rfl, Nat.le_of_ble_eq_true rfl⟩ (Nat.le_of_ble_eq_true rfl) ⟨Nat.le_of_ble_eq_true rfl, Nat.le_of_ble_eq_true rfl⟩ ?_ rfl rfl rfl rfl
                  refine r_aload_n K 1 dX9_road_121 rfl ?_
                  obtain ⟨g58, e59, hf⟩ := ob1_s hf
                  refine r_callV (As := []) (rest := []) (st1 := []) (cells1 := 1) (slots1 := 7) (b := a0) (ci := 9) K (fun z => mX9_changed l z e59) dX9_road_122 rfl (fun z => z _ _ ht) rfl ceX9_changed q_413 q_415 q_0 q_75 q_416 ⟨Nat.le_of_ble_eq_true rfl, Nat.le_of_ble_eq_true rfl⟩ (Nat.le_of_ble_eq_true rfl) ⟨Nat.le_of_ble_eq_true rfl, Nat.le_of_ble_eq_true rfl⟩ ?_ rfl rfl rfl rfl
                  refine r_aload_n K 1 dX9_road_125 rfl ?_
                  obtain ⟨b60, e61, hf⟩ := ob1_s hf
                  refine r_getR (ci := 9) (k := 0) K dX9_road_126 inX9 rfl (by decide) rfl q_357 e61 ?_
                  obtain ⟨v62, e63, hf⟩ := ob1_s hf
                  refine r_getI (ci := 1) (k := 1) K dX9_road_129 inX1 rfl (by decide) rfl q_154 e63 ?_
                  refine r_iconst (v := (1 : Int32)) K dX9_road_132 (by decide) ?_
                  refine r_isub K dX9_road_133 ?_
                  exact r_iret K dX9_road_134 hf (Nat.le_of_ble_eq_true rfl) (Nat.le_of_ble_eq_true rfl)
                · replace hf := ite_f hf c64
                  refine r_bipush (v := (-4 : Int32)) K dX9_road_93 (by decide) ?_
                  exact r_iret K dX9_road_95 hf (Nat.le_of_ble_eq_true rfl) (Nat.le_of_ble_eq_true rfl)
              · replace hf := ite_t hf c65
                refine r_bipush (v := (-2 : Int32)) K dX9_road_78 (by decide) ?_
                exact r_iret K dX9_road_80 hf (Nat.le_of_ble_eq_true rfl) (Nat.le_of_ble_eq_true rfl)
    · replace hf := ite_t hf c70
      refine r_iconst (v := (-1 : Int32)) K dX9_road_19 (by decide) ?_
      exact r_iret K dX9_road_20 hf (Nat.le_of_ble_eq_true rfl) (Nat.le_of_ble_eq_true rfl)
theorem ceX9_close : CE yX9_close 1 := ⟨by decide, by decide, by decide +kernel⟩
abbrev rmX9_close : Room := { frames := 2, cells := 0, slots := 0, locals := 42 }
def fX9_close (a0 : Nat) (x1 : Int32) (h : AH) : Option (Int32 × AH) :=
  ob1 (gR h a0 9 0) fun b1 =>
  gd (ckO h b1 1) <|
  ob1 (fX1_hasRoad b1 x1 h) fun r4 =>
  if r4 = (0 : Int32) then
    some ((-1 : Int32), h)
  else
    ob1 (gR h a0 9 0) fun b6 =>
    gd (ckO h b6 1) <|
    ob1 (fX1_drop b6 x1 h) fun g9 =>
    ob1 (fX9_changed a0 g9) fun g11 =>
    ob1 (gR g11 a0 9 0) fun b13 =>
    ob1 (gI g11 b13 1 1) fun v15 =>
    some (v15, g11)
set_option maxHeartbeats 4000000 in
set_option maxRecDepth 100000 in
theorem mX9_close (l : Launch) {G : GG} {b0 : Nat} {h : AH} {a0 : Nat} {x1 : Int32} {rr : Int32} {hh : AH} (ht : isO h a0 9) (hf : fX9_close a0 x1 h = some (rr, hh)) : MM l yX9_close cX9_close 2 (some .int) rmX9_close G b0 h [.ref a0, .int x1] (some (.int rr)) hh := by
  refine MM.of (own := RX9) (lv0 := [(0, .ref a0), (1, .int x1)]) (by decide) rfl (Nat.le_of_ble_eq_true rfl) rfl ?_
  intro p e s m args below meth c K hnm
  unfold fX9_close at hf
  refine r_aload_n K 0 dX9_close_0 rfl ?_
  obtain ⟨b1, e2, hf⟩ := ob1_s hf
  refine r_getR (ci := 9) (k := 0) K dX9_close_1 inX9 rfl (by decide) rfl q_357 e2 ?_
  refine r_iload_n K 1 dX9_close_4 rfl ?_
  obtain ⟨z3, hf⟩ := gd_s hf
  obtain ⟨r4, e5, hf⟩ := ob1_s hf
  refine r_callV (As := [.int x1]) (rest := []) (st1 := [.int r4]) (cells1 := 0) (slots1 := 0) (b := b1) (ci := 1) K (fun z => mX1_hasRoad l z e5) dX9_close_5 rfl (fun _ => isO_of z3) rfl ceX1_hasRoad q_448 q_449 q_450 q_76 q_451 ⟨Nat.le_of_ble_eq_true rfl, Nat.le_of_ble_eq_true rfl⟩ (Nat.le_of_ble_eq_true rfl) ⟨Nat.le_of_ble_eq_true rfl, Nat.le_of_ble_eq_true rfl⟩ ?_ rfl rfl rfl rfl
  refine r_if_ne (tgt := 13) K dX9_close_8 (by decide) (fun c17 => ?_) (fun c17 => ?_)
  · replace hf := ite_f hf c17
    refine r_aload_n K 0 dX9_close_13 rfl ?_
    obtain ⟨b6, e7, hf⟩ := ob1_s hf
    refine r_getR (ci := 9) (k := 0) K dX9_close_14 inX9 rfl (by decide) rfl q_357 e7 ?_
    refine r_iload_n K 1 dX9_close_17 rfl ?_
    obtain ⟨z8, hf⟩ := gd_s hf
    obtain ⟨g9, e10, hf⟩ := ob1_s hf
    refine r_callV (As := [.int x1]) (rest := []) (st1 := []) (cells1 := 0) (slots1 := 0) (b := b6) (ci := 1) K (fun z => mX1_drop l z e10) dX9_close_18 rfl (fun _ => isO_of z8) rfl ceX1_drop q_452 q_453 q_454 q_76 q_455 ⟨Nat.le_of_ble_eq_true rfl, Nat.le_of_ble_eq_true rfl⟩ (Nat.le_of_ble_eq_true rfl) ⟨Nat.le_of_ble_eq_true rfl, Nat.le_of_ble_eq_true rfl⟩ ?_ rfl rfl rfl rfl
    refine r_aload_n K 0 dX9_close_21 rfl ?_
    obtain ⟨g11, e12, hf⟩ := ob1_s hf
    refine r_callV (As := []) (rest := []) (st1 := []) (cells1 := 0) (slots1 := 0) (b := a0) (ci := 9) K (fun z => mX9_changed l z e12) dX9_close_22 rfl (fun z => z _ _ ht) rfl ceX9_changed q_413 q_415 q_0 q_75 q_416 ⟨Nat.le_of_ble_eq_true rfl, Nat.le_of_ble_eq_true rfl⟩ (Nat.le_of_ble_eq_true rfl) ⟨Nat.le_of_ble_eq_true rfl, Nat.le_of_ble_eq_true rfl⟩ ?_ rfl rfl rfl rfl
    refine r_aload_n K 0 dX9_close_25 rfl ?_
    obtain ⟨b13, e14, hf⟩ := ob1_s hf
    refine r_getR (ci := 9) (k := 0) K dX9_close_26 inX9 rfl (by decide) rfl q_357 e14 ?_
    obtain ⟨v15, e16, hf⟩ := ob1_s hf
    refine r_getI (ci := 1) (k := 1) K dX9_close_29 inX1 rfl (by decide) rfl q_154 e16 ?_
    exact r_iret K dX9_close_32 hf (Nat.le_of_ble_eq_true rfl) (Nat.le_of_ble_eq_true rfl)
  · replace hf := ite_t hf c17
    refine r_iconst (v := (-1 : Int32)) K dX9_close_11 (by decide) ?_
    exact r_iret K dX9_close_12 hf (Nat.le_of_ble_eq_true rfl) (Nat.le_of_ble_eq_true rfl)
theorem ceX9_toll : CE yX9_toll 2 := ⟨by decide, by decide, by decide +kernel⟩
abbrev rmX9_toll : Room := { frames := 2, cells := 0, slots := 0, locals := 42 }
def fX9_toll (a0 : Nat) (x1 : Int32) (x2 : Int64) (h : AH) : Option (Int64 × AH) :=
  ob1 (gR h a0 9 0) fun b1 =>
  gd (ckO h b1 1) <|
  ob1 (fX1_hasRoad b1 x1 h) fun r4 =>
  if r4 = (0 : Int32) then
    some ((-1 : Int64), h)
  else
    ob1 (fX9_isWithin x2 (1000000000 : Int64)) fun r6 =>
    if r6 = (0 : Int32) then
      some ((-2 : Int64), h)
    else
      ob1 (gR h a0 9 0) fun b8 =>
      ob1 (gR h b8 1 3) fun b10 =>
      ob1 (aL h b10 x1) fun v12 =>
      ob1 (gR h a0 9 0) fun b14 =>
      ob1 (gR h b14 1 3) fun b16 =>
      ob1 (sL h b16 x1 x2) fun g18 =>
      ob1 (fX9_changed a0 g18) fun g20 =>
      some (v12, g20)
set_option maxHeartbeats 4000000 in
set_option maxRecDepth 100000 in
theorem mX9_toll (l : Launch) {G : GG} {b0 : Nat} {h : AH} {a0 : Nat} {x1 : Int32} {x2 : Int64} {rr : Int64} {hh : AH} (ht : isO h a0 9) (hf : fX9_toll a0 x1 x2 h = some (rr, hh)) : MM l yX9_toll cX9_toll 6 (some .long) rmX9_toll G b0 h [.ref a0, .int x1, .long x2] (some (.long rr)) hh := by
  refine MM.of (own := RX9) (lv0 := [(0, .ref a0), (1, .int x1), (2, .long x2)]) (by decide) rfl (Nat.le_of_ble_eq_true rfl) rfl ?_
  intro p e s m args below meth c K hnm
  unfold fX9_toll at hf
  refine r_aload_n K 0 dX9_toll_0 rfl ?_
  obtain ⟨b1, e2, hf⟩ := ob1_s hf
  refine r_getR (ci := 9) (k := 0) K dX9_toll_1 inX9 rfl (by decide) rfl q_357 e2 ?_
  refine r_iload_n K 1 dX9_toll_4 rfl ?_
  obtain ⟨z3, hf⟩ := gd_s hf
  obtain ⟨r4, e5, hf⟩ := ob1_s hf
  refine r_callV (As := [.int x1]) (rest := []) (st1 := [.int r4]) (cells1 := 0) (slots1 := 0) (b := b1) (ci := 1) K (fun z => mX1_hasRoad l z e5) dX9_toll_5 rfl (fun _ => isO_of z3) rfl ceX1_hasRoad q_448 q_449 q_450 q_76 q_451 ⟨Nat.le_of_ble_eq_true rfl, Nat.le_of_ble_eq_true rfl⟩ (Nat.le_of_ble_eq_true rfl) ⟨Nat.le_of_ble_eq_true rfl, Nat.le_of_ble_eq_true rfl⟩ ?_ rfl rfl rfl rfl
  refine r_if_ne (tgt := 15) K dX9_toll_8 (by decide) (fun c23 => ?_) (fun c23 => ?_)
  · replace hf := ite_f hf c23
    refine r_lload_n K 2 dX9_toll_15 rfl ?_
    refine r_ldc2 K dX9_toll_16 q_461 ?_
    obtain ⟨r6, e7, hf⟩ := ob1_s hf
    refine r_callS (As := [.long x2, .long (1000000000 : Int64)]) (rest := []) (st1 := [.int r6]) (cells1 := 0) (slots1 := 0) K (mX9_isWithin l e7) dX9_toll_19 ceX9_isWithin q_433 q_434 q_75 q_435 ⟨Nat.le_of_ble_eq_true rfl, Nat.le_of_ble_eq_true rfl⟩ (Nat.le_of_ble_eq_true rfl) ⟨Nat.le_of_ble_eq_true rfl, Nat.le_of_ble_eq_true rfl⟩ ?_ rfl rfl rfl rfl
    refine r_if_ne (tgt := 29) K dX9_toll_22 (by decide) (fun c22 => ?_) (fun c22 => ?_)
    · replace hf := ite_f hf c22
      refine r_aload_n K 0 dX9_toll_29 rfl ?_
      obtain ⟨b8, e9, hf⟩ := ob1_s hf
      refine r_getR (ci := 9) (k := 0) K dX9_toll_30 inX9 rfl (by decide) rfl q_357 e9 ?_
      obtain ⟨b10, e11, hf⟩ := ob1_s hf
      refine r_getR (ci := 1) (k := 3) K dX9_toll_33 inX1 rfl (by decide) rfl q_163 e11 ?_
      refine r_iload_n K 1 dX9_toll_36 rfl ?_
      obtain ⟨v12, e13, hf⟩ := ob1_s hf
      refine r_laload K dX9_toll_37 e13 ?_
      refine r_lstore (lv1 := [(4, .long v12), (0, .ref a0), (1, .int x1), (2, .long x2)]) K dX9_toll_38 (by decide) rfl ?_
      refine r_aload_n K 1 dX9_toll_40 rfl ?_
      obtain ⟨b14, e15, hf⟩ := ob1_s hf
      refine r_getR (ci := 9) (k := 0) K dX9_toll_41 inX9 rfl (by decide) rfl q_357 e15 ?_
      obtain ⟨b16, e17, hf⟩ := ob1_s hf
      refine r_getR (ci := 1) (k := 3) K dX9_toll_44 inX1 rfl (by decide) rfl q_163 e17 ?_
      refine r_iload_n K 2 dX9_toll_47 rfl ?_
      refine r_lload_n K 3 dX9_toll_48 rfl ?_
      obtain ⟨g18, e19, hf⟩ := ob1_s hf
      refine r_lastore K dX9_toll_49 e19 ?_
      refine r_aload_n K 1 dX9_toll_50 rfl ?_
      obtain ⟨g20, e21, hf⟩ := ob1_s hf
      refine r_callV (As := []) (rest := []) (st1 := []) (cells1 := 0) (slots1 := 0) (b := a0) (ci := 9) K (fun z => mX9_changed l z e21) dX9_toll_51 rfl (fun z => z _ _ ht) rfl ceX9_changed q_413 q_415 q_0 q_75 q_416 ⟨Nat.le_of_ble_eq_true rfl, Nat.le_of_ble_eq_true rfl⟩ (Nat.le_of_ble_eq_true rfl) ⟨Nat.le_of_ble_eq_true rfl, Nat.le_of_ble_eq_true rfl⟩ ?_ rfl rfl rfl rfl
      refine r_lload K 0 dX9_toll_54 rfl ?_
      exact r_lret K dX9_toll_56 hf (Nat.le_of_ble_eq_true rfl) (Nat.le_of_ble_eq_true rfl)
    · replace hf := ite_t hf c22
      refine r_ldc2 K dX9_toll_25 q_462 ?_
      exact r_lret K dX9_toll_28 hf (Nat.le_of_ble_eq_true rfl) (Nat.le_of_ble_eq_true rfl)
  · replace hf := ite_t hf c23
    refine r_ldc2 K dX9_toll_11 q_460 ?_
    exact r_lret K dX9_toll_14 hf (Nat.le_of_ble_eq_true rfl) (Nat.le_of_ble_eq_true rfl)
theorem ceX9_of : CE yX9_of 2 := ⟨by decide, by decide, by decide +kernel⟩
abbrev rmX9_of : Room := { frames := 2, cells := 0, slots := 0, locals := 42 }
def fX9_of (a0 : Nat) (x1 : Int32) (x2 : Int32) (h : AH) : Option Int64 :=
  ob1 (gR h a0 9 0) fun b1 =>
  gd (ckO h b1 1) <|
  ob1 (fX1_hasRoad b1 x1 h) fun r4 =>
  if r4 = (0 : Int32) then
    some (-9223372036854775808 : Int64)
  else
    ob1 (gR h a0 9 0) fun b6 =>
    ob1 (gR h b6 1 2) fun b8 =>
    ob1 (aR h b8 4 x1) fun b10 =>
    if x2 = (0 : Int32) then
      ob1 (gI h b10 3 0) fun v12 =>
      some (Int32.toInt64 v12)
    else
    if x2 = (1 : Int32) then
      ob1 (gI h b10 3 1) fun v15 =>
      some (Int32.toInt64 v15)
    else
    if x2 = (2 : Int32) then
      ob1 (gI h b10 3 2) fun v18 =>
      some (Int32.toInt64 v18)
    else
    if x2 = (3 : Int32) then
      ob1 (gL h b10 3 3) fun v21 =>
      some v21
    else
    if x2 = (4 : Int32) then
      ob1 (gL h b10 3 4) fun v24 =>
      some v24
    else
    if x2 = (5 : Int32) then
      ob1 (gL h b10 3 5) fun v27 =>
      some v27
    else
    if x2 = (6 : Int32) then
      ob1 (gI h b10 3 6) fun v30 =>
      some (Int32.toInt64 v30)
    else
    if x2 = (7 : Int32) then
      ob1 (gR h a0 9 0) fun b33 =>
      ob1 (gR h b33 1 3) fun b35 =>
      ob1 (aL h b35 x1) fun v37 =>
      some v37
    else
    some (-9223372036854775808 : Int64)
set_option maxHeartbeats 4000000 in
set_option maxRecDepth 100000 in
theorem mX9_of (l : Launch) {G : GG} {b0 : Nat} {h : AH} {a0 : Nat} {x1 : Int32} {x2 : Int32} {rr : Int64} (ht : isO h a0 9) (hf : fX9_of a0 x1 x2 h = some rr) : MM l yX9_of cX9_of 4 (some .long) rmX9_of G b0 h [.ref a0, .int x1, .int x2] (some (.long rr)) h := by
  refine MM.of (own := RX9) (lv0 := [(0, .ref a0), (1, .int x1), (2, .int x2)]) (by decide) rfl (Nat.le_of_ble_eq_true rfl) rfl ?_
  intro p e s m args below meth c K hnm
  unfold fX9_of at hf
  refine r_aload_n K 0 dX9_of_0 rfl ?_
  obtain ⟨b1, e2, hf⟩ := ob1_s hf
  refine r_getR (ci := 9) (k := 0) K dX9_of_1 inX9 rfl (by decide) rfl q_357 e2 ?_
  refine r_iload_n K 1 dX9_of_4 rfl ?_
  obtain ⟨z3, hf⟩ := gd_s hf
  obtain ⟨r4, e5, hf⟩ := ob1_s hf
  refine r_callV (As := [.int x1]) (rest := []) (st1 := [.int r4]) (cells1 := 0) (slots1 := 0) (b := b1) (ci := 1) K (fun z => mX1_hasRoad l z e5) dX9_of_5 rfl (fun _ => isO_of z3) rfl ceX1_hasRoad q_448 q_449 q_450 q_76 q_451 ⟨Nat.le_of_ble_eq_true rfl, Nat.le_of_ble_eq_true rfl⟩ (Nat.le_of_ble_eq_true rfl) ⟨Nat.le_of_ble_eq_true rfl, Nat.le_of_ble_eq_true rfl⟩ ?_ rfl rfl rfl rfl
  refine r_if_ne (tgt := 15) K dX9_of_8 (by decide) (fun c40 => ?_) (fun c40 => ?_)
  · replace hf := ite_f hf c40
    refine r_aload_n K 0 dX9_of_15 rfl ?_
    obtain ⟨b6, e7, hf⟩ := ob1_s hf
    refine r_getR (ci := 9) (k := 0) K dX9_of_16 inX9 rfl (by decide) rfl q_357 e7 ?_
    obtain ⟨b8, e9, hf⟩ := ob1_s hf
    refine r_getR (ci := 1) (k := 2) K dX9_of_19 inX1 rfl (by decide) rfl q_161 e9 ?_
    refine r_iload_n K 1 dX9_of_22 rfl ?_
    obtain ⟨b10, e11, hf⟩ := ob1_s hf
    refine r_aaload (kd := 4) (ty := .object RX3) K dX9_of_23 rfl rfl e11 ?_
    refine r_astore_n (lv1 := [(3, .ref b10), (0, .ref a0), (1, .int x1), (2, .int x2)]) K dX9_of_24 (by decide) rfl ?_
    refine r_iload_n K 3 dX9_of_25 rfl ?_
    by_cases c14 : x2 = (0 : Int32)
    · replace hf := ite_t hf c14
      refine r_tin (v := (0 : Int32)) (tgt := 72) K dX9_of_26 c14 (by decide) (by decide) rfl (by decide) ?_
      refine r_aload_n K 0 dX9_of_72 rfl ?_
      obtain ⟨v12, e13, hf⟩ := ob1_s hf
      refine r_getI (ci := 3) (k := 0) K dX9_of_73 inX3 rfl (by decide) rfl q_117 e13 ?_
      refine r_i2l K dX9_of_76 ?_
      exact r_lret K dX9_of_77 (retp hf) (Nat.le_of_ble_eq_true rfl) (Nat.le_of_ble_eq_true rfl)
    replace hf := ite_f hf c14
    by_cases c17 : x2 = (1 : Int32)
    · replace hf := ite_t hf c17
      refine r_tin (v := (1 : Int32)) (tgt := 78) K dX9_of_26 c17 (by decide) (by decide) rfl (by decide) ?_
      refine r_aload_n K 0 dX9_of_78 rfl ?_
      obtain ⟨v15, e16, hf⟩ := ob1_s hf
      refine r_getI (ci := 3) (k := 1) K dX9_of_79 inX3 rfl (by decide) rfl q_121 e16 ?_
      refine r_i2l K dX9_of_82 ?_
      exact r_lret K dX9_of_83 (retp hf) (Nat.le_of_ble_eq_true rfl) (Nat.le_of_ble_eq_true rfl)
    replace hf := ite_f hf c17
    by_cases c20 : x2 = (2 : Int32)
    · replace hf := ite_t hf c20
      refine r_tin (v := (2 : Int32)) (tgt := 84) K dX9_of_26 c20 (by decide) (by decide) rfl (by decide) ?_
      refine r_aload_n K 0 dX9_of_84 rfl ?_
      obtain ⟨v18, e19, hf⟩ := ob1_s hf
      refine r_getI (ci := 3) (k := 2) K dX9_of_85 inX3 rfl (by decide) rfl q_123 e19 ?_
      refine r_i2l K dX9_of_88 ?_
      exact r_lret K dX9_of_89 (retp hf) (Nat.le_of_ble_eq_true rfl) (Nat.le_of_ble_eq_true rfl)
    replace hf := ite_f hf c20
    by_cases c23 : x2 = (3 : Int32)
    · replace hf := ite_t hf c23
      refine r_tin (v := (3 : Int32)) (tgt := 90) K dX9_of_26 c23 (by decide) (by decide) rfl (by decide) ?_
      refine r_aload_n K 0 dX9_of_90 rfl ?_
      obtain ⟨v21, e22, hf⟩ := ob1_s hf
      refine r_getL (ci := 3) (k := 3) K dX9_of_91 inX3 rfl (by decide) rfl q_125 e22 ?_
      exact r_lret K dX9_of_94 (retp hf) (Nat.le_of_ble_eq_true rfl) (Nat.le_of_ble_eq_true rfl)
    replace hf := ite_f hf c23
    by_cases c26 : x2 = (4 : Int32)
    · replace hf := ite_t hf c26
      refine r_tin (v := (4 : Int32)) (tgt := 95) K dX9_of_26 c26 (by decide) (by decide) rfl (by decide) ?_
      refine r_aload_n K 0 dX9_of_95 rfl ?_
      obtain ⟨v24, e25, hf⟩ := ob1_s hf
      refine r_getL (ci := 3) (k := 4) K dX9_of_96 inX3 rfl (by decide) rfl q_127 e25 ?_
      exact r_lret K dX9_of_99 (retp hf) (Nat.le_of_ble_eq_true rfl) (Nat.le_of_ble_eq_true rfl)
    replace hf := ite_f hf c26
    by_cases c29 : x2 = (5 : Int32)
    · replace hf := ite_t hf c29
      refine r_tin (v := (5 : Int32)) (tgt := 100) K dX9_of_26 c29 (by decide) (by decide) rfl (by decide) ?_
      refine r_aload_n K 0 dX9_of_100 rfl ?_
      obtain ⟨v27, e28, hf⟩ := ob1_s hf
      refine r_getL (ci := 3) (k := 5) K dX9_of_101 inX3 rfl (by decide) rfl q_129 e28 ?_
      exact r_lret K dX9_of_104 (retp hf) (Nat.le_of_ble_eq_true rfl) (Nat.le_of_ble_eq_true rfl)
    replace hf := ite_f hf c29
    by_cases c32 : x2 = (6 : Int32)
    · replace hf := ite_t hf c32
      refine r_tin (v := (6 : Int32)) (tgt := 105) K dX9_of_26 c32 (by decide) (by decide) rfl (by decide) ?_
      refine r_aload_n K 0 dX9_of_105 rfl ?_
      obtain ⟨v30, e31, hf⟩ := ob1_s hf
      refine r_getI (ci := 3) (k := 6) K dX9_of_106 inX3 rfl (by decide) rfl q_131 e31 ?_
      refine r_i2l K dX9_of_109 ?_
      exact r_lret K dX9_of_110 (retp hf) (Nat.le_of_ble_eq_true rfl) (Nat.le_of_ble_eq_true rfl)
    replace hf := ite_f hf c32
    by_cases c39 : x2 = (7 : Int32)
    · replace hf := ite_t hf c39
      refine r_tin (v := (7 : Int32)) (tgt := 111) K dX9_of_26 c39 (by decide) (by decide) rfl (by decide) ?_
      refine r_aload_n K 1 dX9_of_111 rfl ?_
      obtain ⟨b33, e34, hf⟩ := ob1_s hf
      refine r_getR (ci := 9) (k := 0) K dX9_of_112 inX9 rfl (by decide) rfl q_357 e34 ?_
      obtain ⟨b35, e36, hf⟩ := ob1_s hf
      refine r_getR (ci := 1) (k := 3) K dX9_of_115 inX1 rfl (by decide) rfl q_163 e36 ?_
      refine r_iload_n K 2 dX9_of_118 rfl ?_
      obtain ⟨v37, e38, hf⟩ := ob1_s hf
      refine r_laload K dX9_of_119 e38 ?_
      exact r_lret K dX9_of_120 (retp hf) (Nat.le_of_ble_eq_true rfl) (Nat.le_of_ble_eq_true rfl)
    replace hf := ite_f hf c39
    refine r_tout (N := 8) (tgt := 121) K dX9_of_26 (fun j hj => by match j, hj with | 0, _ => exact c14 | 1, _ => exact c17 | 2, _ => exact c20 | 3, _ => exact c23 | 4, _ => exact c26 | 5, _ => exact c29 | 6, _ => exact c32 | 7, _ => exact c39) (by decide) (by decide) (by decide) ?_
    refine r_ldc2 K dX9_of_121 q_467 ?_
    exact r_lret K dX9_of_124 (retp hf) (Nat.le_of_ble_eq_true rfl) (Nat.le_of_ble_eq_true rfl)
  · replace hf := ite_t hf c40
    refine r_ldc2 K dX9_of_11 q_467 ?_
    exact r_lret K dX9_of_14 (retp hf) (Nat.le_of_ble_eq_true rfl) (Nat.le_of_ble_eq_true rfl)
theorem ceX9_isLoad : CE yX9_isLoad 1 := ⟨by decide, by decide, by decide +kernel⟩
abbrev rmX9_isLoad : Room := { frames := 0, cells := 0, slots := 0, locals := 0 }
def fX9_isLoad (x0 : Int32) : Option Int32 :=
  if x0 < (1 : Int32) then
    some (0 : Int32)
  else
    if (36 : Int32) < x0 then
      some (0 : Int32)
    else
      some (1 : Int32)
set_option maxHeartbeats 4000000 in
set_option maxRecDepth 100000 in
theorem mX9_isLoad (l : Launch) {G : GG} {b0 : Nat} {h : AH} {x0 : Int32} {rr : Int32} (hf : fX9_isLoad x0 = some rr) : MM l yX9_isLoad cX9_isLoad 1 (some .boolean) rmX9_isLoad G b0 h [.int x0] (some (.int rr)) h := by
  refine MM.of (own := RX9) (lv0 := [(0, .int x0)]) (by decide) rfl (Nat.le_of_ble_eq_true rfl) rfl ?_
  intro p e s m args below meth c K hnm
  unfold fX9_isLoad at hf
  refine r_iload_n K 0 dX9_isLoad_0 rfl ?_
  refine r_iconst (v := (1 : Int32)) K dX9_isLoad_1 (by decide) ?_
  refine r_icmp_lt (tgt := 15) K dX9_isLoad_2 (by decide) (fun c2 => ?_) (fun c2 => ?_)
  · replace hf := ite_t hf c2
    refine r_iconst (v := (0 : Int32)) K dX9_isLoad_15 (by decide) ?_
    exact r_zret K dX9_isLoad_16 rfl (retp hf) (Nat.le_of_ble_eq_true rfl) (Nat.le_of_ble_eq_true rfl)
  · replace hf := ite_f hf c2
    refine r_iload_n K 0 dX9_isLoad_5 rfl ?_
    refine r_bipush (v := (36 : Int32)) K dX9_isLoad_6 (by decide) ?_
    refine r_icmp_gt (tgt := 15) K dX9_isLoad_8 (by decide) (fun c1 => ?_) (fun c1 => ?_)
    · replace hf := ite_t hf c1
      refine r_iconst (v := (0 : Int32)) K dX9_isLoad_15 (by decide) ?_
      exact r_zret K dX9_isLoad_16 rfl (retp hf) (Nat.le_of_ble_eq_true rfl) (Nat.le_of_ble_eq_true rfl)
    · replace hf := ite_f hf c1
      refine r_iconst (v := (1 : Int32)) K dX9_isLoad_11 (by decide) ?_
      refine r_goto (tgt := 16) K dX9_isLoad_12 (by decide) ?_
      exact r_zret K dX9_isLoad_16 rfl (retp hf) (Nat.le_of_ble_eq_true rfl) (Nat.le_of_ble_eq_true rfl)
theorem ceX9_cost : CE yX9_cost 3 := ⟨by decide, by decide, by decide +kernel⟩
abbrev rmX9_cost : Room := { frames := 2, cells := 0, slots := 0, locals := 42 }
def fX9_cost (a0 : Nat) (x1 : Int32) (x2 : Int32) (x3 : Int32) (h : AH) : Option Int64 :=
  ob1 (gR h a0 9 0) fun b1 =>
  gd (ckO h b1 1) <|
  ob1 (fX1_hasRoad b1 x1 h) fun r4 =>
  if r4 = (0 : Int32) then
    some (-9223372036854775808 : Int64)
  else
    ob1 (fX9_isLoad x2) fun r6 =>
    if r6 = (0 : Int32) then
      some (-9223372036854775808 : Int64)
    else
      ob1 (fX9_isOneOf x3 (2 : Int32)) fun r8 =>
      if r8 = (0 : Int32) then
        some (-9223372036854775808 : Int64)
      else
        if x3 = (0 : Int32) then
          ob1 (gR h a0 9 0) fun b19 =>
          ob1 (gR h b19 1 2) fun b21 =>
          ob1 (aR h b21 4 x1) fun b23 =>
          gd (ckO h b23 3) <|
          ob1 (fX3_costAt b23 x2 h) fun r26 =>
          some r26
        else
          ob1 (gR h a0 9 0) fun b10 =>
          ob1 (gR h b10 1 2) fun b12 =>
          ob1 (aR h b12 4 x1) fun b14 =>
          gd (ckO h b14 3) <|
          ob1 (fX3_lossAt b14 x2 h) fun r17 =>
          some r17
set_option maxHeartbeats 4000000 in
set_option maxRecDepth 100000 in
theorem mX9_cost (l : Launch) {G : GG} {b0 : Nat} {h : AH} {a0 : Nat} {x1 : Int32} {x2 : Int32} {x3 : Int32} {rr : Int64} (ht : isO h a0 9) (hf : fX9_cost a0 x1 x2 x3 h = some rr) : MM l yX9_cost cX9_cost 4 (some .long) rmX9_cost G b0 h [.ref a0, .int x1, .int x2, .int x3] (some (.long rr)) h := by
  refine MM.of (own := RX9) (lv0 := [(0, .ref a0), (1, .int x1), (2, .int x2), (3, .int x3)]) (by decide) rfl (Nat.le_of_ble_eq_true rfl) rfl ?_
  intro p e s m args below meth c K hnm
  unfold fX9_cost at hf
  refine r_aload_n K 0 dX9_cost_0 rfl ?_
  obtain ⟨b1, e2, hf⟩ := ob1_s hf
  refine r_getR (ci := 9) (k := 0) K dX9_cost_1 inX9 rfl (by decide) rfl q_357 e2 ?_
  refine r_iload_n K 1 dX9_cost_4 rfl ?_
  obtain ⟨z3, hf⟩ := gd_s hf
  obtain ⟨r4, e5, hf⟩ := ob1_s hf
  refine r_callV (As := [.int x1]) (rest := []) (st1 := [.int r4]) (cells1 := 0) (slots1 := 0) (b := b1) (ci := 1) K (fun z => mX1_hasRoad l z e5) dX9_cost_5 rfl (fun _ => isO_of z3) rfl ceX1_hasRoad q_448 q_449 q_450 q_76 q_451 ⟨Nat.le_of_ble_eq_true rfl, Nat.le_of_ble_eq_true rfl⟩ (Nat.le_of_ble_eq_true rfl) ⟨Nat.le_of_ble_eq_true rfl, Nat.le_of_ble_eq_true rfl⟩ ?_ rfl rfl rfl rfl
  refine r_if_eq (tgt := 26) K dX9_cost_8 (by decide) (fun c31 => ?_) (fun c31 => ?_)
  · replace hf := ite_t hf c31
    refine r_ldc2 K dX9_cost_26 q_467 ?_
    exact r_lret K dX9_cost_29 (retp hf) (Nat.le_of_ble_eq_true rfl) (Nat.le_of_ble_eq_true rfl)
  · replace hf := ite_f hf c31
    refine r_iload_n K 2 dX9_cost_11 rfl ?_
    obtain ⟨r6, e7, hf⟩ := ob1_s hf
    refine r_callS (As := [.int x2]) (rest := []) (st1 := [.int r6]) (cells1 := 0) (slots1 := 0) K (mX9_isLoad l e7) dX9_cost_12 ceX9_isLoad q_472 q_473 q_75 q_474 ⟨Nat.le_of_ble_eq_true rfl, Nat.le_of_ble_eq_true rfl⟩ (Nat.le_of_ble_eq_true rfl) ⟨Nat.le_of_ble_eq_true rfl, Nat.le_of_ble_eq_true rfl⟩ ?_ rfl rfl rfl rfl
    refine r_if_eq (tgt := 26) K dX9_cost_15 (by decide) (fun c30 => ?_) (fun c30 => ?_)
    · replace hf := ite_t hf c30
      refine r_ldc2 K dX9_cost_26 q_467 ?_
      exact r_lret K dX9_cost_29 (retp hf) (Nat.le_of_ble_eq_true rfl) (Nat.le_of_ble_eq_true rfl)
    · replace hf := ite_f hf c30
      refine r_iload_n K 3 dX9_cost_18 rfl ?_
      refine r_iconst (v := (2 : Int32)) K dX9_cost_19 (by decide) ?_
      obtain ⟨r8, e9, hf⟩ := ob1_s hf
      refine r_callS (As := [.int x3, .int (2 : Int32)]) (rest := []) (st1 := [.int r8]) (cells1 := 0) (slots1 := 0) K (mX9_isOneOf l e9) dX9_cost_20 ceX9_isOneOf q_431 q_426 q_75 q_427 ⟨Nat.le_of_ble_eq_true rfl, Nat.le_of_ble_eq_true rfl⟩ (Nat.le_of_ble_eq_true rfl) ⟨Nat.le_of_ble_eq_true rfl, Nat.le_of_ble_eq_true rfl⟩ ?_ rfl rfl rfl rfl
      refine r_if_ne (tgt := 30) K dX9_cost_23 (by decide) (fun c29 => ?_) (fun c29 => ?_)
      · replace hf := ite_f hf c29
        refine r_iload_n K 3 dX9_cost_30 rfl ?_
        refine r_if_ne (tgt := 50) K dX9_cost_31 (by decide) (fun c28 => ?_) (fun c28 => ?_)
        · replace hf := ite_f hf c28
          refine r_aload_n K 0 dX9_cost_50 rfl ?_
          obtain ⟨b10, e11, hf⟩ := ob1_s hf
          refine r_getR (ci := 9) (k := 0) K dX9_cost_51 inX9 rfl (by decide) rfl q_357 e11 ?_
          obtain ⟨b12, e13, hf⟩ := ob1_s hf
          refine r_getR (ci := 1) (k := 2) K dX9_cost_54 inX1 rfl (by decide) rfl q_161 e13 ?_
          refine r_iload_n K 1 dX9_cost_57 rfl ?_
          obtain ⟨b14, e15, hf⟩ := ob1_s hf
          refine r_aaload (kd := 4) (ty := .object RX3) K dX9_cost_58 rfl rfl e15 ?_
          refine r_iload_n K 2 dX9_cost_59 rfl ?_
          obtain ⟨z16, hf⟩ := gd_s hf
          obtain ⟨r17, e18, hf⟩ := ob1_s hf
          refine r_callV (As := [.int x2]) (rest := []) (st1 := [.long r17]) (cells1 := 0) (slots1 := 0) (b := b14) (ci := 3) K (fun z => mX3_lossAt l z e18) dX9_cost_60 rfl (fun _ => isO_of z16) rfl ceX3_lossAt q_479 q_480 q_481 q_77 q_482 ⟨Nat.le_of_ble_eq_true rfl, Nat.le_of_ble_eq_true rfl⟩ (Nat.le_of_ble_eq_true rfl) ⟨Nat.le_of_ble_eq_true rfl, Nat.le_of_ble_eq_true rfl⟩ ?_ rfl rfl rfl rfl
          exact r_lret K dX9_cost_63 (retp hf) (Nat.le_of_ble_eq_true rfl) (Nat.le_of_ble_eq_true rfl)
        · replace hf := ite_t hf c28
          refine r_aload_n K 0 dX9_cost_34 rfl ?_
          obtain ⟨b19, e20, hf⟩ := ob1_s hf
          refine r_getR (ci := 9) (k := 0) K dX9_cost_35 inX9 rfl (by decide) rfl q_357 e20 ?_
          obtain ⟨b21, e22, hf⟩ := ob1_s hf
          refine r_getR (ci := 1) (k := 2) K dX9_cost_38 inX1 rfl (by decide) rfl q_161 e22 ?_
          refine r_iload_n K 1 dX9_cost_41 rfl ?_
          obtain ⟨b23, e24, hf⟩ := ob1_s hf
          refine r_aaload (kd := 4) (ty := .object RX3) K dX9_cost_42 rfl rfl e24 ?_
          refine r_iload_n K 2 dX9_cost_43 rfl ?_
          obtain ⟨z25, hf⟩ := gd_s hf
          obtain ⟨r26, e27, hf⟩ := ob1_s hf
          refine r_callV (As := [.int x2]) (rest := []) (st1 := [.long r26]) (cells1 := 0) (slots1 := 0) (b := b23) (ci := 3) K (fun z => mX3_costAt l z e27) dX9_cost_44 rfl (fun _ => isO_of z25) rfl ceX3_costAt q_475 q_476 q_477 q_77 q_478 ⟨Nat.le_of_ble_eq_true rfl, Nat.le_of_ble_eq_true rfl⟩ (Nat.le_of_ble_eq_true rfl) ⟨Nat.le_of_ble_eq_true rfl, Nat.le_of_ble_eq_true rfl⟩ ?_ rfl rfl rfl rfl
          refine r_goto (tgt := 63) K dX9_cost_47 (by decide) ?_
          exact r_lret K dX9_cost_63 (retp hf) (Nat.le_of_ble_eq_true rfl) (Nat.le_of_ble_eq_true rfl)
      · replace hf := ite_t hf c29
        refine r_ldc2 K dX9_cost_26 q_467 ?_
        exact r_lret K dX9_cost_29 (retp hf) (Nat.le_of_ble_eq_true rfl) (Nat.le_of_ble_eq_true rfl)
theorem ceX9_drivers : CE yX9_drivers 3 := ⟨by decide, by decide, by decide +kernel⟩
abbrev rmX9_drivers : Room := { frames := 1, cells := 0, slots := 0, locals := 21 }
def fX9_drivers (a0 : Nat) (x1 : Int32) (x2 : Int32) (x3 : Int32) (h : AH) : Option (Int32 × AH) :=
  ob1 (fX9_isOneOf x1 (3 : Int32)) fun r1 =>
  if r1 = (0 : Int32) then
    some ((-1 : Int32), h)
  else
    ob1 (fX9_isOneOf x2 (4 : Int32)) fun r3 =>
    if r3 = (0 : Int32) then
      some ((-1 : Int32), h)
    else
      ob1 (tTL x2) fun v5 =>
      if x3 < v5 then
        some ((-2 : Int32), h)
      else
        ob1 (tTM x2) fun v7 =>
        if x3 ≤ v7 then
          ob1 (gR h a0 9 0) fun b9 =>
          ob1 (gR h b9 1 4) fun b11 =>
          ob1 (aR h b11 3 x1) fun b13 =>
          ob1 (aI h b13 0 x2) fun v15 =>
          ob1 (gR h a0 9 0) fun b17 =>
          ob1 (gR h b17 1 4) fun b19 =>
          ob1 (aR h b19 3 x1) fun b21 =>
          ob1 (sI h b21 x2 x3) fun g23 =>
          ob1 (fX9_changed a0 g23) fun g25 =>
          some (v15, g25)
        else
          some ((-2 : Int32), h)
set_option maxHeartbeats 4000000 in
set_option maxRecDepth 100000 in
theorem mX9_drivers (l : Launch) {G : GG} {b0 : Nat} {h : AH} {a0 : Nat} {x1 : Int32} {x2 : Int32} {x3 : Int32} {rr : Int32} {hh : AH} (ht : isO h a0 9) (hf : fX9_drivers a0 x1 x2 x3 h = some (rr, hh)) : MM l yX9_drivers cX9_drivers 5 (some .int) rmX9_drivers G b0 h [.ref a0, .int x1, .int x2, .int x3] (some (.int rr)) hh := by
  refine MM.of (own := RX9) (lv0 := [(0, .ref a0), (1, .int x1), (2, .int x2), (3, .int x3)]) (by decide) rfl (Nat.le_of_ble_eq_true rfl) rfl ?_
  intro p e s m args below meth c K hnm
  unfold fX9_drivers at hf
  refine r_iload_n K 1 dX9_drivers_0 rfl ?_
  refine r_iconst (v := (3 : Int32)) K dX9_drivers_1 (by decide) ?_
  obtain ⟨r1, e2, hf⟩ := ob1_s hf
  refine r_callS (As := [.int x1, .int (3 : Int32)]) (rest := []) (st1 := [.int r1]) (cells1 := 0) (slots1 := 0) K (mX9_isOneOf l e2) dX9_drivers_2 ceX9_isOneOf q_431 q_426 q_75 q_427 ⟨Nat.le_of_ble_eq_true rfl, Nat.le_of_ble_eq_true rfl⟩ (Nat.le_of_ble_eq_true rfl) ⟨Nat.le_of_ble_eq_true rfl, Nat.le_of_ble_eq_true rfl⟩ ?_ rfl rfl rfl rfl
  refine r_if_eq (tgt := 16) K dX9_drivers_5 (by decide) (fun c30 => ?_) (fun c30 => ?_)
  · replace hf := ite_t hf c30
    refine r_iconst (v := (-1 : Int32)) K dX9_drivers_16 (by decide) ?_
    exact r_iret K dX9_drivers_17 hf (Nat.le_of_ble_eq_true rfl) (Nat.le_of_ble_eq_true rfl)
  · replace hf := ite_f hf c30
    refine r_iload_n K 2 dX9_drivers_8 rfl ?_
    refine r_iconst (v := (4 : Int32)) K dX9_drivers_9 (by decide) ?_
    obtain ⟨r3, e4, hf⟩ := ob1_s hf
    refine r_callS (As := [.int x2, .int (4 : Int32)]) (rest := []) (st1 := [.int r3]) (cells1 := 0) (slots1 := 0) K (mX9_isOneOf l e4) dX9_drivers_10 ceX9_isOneOf q_431 q_426 q_75 q_427 ⟨Nat.le_of_ble_eq_true rfl, Nat.le_of_ble_eq_true rfl⟩ (Nat.le_of_ble_eq_true rfl) ⟨Nat.le_of_ble_eq_true rfl, Nat.le_of_ble_eq_true rfl⟩ ?_ rfl rfl rfl rfl
    refine r_if_ne (tgt := 18) K dX9_drivers_13 (by decide) (fun c29 => ?_) (fun c29 => ?_)
    · replace hf := ite_f hf c29
      refine r_iload_n K 3 dX9_drivers_18 rfl ?_
      refine r_statL K dX9_drivers_19 q_487 ?_
      refine r_iload_n K 2 dX9_drivers_22 rfl ?_
      obtain ⟨v5, e6, hf⟩ := ob1_s hf
      refine r_traitL K dX9_drivers_23 e6 ?_
      refine r_icmp_lt (tgt := 36) K dX9_drivers_24 (by decide) (fun c28 => ?_) (fun c28 => ?_)
      · replace hf := ite_t hf c28
        refine r_bipush (v := (-2 : Int32)) K dX9_drivers_36 (by decide) ?_
        exact r_iret K dX9_drivers_38 hf (Nat.le_of_ble_eq_true rfl) (Nat.le_of_ble_eq_true rfl)
      · replace hf := ite_f hf c28
        refine r_iload_n K 3 dX9_drivers_27 rfl ?_
        refine r_statM K dX9_drivers_28 q_489 ?_
        refine r_iload_n K 2 dX9_drivers_31 rfl ?_
        obtain ⟨v7, e8, hf⟩ := ob1_s hf
        refine r_traitM K dX9_drivers_32 e8 ?_
        refine r_icmp_le (tgt := 39) K dX9_drivers_33 (by decide) (fun c27 => ?_) (fun c27 => ?_)
        · replace hf := ite_t hf c27
          refine r_aload_n K 0 dX9_drivers_39 rfl ?_
          obtain ⟨b9, e10, hf⟩ := ob1_s hf
          refine r_getR (ci := 9) (k := 0) K dX9_drivers_40 inX9 rfl (by decide) rfl q_357 e10 ?_
          obtain ⟨b11, e12, hf⟩ := ob1_s hf
          refine r_getR (ci := 1) (k := 4) K dX9_drivers_43 inX1 rfl (by decide) rfl q_167 e12 ?_
          refine r_iload_n K 1 dX9_drivers_46 rfl ?_
          obtain ⟨b13, e14, hf⟩ := ob1_s hf
          refine r_aaload (kd := 3) (ty := .array .int) K dX9_drivers_47 rfl rfl e14 ?_
          refine r_iload_n K 2 dX9_drivers_48 rfl ?_
          obtain ⟨v15, e16, hf⟩ := ob1_s hf
          refine r_iaload K dX9_drivers_49 e16 ?_
          refine r_istore (lv1 := [(4, .int v15), (0, .ref a0), (1, .int x1), (2, .int x2), (3, .int x3)]) K dX9_drivers_50 (by decide) rfl ?_
          refine r_aload_n K 1 dX9_drivers_52 rfl ?_
          obtain ⟨b17, e18, hf⟩ := ob1_s hf
          refine r_getR (ci := 9) (k := 0) K dX9_drivers_53 inX9 rfl (by decide) rfl q_357 e18 ?_
          obtain ⟨b19, e20, hf⟩ := ob1_s hf
          refine r_getR (ci := 1) (k := 4) K dX9_drivers_56 inX1 rfl (by decide) rfl q_167 e20 ?_
          refine r_iload_n K 2 dX9_drivers_59 rfl ?_
          obtain ⟨b21, e22, hf⟩ := ob1_s hf
          refine r_aaload (kd := 3) (ty := .array .int) K dX9_drivers_60 rfl rfl e22 ?_
          refine r_iload_n K 3 dX9_drivers_61 rfl ?_
          refine r_iload_n K 4 dX9_drivers_62 rfl ?_
          obtain ⟨g23, e24, hf⟩ := ob1_s hf
          refine r_iastore K dX9_drivers_63 e24 ?_
          refine r_aload_n K 1 dX9_drivers_64 rfl ?_
          obtain ⟨g25, e26, hf⟩ := ob1_s hf
          refine r_callV (As := []) (rest := []) (st1 := []) (cells1 := 0) (slots1 := 0) (b := a0) (ci := 9) K (fun z => mX9_changed l z e26) dX9_drivers_65 rfl (fun z => z _ _ ht) rfl ceX9_changed q_413 q_415 q_0 q_75 q_416 ⟨Nat.le_of_ble_eq_true rfl, Nat.le_of_ble_eq_true rfl⟩ (Nat.le_of_ble_eq_true rfl) ⟨Nat.le_of_ble_eq_true rfl, Nat.le_of_ble_eq_true rfl⟩ ?_ rfl rfl rfl rfl
          refine r_iload K 0 dX9_drivers_68 rfl ?_
          exact r_iret K dX9_drivers_70 hf (Nat.le_of_ble_eq_true rfl) (Nat.le_of_ble_eq_true rfl)
        · replace hf := ite_f hf c27
          refine r_bipush (v := (-2 : Int32)) K dX9_drivers_36 (by decide) ?_
          exact r_iret K dX9_drivers_38 hf (Nat.le_of_ble_eq_true rfl) (Nat.le_of_ble_eq_true rfl)
    · replace hf := ite_t hf c29
      refine r_iconst (v := (-1 : Int32)) K dX9_drivers_16 (by decide) ?_
      exact r_iret K dX9_drivers_17 hf (Nat.le_of_ble_eq_true rfl) (Nat.le_of_ble_eq_true rfl)
theorem ceX9_driversOf : CE yX9_driversOf 2 := ⟨by decide, by decide, by decide +kernel⟩
abbrev rmX9_driversOf : Room := { frames := 1, cells := 0, slots := 0, locals := 21 }
def fX9_driversOf (a0 : Nat) (x1 : Int32) (x2 : Int32) (h : AH) : Option Int32 :=
  ob1 (fX9_isOneOf x1 (3 : Int32)) fun r1 =>
  if r1 = (0 : Int32) then
    some (-1 : Int32)
  else
    ob1 (fX9_isOneOf x2 (4 : Int32)) fun r3 =>
    if r3 = (0 : Int32) then
      some (-1 : Int32)
    else
      ob1 (gR h a0 9 0) fun b5 =>
      ob1 (gR h b5 1 4) fun b7 =>
      ob1 (aR h b7 3 x1) fun b9 =>
      ob1 (aI h b9 0 x2) fun v11 =>
      some v11
set_option maxHeartbeats 4000000 in
set_option maxRecDepth 100000 in
theorem mX9_driversOf (l : Launch) {G : GG} {b0 : Nat} {h : AH} {a0 : Nat} {x1 : Int32} {x2 : Int32} {rr : Int32} (ht : isO h a0 9) (hf : fX9_driversOf a0 x1 x2 h = some rr) : MM l yX9_driversOf cX9_driversOf 3 (some .int) rmX9_driversOf G b0 h [.ref a0, .int x1, .int x2] (some (.int rr)) h := by
  refine MM.of (own := RX9) (lv0 := [(0, .ref a0), (1, .int x1), (2, .int x2)]) (by decide) rfl (Nat.le_of_ble_eq_true rfl) rfl ?_
  intro p e s m args below meth c K hnm
  unfold fX9_driversOf at hf
  refine r_iload_n K 1 dX9_driversOf_0 rfl ?_
  refine r_iconst (v := (3 : Int32)) K dX9_driversOf_1 (by decide) ?_
  obtain ⟨r1, e2, hf⟩ := ob1_s hf
  refine r_callS (As := [.int x1, .int (3 : Int32)]) (rest := []) (st1 := [.int r1]) (cells1 := 0) (slots1 := 0) K (mX9_isOneOf l e2) dX9_driversOf_2 ceX9_isOneOf q_431 q_426 q_75 q_427 ⟨Nat.le_of_ble_eq_true rfl, Nat.le_of_ble_eq_true rfl⟩ (Nat.le_of_ble_eq_true rfl) ⟨Nat.le_of_ble_eq_true rfl, Nat.le_of_ble_eq_true rfl⟩ ?_ rfl rfl rfl rfl
  refine r_if_eq (tgt := 16) K dX9_driversOf_5 (by decide) (fun c14 => ?_) (fun c14 => ?_)
  · replace hf := ite_t hf c14
    refine r_iconst (v := (-1 : Int32)) K dX9_driversOf_16 (by decide) ?_
    exact r_iret K dX9_driversOf_17 (retp hf) (Nat.le_of_ble_eq_true rfl) (Nat.le_of_ble_eq_true rfl)
  · replace hf := ite_f hf c14
    refine r_iload_n K 2 dX9_driversOf_8 rfl ?_
    refine r_iconst (v := (4 : Int32)) K dX9_driversOf_9 (by decide) ?_
    obtain ⟨r3, e4, hf⟩ := ob1_s hf
    refine r_callS (As := [.int x2, .int (4 : Int32)]) (rest := []) (st1 := [.int r3]) (cells1 := 0) (slots1 := 0) K (mX9_isOneOf l e4) dX9_driversOf_10 ceX9_isOneOf q_431 q_426 q_75 q_427 ⟨Nat.le_of_ble_eq_true rfl, Nat.le_of_ble_eq_true rfl⟩ (Nat.le_of_ble_eq_true rfl) ⟨Nat.le_of_ble_eq_true rfl, Nat.le_of_ble_eq_true rfl⟩ ?_ rfl rfl rfl rfl
    refine r_if_ne (tgt := 18) K dX9_driversOf_13 (by decide) (fun c13 => ?_) (fun c13 => ?_)
    · replace hf := ite_f hf c13
      refine r_aload_n K 0 dX9_driversOf_18 rfl ?_
      obtain ⟨b5, e6, hf⟩ := ob1_s hf
      refine r_getR (ci := 9) (k := 0) K dX9_driversOf_19 inX9 rfl (by decide) rfl q_357 e6 ?_
      obtain ⟨b7, e8, hf⟩ := ob1_s hf
      refine r_getR (ci := 1) (k := 4) K dX9_driversOf_22 inX1 rfl (by decide) rfl q_167 e8 ?_
      refine r_iload_n K 1 dX9_driversOf_25 rfl ?_
      obtain ⟨b9, e10, hf⟩ := ob1_s hf
      refine r_aaload (kd := 3) (ty := .array .int) K dX9_driversOf_26 rfl rfl e10 ?_
      refine r_iload_n K 2 dX9_driversOf_27 rfl ?_
      obtain ⟨v11, e12, hf⟩ := ob1_s hf
      refine r_iaload K dX9_driversOf_28 e12 ?_
      exact r_iret K dX9_driversOf_29 (retp hf) (Nat.le_of_ble_eq_true rfl) (Nat.le_of_ble_eq_true rfl)
    · replace hf := ite_t hf c13
      refine r_iconst (v := (-1 : Int32)) K dX9_driversOf_16 (by decide) ?_
      exact r_iret K dX9_driversOf_17 (retp hf) (Nat.le_of_ble_eq_true rfl) (Nat.le_of_ble_eq_true rfl)
theorem ceX9_feed : CE yX9_feed 1 := ⟨by decide, by decide, by decide +kernel⟩
abbrev rmX9_feed : Room := { frames := 1, cells := 0, slots := 0, locals := 21 }
def fX9_feed (a0 : Nat) (x1 : Int32) (h : AH) : Option (Int32 × AH) :=
  if x1 < (1 : Int32) then
    some ((-2 : Int32), h)
  else
    if x1 ≤ (127 : Int32) then
      ob1 (gR h a0 9 12) fun b1 =>
      gd (ckO h b1 7) <|
      ob2 (fX7_push b1 x1 h) fun r4 g5 =>
      if r4 = (0 : Int32) then
        some ((-4 : Int32), g5)
      else
        ob1 (gR g5 a0 9 12) fun b7 =>
        ob1 (gI g5 b7 7 0) fun v9 =>
        some (v9, g5)
    else
      some ((-2 : Int32), h)
set_option maxHeartbeats 4000000 in
set_option maxRecDepth 100000 in
theorem mX9_feed (l : Launch) {G : GG} {b0 : Nat} {h : AH} {a0 : Nat} {x1 : Int32} {rr : Int32} {hh : AH} (ht : isO h a0 9) (hf : fX9_feed a0 x1 h = some (rr, hh)) : MM l yX9_feed cX9_feed 2 (some .int) rmX9_feed G b0 h [.ref a0, .int x1] (some (.int rr)) hh := by
  refine MM.of (own := RX9) (lv0 := [(0, .ref a0), (1, .int x1)]) (by decide) rfl (Nat.le_of_ble_eq_true rfl) rfl ?_
  intro p e s m args below meth c K hnm
  unfold fX9_feed at hf
  refine r_iload_n K 1 dX9_feed_0 rfl ?_
  refine r_iconst (v := (1 : Int32)) K dX9_feed_1 (by decide) ?_
  refine r_icmp_lt (tgt := 11) K dX9_feed_2 (by decide) (fun c13 => ?_) (fun c13 => ?_)
  · replace hf := ite_t hf c13
    refine r_bipush (v := (-2 : Int32)) K dX9_feed_11 (by decide) ?_
    exact r_iret K dX9_feed_13 hf (Nat.le_of_ble_eq_true rfl) (Nat.le_of_ble_eq_true rfl)
  · replace hf := ite_f hf c13
    refine r_iload_n K 1 dX9_feed_5 rfl ?_
    refine r_bipush (v := (127 : Int32)) K dX9_feed_6 (by decide) ?_
    refine r_icmp_le (tgt := 14) K dX9_feed_8 (by decide) (fun c12 => ?_) (fun c12 => ?_)
    · replace hf := ite_t hf c12
      refine r_aload_n K 0 dX9_feed_14 rfl ?_
      obtain ⟨b1, e2, hf⟩ := ob1_s hf
      refine r_getR (ci := 9) (k := 12) K dX9_feed_15 inX9 rfl (by decide) rfl q_369 e2 ?_
      refine r_iload_n K 1 dX9_feed_18 rfl ?_
      obtain ⟨z3, hf⟩ := gd_s hf
      obtain ⟨r4, g5, e6, hf⟩ := ob2_s hf
      refine r_callV (As := [.int x1]) (rest := []) (st1 := [.int r4]) (cells1 := 0) (slots1 := 0) (b := b1) (ci := 7) K (fun z => mX7_push l z e6) dX9_feed_19 rfl (fun _ => isO_of z3) rfl ceX7_push q_499 q_500 q_501 q_82 q_502 ⟨Nat.le_of_ble_eq_true rfl, Nat.le_of_ble_eq_true rfl⟩ (Nat.le_of_ble_eq_true rfl) ⟨Nat.le_of_ble_eq_true rfl, Nat.le_of_ble_eq_true rfl⟩ ?_ rfl rfl rfl rfl
      refine r_if_eq (tgt := 35) K dX9_feed_22 (by decide) (fun c11 => ?_) (fun c11 => ?_)
      · replace hf := ite_t hf c11
        refine r_bipush (v := (-4 : Int32)) K dX9_feed_35 (by decide) ?_
        exact r_iret K dX9_feed_37 hf (Nat.le_of_ble_eq_true rfl) (Nat.le_of_ble_eq_true rfl)
      · replace hf := ite_f hf c11
        refine r_aload_n K 0 dX9_feed_25 rfl ?_
        obtain ⟨b7, e8, hf⟩ := ob1_s hf
        refine r_getR (ci := 9) (k := 12) K dX9_feed_26 inX9 rfl (by decide) rfl q_369 e8 ?_
        obtain ⟨v9, e10, hf⟩ := ob1_s hf
        refine r_getI (ci := 7) (k := 0) K dX9_feed_29 inX7 rfl (by decide) rfl q_305 e10 ?_
        refine r_goto (tgt := 37) K dX9_feed_32 (by decide) ?_
        exact r_iret K dX9_feed_37 hf (Nat.le_of_ble_eq_true rfl) (Nat.le_of_ble_eq_true rfl)
    · replace hf := ite_f hf c12
      refine r_bipush (v := (-2 : Int32)) K dX9_feed_11 (by decide) ?_
      exact r_iret K dX9_feed_13 hf (Nat.le_of_ble_eq_true rfl) (Nat.le_of_ble_eq_true rfl)
theorem ceX9_clear : CE yX9_clear 0 := ⟨by decide, by decide, by decide +kernel⟩
abbrev rmX9_clear : Room := { frames := 0, cells := 0, slots := 0, locals := 0 }
def fX9_clear (a0 : Nat) (h : AH) : Option (Int32 × AH) :=
  ob1 (gR h a0 9 12) fun b1 =>
  ob1 (gI h b1 7 0) fun v3 =>
  ob1 (gR h a0 9 12) fun b5 =>
  ob1 (pV h b5 7 0 (.int (0 : Int32))) fun g7 =>
  some (v3, g7)
set_option maxHeartbeats 4000000 in
set_option maxRecDepth 100000 in
theorem mX9_clear (l : Launch) {G : GG} {b0 : Nat} {h : AH} {a0 : Nat} {rr : Int32} {hh : AH} (ht : isO h a0 9) (hf : fX9_clear a0 h = some (rr, hh)) : MM l yX9_clear cX9_clear 2 (some .int) rmX9_clear G b0 h [.ref a0] (some (.int rr)) hh := by
  refine MM.of (own := RX9) (lv0 := [(0, .ref a0)]) (by decide) rfl (Nat.le_of_ble_eq_true rfl) rfl ?_
  intro p e s m args below meth c K hnm
  unfold fX9_clear at hf
  refine r_aload_n K 0 dX9_clear_0 rfl ?_
  obtain ⟨b1, e2, hf⟩ := ob1_s hf
  refine r_getR (ci := 9) (k := 12) K dX9_clear_1 inX9 rfl (by decide) rfl q_369 e2 ?_
  obtain ⟨v3, e4, hf⟩ := ob1_s hf
  refine r_getI (ci := 7) (k := 0) K dX9_clear_4 inX7 rfl (by decide) rfl q_305 e4 ?_
  refine r_istore_n (lv1 := [(1, .int v3), (0, .ref a0)]) K dX9_clear_7 (by decide) rfl ?_
  refine r_aload_n K 1 dX9_clear_8 rfl ?_
  obtain ⟨b5, e6, hf⟩ := ob1_s hf
  refine r_getR (ci := 9) (k := 12) K dX9_clear_9 inX9 rfl (by decide) rfl q_369 e6 ?_
  refine r_iconst (v := (0 : Int32)) K dX9_clear_12 (by decide) ?_
  obtain ⟨g7, e8, hf⟩ := ob1_s hf
  refine r_putV (ci := 7) (k := 0) (ty0 := tyX7) (ty := tyX7 0) K dX9_clear_13 inX7 rfl (by decide) rfl q_305 tyX7_ok nmX7 rfl rfl rfl rfl e8 ?_
  refine r_iload_n K 0 dX9_clear_16 rfl ?_
  exact r_iret K dX9_clear_17 hf (Nat.le_of_ble_eq_true rfl) (Nat.le_of_ble_eq_true rfl)
theorem ceX9_roads : CE yX9_roads 0 := ⟨by decide, by decide, by decide +kernel⟩
abbrev rmX9_roads : Room := { frames := 6, cells := 14, slots := 98, locals := 140 }
def fX9_roads (a0 : Nat) (h : AH) : Option (Int32 × AH) :=
  ob1 (gR h a0 9 9) fun b1 =>
  ob1 (gR h a0 9 0) fun b3 =>
  gd (ckO h b1 1) <|
  ob1 (fX1_copyFrom b1 b3 h) fun g6 =>
  ob1 (gR g6 a0 9 12) fun b8 =>
  ob1 (gR g6 a0 9 9) fun b10 =>
  gd (ckO g6 b8 7) <|
  ob2 (fX7_readInto b8 b10 g6) fun r13 g14 =>
  ob1 (gR g14 a0 9 12) fun b16 =>
  ob1 (pV g14 b16 7 0 (.int (0 : Int32))) fun g18 =>
  if r13 < (0 : Int32) then
    some (r13, g18)
  else
    ob1 (gR g18 a0 9 0) fun b20 =>
    ob1 (gR g18 a0 9 9) fun b22 =>
    gd (ckO g18 b20 1) <|
    ob1 (fX1_copyFrom b20 b22 g18) fun g25 =>
    ob1 (fX9_changed a0 g25) fun g27 =>
    some (r13, g27)
set_option maxHeartbeats 4000000 in
set_option maxRecDepth 100000 in
theorem mX9_roads (l : Launch) {G : GG} {b0 : Nat} {h : AH} {a0 : Nat} {rr : Int32} {hh : AH} (ht : isO h a0 9) (hf : fX9_roads a0 h = some (rr, hh)) : MM l yX9_roads cX9_roads 2 (some .int) rmX9_roads G b0 h [.ref a0] (some (.int rr)) hh := by
  refine MM.of (own := RX9) (lv0 := [(0, .ref a0)]) (by decide) rfl (Nat.le_of_ble_eq_true rfl) rfl ?_
  intro p e s m args below meth c K hnm
  unfold fX9_roads at hf
  refine r_aload_n K 0 dX9_roads_0 rfl ?_
  obtain ⟨b1, e2, hf⟩ := ob1_s hf
  refine r_getR (ci := 9) (k := 9) K dX9_roads_1 inX9 rfl (by decide) rfl q_366 e2 ?_
  refine r_aload_n K 0 dX9_roads_4 rfl ?_
  obtain ⟨b3, e4, hf⟩ := ob1_s hf
  refine r_getR (ci := 9) (k := 0) K dX9_roads_5 inX9 rfl (by decide) rfl q_357 e4 ?_
  obtain ⟨z5, hf⟩ := gd_s hf
  obtain ⟨g6, e7, hf⟩ := ob1_s hf
  refine r_callV (As := [.ref b3]) (rest := []) (st1 := []) (cells1 := 0) (slots1 := 0) (b := b1) (ci := 1) K (fun z => mX1_copyFrom l z e7) dX9_roads_8 rfl (fun _ => isO_of z5) rfl ceX1_copyFrom q_511 q_512 q_513 q_76 q_514 ⟨Nat.le_of_ble_eq_true rfl, Nat.le_of_ble_eq_true rfl⟩ (Nat.le_of_ble_eq_true rfl) ⟨Nat.le_of_ble_eq_true rfl, Nat.le_of_ble_eq_true rfl⟩ ?_ rfl rfl rfl rfl
  refine r_aload_n K 0 dX9_roads_11 rfl ?_
  obtain ⟨b8, e9, hf⟩ := ob1_s hf
  refine r_getR (ci := 9) (k := 12) K dX9_roads_12 inX9 rfl (by decide) rfl q_369 e9 ?_
  refine r_aload_n K 0 dX9_roads_15 rfl ?_
  obtain ⟨b10, e11, hf⟩ := ob1_s hf
  refine r_getR (ci := 9) (k := 9) K dX9_roads_16 inX9 rfl (by decide) rfl q_366 e11 ?_
  obtain ⟨z12, hf⟩ := gd_s hf
  obtain ⟨r13, g14, e15, hf⟩ := ob2_s hf
  refine r_callV (As := [.ref b10]) (rest := []) (st1 := [.int r13]) (cells1 := 14) (slots1 := 98) (b := b8) (ci := 7) K (fun z => mX7_readInto l z e15) dX9_roads_19 rfl (fun _ => isO_of z12) rfl ceX7_readInto q_518 q_519 q_520 q_82 q_521 ⟨Nat.le_of_ble_eq_true rfl, Nat.le_of_ble_eq_true rfl⟩ (Nat.le_of_ble_eq_true rfl) ⟨Nat.le_of_ble_eq_true rfl, Nat.le_of_ble_eq_true rfl⟩ ?_ rfl rfl rfl rfl
  refine r_istore_n (lv1 := [(1, .int r13), (0, .ref a0)]) K dX9_roads_22 (by decide) rfl ?_
  refine r_aload_n K 1 dX9_roads_23 rfl ?_
  obtain ⟨b16, e17, hf⟩ := ob1_s hf
  refine r_getR (ci := 9) (k := 12) K dX9_roads_24 inX9 rfl (by decide) rfl q_369 e17 ?_
  refine r_iconst (v := (0 : Int32)) K dX9_roads_27 (by decide) ?_
  obtain ⟨g18, e19, hf⟩ := ob1_s hf
  refine r_putV (ci := 7) (k := 0) (ty0 := tyX7) (ty := tyX7 0) K dX9_roads_28 inX7 rfl (by decide) rfl q_305 tyX7_ok nmX7 rfl rfl rfl rfl e19 ?_
  refine r_iload_n K 0 dX9_roads_31 rfl ?_
  refine r_if_lt (tgt := 50) K dX9_roads_32 (by decide) (fun c29 => ?_) (fun c29 => ?_)
  · replace hf := ite_t hf c29
    refine r_iload_n K 0 dX9_roads_50 rfl ?_
    exact r_iret K dX9_roads_51 hf (Nat.le_of_ble_eq_true rfl) (Nat.le_of_ble_eq_true rfl)
  · replace hf := ite_f hf c29
    refine r_aload_n K 1 dX9_roads_35 rfl ?_
    obtain ⟨b20, e21, hf⟩ := ob1_s hf
    refine r_getR (ci := 9) (k := 0) K dX9_roads_36 inX9 rfl (by decide) rfl q_357 e21 ?_
    refine r_aload_n K 1 dX9_roads_39 rfl ?_
    obtain ⟨b22, e23, hf⟩ := ob1_s hf
    refine r_getR (ci := 9) (k := 9) K dX9_roads_40 inX9 rfl (by decide) rfl q_366 e23 ?_
    obtain ⟨z24, hf⟩ := gd_s hf
    obtain ⟨g25, e26, hf⟩ := ob1_s hf
    refine r_callV (As := [.ref b22]) (rest := []) (st1 := []) (cells1 := 14) (slots1 := 98) (b := b20) (ci := 1) K (fun z => mX1_copyFrom l z e26) dX9_roads_43 rfl (fun _ => isO_of z24) rfl ceX1_copyFrom q_511 q_512 q_513 q_76 q_514 ⟨Nat.le_of_ble_eq_true rfl, Nat.le_of_ble_eq_true rfl⟩ (Nat.le_of_ble_eq_true rfl) ⟨Nat.le_of_ble_eq_true rfl, Nat.le_of_ble_eq_true rfl⟩ ?_ rfl rfl rfl rfl
    refine r_aload_n K 1 dX9_roads_46 rfl ?_
    obtain ⟨g27, e28, hf⟩ := ob1_s hf
    refine r_callV (As := []) (rest := []) (st1 := []) (cells1 := 14) (slots1 := 98) (b := a0) (ci := 9) K (fun z => mX9_changed l z e28) dX9_roads_47 rfl (fun z => z _ _ ht) rfl ceX9_changed q_413 q_415 q_0 q_75 q_416 ⟨Nat.le_of_ble_eq_true rfl, Nat.le_of_ble_eq_true rfl⟩ (Nat.le_of_ble_eq_true rfl) ⟨Nat.le_of_ble_eq_true rfl, Nat.le_of_ble_eq_true rfl⟩ ?_ rfl rfl rfl rfl
    refine r_iload_n K 0 dX9_roads_50 rfl ?_
    exact r_iret K dX9_roads_51 hf (Nat.le_of_ble_eq_true rfl) (Nat.le_of_ble_eq_true rfl)
theorem ceX9_freshPaths : CE yX9_freshPaths 0 := ⟨by decide, by decide, by decide +kernel⟩
abbrev rmX9_freshPaths : Room := { frames := 2, cells := 0, slots := 0, locals := 48 }
def fX9_freshPaths (a0 : Nat) (h : AH) : Option (Nat × AH) :=
  ob1 (gI h a0 9 4) fun v1 =>
  if v1 = (0 : Int32) then
    ob1 (gR h a0 9 3) fun b5 =>
    ob1 (gR h a0 9 0) fun b7 =>
    gd (ckO h b5 2) <|
    ob1 (fX2_find b5 b7 (-1 : Int32) h) fun g10 =>
    ob1 (pV g10 a0 9 4 (.int (1 : Int32))) fun g12 =>
    ob1 (gR g12 a0 9 3) fun b14 =>
    some (b14, g12)
  else
    ob1 (gR h a0 9 3) fun b3 =>
    some (b3, h)
set_option maxHeartbeats 4000000 in
set_option maxRecDepth 100000 in
theorem mX9_freshPaths (l : Launch) {G : GG} {b0 : Nat} {h : AH} {a0 : Nat} {rr : Nat} {hh : AH} (ht : isO h a0 9) (hf : fX9_freshPaths a0 h = some (rr, hh)) : MM l yX9_freshPaths cX9_freshPaths 1 (some (.object "TollWays$Paths")) rmX9_freshPaths G b0 h [.ref a0] (some (.ref rr)) hh := by
  refine MM.of (own := RX9) (lv0 := [(0, .ref a0)]) (by decide) rfl (Nat.le_of_ble_eq_true rfl) rfl ?_
  intro p e s m args below meth c K hnm
  unfold fX9_freshPaths at hf
  refine r_aload_n K 0 dX9_freshPaths_0 rfl ?_
  obtain ⟨v1, e2, hf⟩ := ob1_s hf
  refine r_getI (ci := 9) (k := 4) K dX9_freshPaths_1 inX9 rfl (by decide) rfl q_361 e2 ?_
  refine r_if_ne (tgt := 24) K dX9_freshPaths_4 (by decide) (fun c16 => ?_) (fun c16 => ?_)
  · replace hf := ite_f hf c16
    refine r_aload_n K 0 dX9_freshPaths_24 rfl ?_
    obtain ⟨b3, e4, hf⟩ := ob1_s hf
    refine r_getR (ci := 9) (k := 3) K dX9_freshPaths_25 inX9 rfl (by decide) rfl q_360 e4 ?_
    exact r_aret K dX9_freshPaths_28 hf (Nat.le_of_ble_eq_true rfl) (Nat.le_of_ble_eq_true rfl)
  · replace hf := ite_t hf c16
    refine r_aload_n K 0 dX9_freshPaths_7 rfl ?_
    obtain ⟨b5, e6, hf⟩ := ob1_s hf
    refine r_getR (ci := 9) (k := 3) K dX9_freshPaths_8 inX9 rfl (by decide) rfl q_360 e6 ?_
    refine r_aload_n K 0 dX9_freshPaths_11 rfl ?_
    obtain ⟨b7, e8, hf⟩ := ob1_s hf
    refine r_getR (ci := 9) (k := 0) K dX9_freshPaths_12 inX9 rfl (by decide) rfl q_357 e8 ?_
    refine r_iconst (v := (-1 : Int32)) K dX9_freshPaths_15 (by decide) ?_
    obtain ⟨z9, hf⟩ := gd_s hf
    obtain ⟨g10, e11, hf⟩ := ob1_s hf
    refine r_callV (As := [.ref b7, .int (-1 : Int32)]) (rest := []) (st1 := []) (cells1 := 0) (slots1 := 0) (b := b5) (ci := 2) K (fun z => mX2_find l z e11) dX9_freshPaths_16 rfl (fun _ => isO_of z9) rfl ceX2_find q_565 q_566 q_567 q_78 q_568 ⟨Nat.le_of_ble_eq_true rfl, Nat.le_of_ble_eq_true rfl⟩ (Nat.le_of_ble_eq_true rfl) ⟨Nat.le_of_ble_eq_true rfl, Nat.le_of_ble_eq_true rfl⟩ ?_ rfl rfl rfl rfl
    refine r_aload_n K 0 dX9_freshPaths_19 rfl ?_
    refine r_iconst (v := (1 : Int32)) K dX9_freshPaths_20 (by decide) ?_
    obtain ⟨g12, e13, hf⟩ := ob1_s hf
    refine r_putV (ci := 9) (k := 4) (ty0 := tyX9) (ty := tyX9 4) K dX9_freshPaths_21 inX9 rfl (by decide) rfl q_361 tyX9_ok nmX9 rfl rfl rfl rfl e13 ?_
    refine r_aload_n K 0 dX9_freshPaths_24 rfl ?_
    obtain ⟨b14, e15, hf⟩ := ob1_s hf
    refine r_getR (ci := 9) (k := 3) K dX9_freshPaths_25 inX9 rfl (by decide) rfl q_360 e15 ?_
    exact r_aret K dX9_freshPaths_28 hf (Nat.le_of_ble_eq_true rfl) (Nat.le_of_ble_eq_true rfl)
theorem ceX9_ways : CE yX9_ways 1 := ⟨by decide, by decide, by decide +kernel⟩
abbrev rmX9_ways : Room := { frames := 3, cells := 0, slots := 0, locals := 68 }
def fX9_ways (a0 : Nat) (x1 : Int32) (h : AH) : Option (Int32 × AH) :=
  ob1 (fX9_isOneOf x1 (3 : Int32)) fun r1 =>
  if r1 = (0 : Int32) then
    some ((-1 : Int32), h)
  else
    ob2 (fX9_freshPaths a0 h) fun b3 g4 =>
    ob1 (gR g4 a0 9 0) fun b6 =>
    ob1 (gR g4 b6 1 4) fun b8 =>
    ob1 (aR g4 b8 3 x1) fun b10 =>
    ob1 (aI g4 b10 0 (0 : Int32)) fun v12 =>
    gd (ckO g4 b3 2) <|
    ob1 (fX2_countTo b3 v12 g4) fun r15 =>
    some (r15, g4)
set_option maxHeartbeats 4000000 in
set_option maxRecDepth 100000 in
theorem mX9_ways (l : Launch) {G : GG} {b0 : Nat} {h : AH} {a0 : Nat} {x1 : Int32} {rr : Int32} {hh : AH} (ht : isO h a0 9) (hf : fX9_ways a0 x1 h = some (rr, hh)) : MM l yX9_ways cX9_ways 2 (some .int) rmX9_ways G b0 h [.ref a0, .int x1] (some (.int rr)) hh := by
  refine MM.of (own := RX9) (lv0 := [(0, .ref a0), (1, .int x1)]) (by decide) rfl (Nat.le_of_ble_eq_true rfl) rfl ?_
  intro p e s m args below meth c K hnm
  unfold fX9_ways at hf
  refine r_iload_n K 1 dX9_ways_0 rfl ?_
  refine r_iconst (v := (3 : Int32)) K dX9_ways_1 (by decide) ?_
  obtain ⟨r1, e2, hf⟩ := ob1_s hf
  refine r_callS (As := [.int x1, .int (3 : Int32)]) (rest := []) (st1 := [.int r1]) (cells1 := 0) (slots1 := 0) K (mX9_isOneOf l e2) dX9_ways_2 ceX9_isOneOf q_431 q_426 q_75 q_427 ⟨Nat.le_of_ble_eq_true rfl, Nat.le_of_ble_eq_true rfl⟩ (Nat.le_of_ble_eq_true rfl) ⟨Nat.le_of_ble_eq_true rfl, Nat.le_of_ble_eq_true rfl⟩ ?_ rfl rfl rfl rfl
  refine r_if_ne (tgt := 10) K dX9_ways_5 (by decide) (fun c17 => ?_) (fun c17 => ?_)
  · replace hf := ite_f hf c17
    refine r_aload_n K 0 dX9_ways_10 rfl ?_
    obtain ⟨b3, g4, e5, hf⟩ := ob2_s hf
    refine r_callV (As := []) (rest := []) (st1 := [.ref b3]) (cells1 := 0) (slots1 := 0) (b := a0) (ci := 9) K (fun z => mX9_freshPaths l z e5) dX9_ways_11 rfl (fun z => z _ _ ht) rfl ceX9_freshPaths q_561 q_563 q_9 q_75 q_564 ⟨Nat.le_of_ble_eq_true rfl, Nat.le_of_ble_eq_true rfl⟩ (Nat.le_of_ble_eq_true rfl) ⟨Nat.le_of_ble_eq_true rfl, Nat.le_of_ble_eq_true rfl⟩ ?_ rfl rfl rfl rfl
    refine r_aload_n K 0 dX9_ways_14 rfl ?_
    obtain ⟨b6, e7, hf⟩ := ob1_s hf
    refine r_getR (ci := 9) (k := 0) K dX9_ways_15 inX9 rfl (by decide) rfl q_357 e7 ?_
    obtain ⟨b8, e9, hf⟩ := ob1_s hf
    refine r_getR (ci := 1) (k := 4) K dX9_ways_18 inX1 rfl (by decide) rfl q_167 e9 ?_
    refine r_iload_n K 1 dX9_ways_21 rfl ?_
    obtain ⟨b10, e11, hf⟩ := ob1_s hf
    refine r_aaload (kd := 3) (ty := .array .int) K dX9_ways_22 rfl rfl e11 ?_
    refine r_iconst (v := (0 : Int32)) K dX9_ways_23 (by decide) ?_
    obtain ⟨v12, e13, hf⟩ := ob1_s hf
    refine r_iaload K dX9_ways_24 e13 ?_
    obtain ⟨z14, hf⟩ := gd_s hf
    obtain ⟨r15, e16, hf⟩ := ob1_s hf
    refine r_callV (As := [.int v12]) (rest := []) (st1 := [.int r15]) (cells1 := 0) (slots1 := 0) (b := b3) (ci := 2) K (fun z => mX2_countTo l z e16) dX9_ways_25 rfl (fun _ => isO_of z14) rfl ceX2_countTo q_573 q_574 q_575 q_78 q_576 ⟨Nat.le_of_ble_eq_true rfl, Nat.le_of_ble_eq_true rfl⟩ (Nat.le_of_ble_eq_true rfl) ⟨Nat.le_of_ble_eq_true rfl, Nat.le_of_ble_eq_true rfl⟩ ?_ rfl rfl rfl rfl
    exact r_iret K dX9_ways_28 hf (Nat.le_of_ble_eq_true rfl) (Nat.le_of_ble_eq_true rfl)
  · replace hf := ite_t hf c17
    refine r_iconst (v := (-1 : Int32)) K dX9_ways_8 (by decide) ?_
    exact r_iret K dX9_ways_9 hf (Nat.le_of_ble_eq_true rfl) (Nat.le_of_ble_eq_true rfl)
theorem ceX9_rowOf : CE yX9_rowOf 2 := ⟨by decide, by decide, by decide +kernel⟩
abbrev rmX9_rowOf : Room := { frames := 3, cells := 0, slots := 0, locals := 68 }
def fX9_rowOf (a0 : Nat) (x1 : Int32) (x2 : Int32) (h : AH) : Option (Int32 × AH) :=
  ob1 (fX9_isOneOf x1 (3 : Int32)) fun r1 =>
  if r1 = (0 : Int32) then
    some ((-1 : Int32), h)
  else
    ob2 (fX9_freshPaths a0 h) fun b3 g4 =>
    ob1 (gR g4 a0 9 0) fun b6 =>
    ob1 (gR g4 b6 1 4) fun b8 =>
    ob1 (aR g4 b8 3 x1) fun b10 =>
    ob1 (aI g4 b10 0 (0 : Int32)) fun v12 =>
    gd (ckO g4 b3 2) <|
    ob1 (fX2_rowTo b3 v12 x2 g4) fun r15 =>
    some (r15, g4)
set_option maxHeartbeats 4000000 in
set_option maxRecDepth 100000 in
theorem mX9_rowOf (l : Launch) {G : GG} {b0 : Nat} {h : AH} {a0 : Nat} {x1 : Int32} {x2 : Int32} {rr : Int32} {hh : AH} (ht : isO h a0 9) (hf : fX9_rowOf a0 x1 x2 h = some (rr, hh)) : MM l yX9_rowOf cX9_rowOf 3 (some .int) rmX9_rowOf G b0 h [.ref a0, .int x1, .int x2] (some (.int rr)) hh := by
  refine MM.of (own := RX9) (lv0 := [(0, .ref a0), (1, .int x1), (2, .int x2)]) (by decide) rfl (Nat.le_of_ble_eq_true rfl) rfl ?_
  intro p e s m args below meth c K hnm
  unfold fX9_rowOf at hf
  refine r_iload_n K 1 dX9_rowOf_0 rfl ?_
  refine r_iconst (v := (3 : Int32)) K dX9_rowOf_1 (by decide) ?_
  obtain ⟨r1, e2, hf⟩ := ob1_s hf
  refine r_callS (As := [.int x1, .int (3 : Int32)]) (rest := []) (st1 := [.int r1]) (cells1 := 0) (slots1 := 0) K (mX9_isOneOf l e2) dX9_rowOf_2 ceX9_isOneOf q_431 q_426 q_75 q_427 ⟨Nat.le_of_ble_eq_true rfl, Nat.le_of_ble_eq_true rfl⟩ (Nat.le_of_ble_eq_true rfl) ⟨Nat.le_of_ble_eq_true rfl, Nat.le_of_ble_eq_true rfl⟩ ?_ rfl rfl rfl rfl
  refine r_if_eq (tgt := 30) K dX9_rowOf_5 (by decide) (fun c17 => ?_) (fun c17 => ?_)
  · replace hf := ite_t hf c17
    refine r_iconst (v := (-1 : Int32)) K dX9_rowOf_30 (by decide) ?_
    exact r_iret K dX9_rowOf_31 hf (Nat.le_of_ble_eq_true rfl) (Nat.le_of_ble_eq_true rfl)
  · replace hf := ite_f hf c17
    refine r_aload_n K 0 dX9_rowOf_8 rfl ?_
    obtain ⟨b3, g4, e5, hf⟩ := ob2_s hf
    refine r_callV (As := []) (rest := []) (st1 := [.ref b3]) (cells1 := 0) (slots1 := 0) (b := a0) (ci := 9) K (fun z => mX9_freshPaths l z e5) dX9_rowOf_9 rfl (fun z => z _ _ ht) rfl ceX9_freshPaths q_561 q_563 q_9 q_75 q_564 ⟨Nat.le_of_ble_eq_true rfl, Nat.le_of_ble_eq_true rfl⟩ (Nat.le_of_ble_eq_true rfl) ⟨Nat.le_of_ble_eq_true rfl, Nat.le_of_ble_eq_true rfl⟩ ?_ rfl rfl rfl rfl
    refine r_aload_n K 0 dX9_rowOf_12 rfl ?_
    obtain ⟨b6, e7, hf⟩ := ob1_s hf
    refine r_getR (ci := 9) (k := 0) K dX9_rowOf_13 inX9 rfl (by decide) rfl q_357 e7 ?_
    obtain ⟨b8, e9, hf⟩ := ob1_s hf
    refine r_getR (ci := 1) (k := 4) K dX9_rowOf_16 inX1 rfl (by decide) rfl q_167 e9 ?_
    refine r_iload_n K 1 dX9_rowOf_19 rfl ?_
    obtain ⟨b10, e11, hf⟩ := ob1_s hf
    refine r_aaload (kd := 3) (ty := .array .int) K dX9_rowOf_20 rfl rfl e11 ?_
    refine r_iconst (v := (0 : Int32)) K dX9_rowOf_21 (by decide) ?_
    obtain ⟨v12, e13, hf⟩ := ob1_s hf
    refine r_iaload K dX9_rowOf_22 e13 ?_
    refine r_iload_n K 2 dX9_rowOf_23 rfl ?_
    obtain ⟨z14, hf⟩ := gd_s hf
    obtain ⟨r15, e16, hf⟩ := ob1_s hf
    refine r_callV (As := [.int v12, .int x2]) (rest := []) (st1 := [.int r15]) (cells1 := 0) (slots1 := 0) (b := b3) (ci := 2) K (fun z => mX2_rowTo l z e16) dX9_rowOf_24 rfl (fun _ => isO_of z14) rfl ceX2_rowTo q_585 q_586 q_587 q_78 q_588 ⟨Nat.le_of_ble_eq_true rfl, Nat.le_of_ble_eq_true rfl⟩ (Nat.le_of_ble_eq_true rfl) ⟨Nat.le_of_ble_eq_true rfl, Nat.le_of_ble_eq_true rfl⟩ ?_ rfl rfl rfl rfl
    refine r_goto (tgt := 31) K dX9_rowOf_27 (by decide) ?_
    exact r_iret K dX9_rowOf_31 hf (Nat.le_of_ble_eq_true rfl) (Nat.le_of_ble_eq_true rfl)
