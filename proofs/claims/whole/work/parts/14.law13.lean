def fL_c42 (L : Nat) (xs : Nat → Int32) (x3 : Int32) (a1 a2 : Nat) (k : AH → Option Int32) (h : AH) : Option Int32 :=
  gd (ckO h a1 9) <|
  ob2 (fX9_undo a1 h) fun r724 g725 =>
  gd (ckO g725 a2 10) <|
  ob2 (fX10_undo a2 g725) fun r728 g729 =>
  if r724 = r728 then
    k g729
  else
    some (0 : Int32)
set_option maxHeartbeats 4000000 in
set_option maxRecDepth 100000 in
theorem wL_c42 {p : Program} {l : Launch} {e : Env} {s : State} {m : MethodId} {args : Array Value} {below : List Frame} {meth : Method} {c : Code} {Q : State → Prop} {G : GG} {b0 : Nat} {h0 : AH} {b L : Nat} {xs : Nat → Int32} {x3 : Int32} {a1 a2 : Nat} {cb sb : Nat} (hcb : cb + 15 ≤ 600000) (hsb : sb + 105 ≤ 7302249) (K : CX p s m args meth c cL_law 4 RL ret G b0) (hX : va_X b L xs s s.heap) (hbl : b < s.heap.size) (hbA : ¬ AB b0 b) (k : AH → Option Int32) (hk : ∀ (h : AH), k h = some 1 → WA p l e room_1 s m args below meth c Q G b0 4 h0 (cb + 15) (sb + 105) h 1837 [(0, .ref b), (1, .ref a1), (2, .ref a2), (3, .int x3)] []) : ∀ (h : AH), fL_c42 L xs x3 a1 a2 k h = some 1 → WA p l e room_1 s m args below meth c Q G b0 4 h0 cb sb h 1824 [(0, .ref b), (1, .ref a1), (2, .ref a2), (3, .int x3)] [] := by
  intro h hf
  unfold fL_c42 at hf
  refine r_aload_n K 1 dL_law_1824 rfl ?_
  obtain ⟨z723, hf⟩ := gd_s hf
  obtain ⟨r724, g725, e726, hf⟩ := ob2_s hf
  refine r_callV (As := []) (rest := []) (st1 := [.int r724]) (cells1 := cb) (slots1 := sb) (b := a1) (ci := 9) K (fun z => mX9_undo l z e726) dL_law_1825 rfl (fun _ => isO_of z723) rfl ceX9_undo q_895 q_896 q_897 q_75 q_898 ⟨Nat.le_of_ble_eq_true rfl, Nat.le_of_ble_eq_true rfl⟩ (Nat.le_of_ble_eq_true rfl) ⟨by show cb ≤ 600000; omega, by show sb ≤ 7302249; omega⟩ ?_ rfl rfl rfl rfl
  refine r_aload_n K 2 dL_law_1828 rfl ?_
  obtain ⟨z727, hf⟩ := gd_s hf
  obtain ⟨r728, g729, e730, hf⟩ := ob2_s hf
  refine r_callV (As := []) (rest := [.int r724]) (st1 := [.int r728, .int r724]) (cells1 := cb) (slots1 := sb) (b := a2) (ci := 10) K (fun z => mX10_undo l z e730) dL_law_1829 rfl (fun _ => isO_of z727) rfl ceX10_undo q_1403 q_1404 q_1405 q_85 q_1406 ⟨Nat.le_of_ble_eq_true rfl, Nat.le_of_ble_eq_true rfl⟩ (Nat.le_of_ble_eq_true rfl) ⟨by show cb ≤ 600000; omega, by show sb ≤ 7302249; omega⟩ ?_ rfl rfl rfl rfl
  refine r_icmp_eq (tgt := 1837) K dL_law_1832 (by decide) (fun c731 => ?_) (fun c731 => ?_)
  · replace hf := ite_t hf c731
    refine r_wide (k1 := cb + 15) (n1 := sb + 105) (by omega) (by omega) ?_
    exact hk g729 hf
  · replace hf := ite_f hf c731
    refine r_iconst (v := (0 : Int32)) K dL_law_1835 (by decide) ?_
    exact absurd hf (by decide)
