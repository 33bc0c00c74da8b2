def fL_c14 (L : Nat) (xs : Nat → Int32) (x3 : Int32) (a1 a2 : Nat) (k : AH → Option Int32) (h : AH) : Option Int32 :=
  ob1 (sc L xs (x3 + (1 : Int32))) fun v245 =>
  ob1 (sc L xs (x3 + (2 : Int32))) fun v247 =>
  gd (ckO h a1 9) <|
  ob2 (fX9_load a1 v245 v247 h) fun r250 g251 =>
  ob1 (sc L xs (x3 + (1 : Int32))) fun v253 =>
  ob1 (sc L xs (x3 + (2 : Int32))) fun v255 =>
  gd (ckO g251 a2 10) <|
  ob2 (fX10_load a2 v253 v255 g251) fun r258 g259 =>
  if r250 = r258 then
    k g259
  else
    some (0 : Int32)
set_option maxHeartbeats 4000000 in
set_option maxRecDepth 100000 in
theorem wL_c14 {p : Program} {l : Launch} {e : Env} {s : State} {m : MethodId} {args : Array Value} {below : List Frame} {meth : Method} {c : Code} {Q : State → Prop} {G : GG} {b0 : Nat} {h0 : AH} {b L : Nat} {xs : Nat → Int32} {x3 : Int32} {a1 a2 : Nat} {cb sb : Nat} (hcb : cb + 15 ≤ 600000) (hsb : sb + 105 ≤ 7302249) (K : CX p s m args meth c cL_law 4 RL ret G b0) (hX : va_X b L xs s s.heap) (hbl : b < s.heap.size) (hbA : ¬ AB b0 b) (k : AH → Option Int32) (hk : ∀ (h : AH), k h = some 1 → WA p l e room_1 s m args below meth c Q G b0 4 h0 (cb + 15) (sb + 105) h 1837 [(0, .ref b), (1, .ref a1), (2, .ref a2), (3, .int x3)] []) : ∀ (h : AH), fL_c14 L xs x3 a1 a2 k h = some 1 → WA p l e room_1 s m args below meth c Q G b0 4 h0 cb sb h 805 [(0, .ref b), (1, .ref a1), (2, .ref a2), (3, .int x3)] [] := by
  intro h hf
  unfold fL_c14 at hf
  refine r_aload_n K 1 dL_law_805 rfl ?_
  refine r_aload_n K 0 dL_law_806 rfl ?_
  refine r_iload_n K 3 dL_law_807 rfl ?_
  refine r_iconst (v := (1 : Int32)) K dL_law_808 (by decide) ?_
  refine r_iadd K dL_law_809 ?_
  obtain ⟨v245, e246, hf⟩ := ob1_s hf
  refine r_sld K hX hbl hbA dL_law_810 e246 ?_
  refine r_aload_n K 0 dL_law_811 rfl ?_
  refine r_iload_n K 3 dL_law_812 rfl ?_
  refine r_iconst (v := (2 : Int32)) K dL_law_813 (by decide) ?_
  refine r_iadd K dL_law_814 ?_
  obtain ⟨v247, e248, hf⟩ := ob1_s hf
  refine r_sld K hX hbl hbA dL_law_815 e248 ?_
  obtain ⟨z249, hf⟩ := gd_s hf
  obtain ⟨r250, g251, e252, hf⟩ := ob2_s hf
  refine r_callV (As := [.int v245, .int v247]) (rest := []) (st1 := [.int r250]) (cells1 := cb) (slots1 := sb) (b := a1) (ci := 9) K (fun z => mX9_load l z e252) dL_law_816 rfl (fun _ => isO_of z249) rfl ceX9_load q_667 q_668 q_669 q_75 q_670 ⟨Nat.le_of_ble_eq_true rfl, Nat.le_of_ble_eq_true rfl⟩ (Nat.le_of_ble_eq_true rfl) ⟨by show cb ≤ 600000; omega, by show sb ≤ 7302249; omega⟩ ?_ rfl rfl rfl rfl
  refine r_aload_n K 2 dL_law_819 rfl ?_
  refine r_aload_n K 0 dL_law_820 rfl ?_
  refine r_iload_n K 3 dL_law_821 rfl ?_
  refine r_iconst (v := (1 : Int32)) K dL_law_822 (by decide) ?_
  refine r_iadd K dL_law_823 ?_
  obtain ⟨v253, e254, hf⟩ := ob1_s hf
  refine r_sld K hX hbl hbA dL_law_824 e254 ?_
  refine r_aload_n K 0 dL_law_825 rfl ?_
  refine r_iload_n K 3 dL_law_826 rfl ?_
  refine r_iconst (v := (2 : Int32)) K dL_law_827 (by decide) ?_
  refine r_iadd K dL_law_828 ?_
  obtain ⟨v255, e256, hf⟩ := ob1_s hf
  refine r_sld K hX hbl hbA dL_law_829 e256 ?_
  obtain ⟨z257, hf⟩ := gd_s hf
  obtain ⟨r258, g259, e260, hf⟩ := ob2_s hf
  refine r_callV (As := [.int v253, .int v255]) (rest := [.int r250]) (st1 := [.int r258, .int r250]) (cells1 := cb) (slots1 := sb) (b := a2) (ci := 10) K (fun z => mX10_load l z e260) dL_law_830 rfl (fun _ => isO_of z257) rfl ceX10_load q_1216 q_1217 q_1218 q_85 q_1219 ⟨Nat.le_of_ble_eq_true rfl, Nat.le_of_ble_eq_true rfl⟩ (Nat.le_of_ble_eq_true rfl) ⟨by show cb ≤ 600000; omega, by show sb ≤ 7302249; omega⟩ ?_ rfl rfl rfl rfl
  refine r_icmp_eq (tgt := 1837) K dL_law_833 (by decide) (fun c261 => ?_) (fun c261 => ?_)
  · replace hf := ite_t hf c261
    refine r_wide (k1 := cb + 15) (n1 := sb + 105) (by omega) (by omega) ?_
    exact hk g259 hf
  · replace hf := ite_f hf c261
    refine r_iconst (v := (0 : Int32)) K dL_law_836 (by decide) ?_
    exact absurd hf (by decide)
def fL_c15 (L : Nat) (xs : Nat → Int32) (x3 : Int32) (a1 a2 : Nat) (k : AH → Option Int32) (h : AH) : Option Int32 :=
  ob1 (sc L xs (x3 + (1 : Int32))) fun v262 =>
  ob1 (sc L xs (x3 + (2 : Int32))) fun v264 =>
  ob1 (sc L xs (x3 + (3 : Int32))) fun v266 =>
  gd (ckO h a1 9) <|
  ob2 (fX9_on a1 v262 v264 v266 h) fun r269 g270 =>
  ob1 (sc L xs (x3 + (1 : Int32))) fun v272 =>
  ob1 (sc L xs (x3 + (2 : Int32))) fun v274 =>
  ob1 (sc L xs (x3 + (3 : Int32))) fun v276 =>
  gd (ckO g270 a2 10) <|
  ob2 (fX10_on a2 v272 v274 v276 g270) fun r279 g280 =>
  if r269 = r279 then
    k g280
  else
    some (0 : Int32)
set_option maxHeartbeats 4000000 in
set_option maxRecDepth 100000 in
theorem wL_c15 {p : Program} {l : Launch} {e : Env} {s : State} {m : MethodId} {args : Array Value} {below : List Frame} {meth : Method} {c : Code} {Q : State → Prop} {G : GG} {b0 : Nat} {h0 : AH} {b L : Nat} {xs : Nat → Int32} {x3 : Int32} {a1 a2 : Nat} {cb sb : Nat} (hcb : cb + 15 ≤ 600000) (hsb : sb + 105 ≤ 7302249) (K : CX p s m args meth c cL_law 4 RL ret G b0) (hX : va_X b L xs s s.heap) (hbl : b < s.heap.size) (hbA : ¬ AB b0 b) (k : AH → Option Int32) (hk : ∀ (h : AH), k h = some 1 → WA p l e room_1 s m args below meth c Q G b0 4 h0 (cb + 15) (sb + 105) h 1837 [(0, .ref b), (1, .ref a1), (2, .ref a2), (3, .int x3)] []) : ∀ (h : AH), fL_c15 L xs x3 a1 a2 k h = some 1 → WA p l e room_1 s m args below meth c Q G b0 4 h0 cb sb h 838 [(0, .ref b), (1, .ref a1), (2, .ref a2), (3, .int x3)] [] := by
  intro h hf
  unfold fL_c15 at hf
  refine r_aload_n K 1 dL_law_838 rfl ?_
  refine r_aload_n K 0 dL_law_839 rfl ?_
  refine r_iload_n K 3 dL_law_840 rfl ?_
  refine r_iconst (v := (1 : Int32)) K dL_law_841 (by decide) ?_
  refine r_iadd K dL_law_842 ?_
  obtain ⟨v262, e263, hf⟩ := ob1_s hf
  refine r_sld K hX hbl hbA dL_law_843 e263 ?_
  refine r_aload_n K 0 dL_law_844 rfl ?_
  refine r_iload_n K 3 dL_law_845 rfl ?_
  refine r_iconst (v := (2 : Int32)) K dL_law_846 (by decide) ?_
  refine r_iadd K dL_law_847 ?_
  obtain ⟨v264, e265, hf⟩ := ob1_s hf
  refine r_sld K hX hbl hbA dL_law_848 e265 ?_
  refine r_aload_n K 0 dL_law_849 rfl ?_
  refine r_iload_n K 3 dL_law_850 rfl ?_
  refine r_iconst (v := (3 : Int32)) K dL_law_851 (by decide) ?_
  refine r_iadd K dL_law_852 ?_
  obtain ⟨v266, e267, hf⟩ := ob1_s hf
  refine r_sld K hX hbl hbA dL_law_853 e267 ?_
  obtain ⟨z268, hf⟩ := gd_s hf
  obtain ⟨r269, g270, e271, hf⟩ := ob2_s hf
  refine r_callV (As := [.int v262, .int v264, .int v266]) (rest := []) (st1 := [.int r269]) (cells1 := cb) (slots1 := sb) (b := a1) (ci := 9) K (fun z => mX9_on l z e271) dL_law_854 rfl (fun _ => isO_of z268) rfl ceX9_on q_671 q_672 q_673 q_75 q_674 ⟨Nat.le_of_ble_eq_true rfl, Nat.le_of_ble_eq_true rfl⟩ (Nat.le_of_ble_eq_true rfl) ⟨by show cb ≤ 600000; omega, by show sb ≤ 7302249; omega⟩ ?_ rfl rfl rfl rfl
  refine r_aload_n K 2 dL_law_857 rfl ?_
  refine r_aload_n K 0 dL_law_858 rfl ?_
  refine r_iload_n K 3 dL_law_859 rfl ?_
  refine r_iconst (v := (1 : Int32)) K dL_law_860 (by decide) ?_
  refine r_iadd K dL_law_861 ?_
  obtain ⟨v272, e273, hf⟩ := ob1_s hf
  refine r_sld K hX hbl hbA dL_law_862 e273 ?_
  refine r_aload_n K 0 dL_law_863 rfl ?_
  refine r_iload_n K 3 dL_law_864 rfl ?_
  refine r_iconst (v := (2 : Int32)) K dL_law_865 (by decide) ?_
  refine r_iadd K dL_law_866 ?_
  obtain ⟨v274, e275, hf⟩ := ob1_s hf
  refine r_sld K hX hbl hbA dL_law_867 e275 ?_
  refine r_aload_n K 0 dL_law_868 rfl ?_
  refine r_iload_n K 3 dL_law_869 rfl ?_
  refine r_iconst (v := (3 : Int32)) K dL_law_870 (by decide) ?_
  refine r_iadd K dL_law_871 ?_
  obtain ⟨v276, e277, hf⟩ := ob1_s hf
  refine r_sld K hX hbl hbA dL_law_872 e277 ?_
  obtain ⟨z278, hf⟩ := gd_s hf
  obtain ⟨r279, g280, e281, hf⟩ := ob2_s hf
  refine r_callV (As := [.int v272, .int v274, .int v276]) (rest := [.int r269]) (st1 := [.int r279, .int r269]) (cells1 := cb) (slots1 := sb) (b := a2) (ci := 10) K (fun z => mX10_on l z e281) dL_law_873 rfl (fun _ => isO_of z278) rfl ceX10_on q_1220 q_1221 q_1222 q_85 q_1223 ⟨Nat.le_of_ble_eq_true rfl, Nat.le_of_ble_eq_true rfl⟩ (Nat.le_of_ble_eq_true rfl) ⟨by show cb ≤ 600000; omega, by show sb ≤ 7302249; omega⟩ ?_ rfl rfl rfl rfl
  refine r_icmp_eq (tgt := 1837) K dL_law_876 (by decide) (fun c282 => ?_) (fun c282 => ?_)
  · replace hf := ite_t hf c282
    refine r_wide (k1 := cb + 15) (n1 := sb + 105) (by omega) (by omega) ?_
    exact hk g280 hf
  · replace hf := ite_f hf c282
    refine r_iconst (v := (0 : Int32)) K dL_law_879 (by decide) ?_
    exact absurd hf (by decide)
def fL_c16 (L : Nat) (xs : Nat → Int32) (x3 : Int32) (a1 a2 : Nat) (k : AH → Option Int32) (h : AH) : Option Int32 :=
  ob1 (sc L xs (x3 + (1 : Int32))) fun v283 =>
  gd (ckO h a1 9) <|
  ob2 (fX9_steps a1 v283 h) fun r286 g287 =>
  ob1 (sc L xs (x3 + (1 : Int32))) fun v289 =>
  gd (ckO g287 a2 10) <|
  ob2 (fX10_steps a2 v289 g287) fun r292 g293 =>
  if r286 = r292 then
    k g293
  else
    some (0 : Int32)
set_option maxHeartbeats 4000000 in
set_option maxRecDepth 100000 in
theorem wL_c16 {p : Program} {l : Launch} {e : Env} {s : State} {m : MethodId} {args : Array Value} {below : List Frame} {meth : Method} {c : Code} {Q : State → Prop} {G : GG} {b0 : Nat} {h0 : AH} {b L : Nat} {xs : Nat → Int32} {x3 : Int32} {a1 a2 : Nat} {cb sb : Nat} (hcb : cb + 15 ≤ 600000) (hsb : sb + 105 ≤ 7302249) (K : CX p s m args meth c cL_law 4 RL ret G b0) (hX : va_X b L xs s s.heap) (hbl : b < s.heap.size) (hbA : ¬ AB b0 b) (k : AH → Option Int32) (hk : ∀ (h : AH), k h = some 1 → WA p l e room_1 s m args below meth c Q G b0 4 h0 (cb + 15) (sb + 105) h 1837 [(0, .ref b), (1, .ref a1), (2, .ref a2), (3, .int x3)] []) : ∀ (h : AH), fL_c16 L xs x3 a1 a2 k h = some 1 → WA p l e room_1 s m args below meth c Q G b0 4 h0 cb sb h 881 [(0, .ref b), (1, .ref a1), (2, .ref a2), (3, .int x3)] [] := by
  intro h hf
  unfold fL_c16 at hf
  refine r_aload_n K 1 dL_law_881 rfl ?_
  refine r_aload_n K 0 dL_law_882 rfl ?_
  refine r_iload_n K 3 dL_law_883 rfl ?_
  refine r_iconst (v := (1 : Int32)) K dL_law_884 (by decide) ?_
  refine r_iadd K dL_law_885 ?_
  obtain ⟨v283, e284, hf⟩ := ob1_s hf
  refine r_sld K hX hbl hbA dL_law_886 e284 ?_
  obtain ⟨z285, hf⟩ := gd_s hf
  obtain ⟨r286, g287, e288, hf⟩ := ob2_s hf
  refine r_callV (As := [.int v283]) (rest := []) (st1 := [.int r286]) (cells1 := cb) (slots1 := sb) (b := a1) (ci := 9) K (fun z => mX9_steps l z e288) dL_law_887 rfl (fun _ => isO_of z285) rfl ceX9_steps q_675 q_676 q_677 q_75 q_678 ⟨Nat.le_of_ble_eq_true rfl, Nat.le_of_ble_eq_true rfl⟩ (Nat.le_of_ble_eq_true rfl) ⟨by show cb ≤ 600000; omega, by show sb ≤ 7302249; omega⟩ ?_ rfl rfl rfl rfl
  refine r_aload_n K 2 dL_law_890 rfl ?_
  refine r_aload_n K 0 dL_law_891 rfl ?_
  refine r_iload_n K 3 dL_law_892 rfl ?_
  refine r_iconst (v := (1 : Int32)) K dL_law_893 (by decide) ?_
  refine r_iadd K dL_law_894 ?_
  obtain ⟨v289, e290, hf⟩ := ob1_s hf
  refine r_sld K hX hbl hbA dL_law_895 e290 ?_
  obtain ⟨z291, hf⟩ := gd_s hf
  obtain ⟨r292, g293, e294, hf⟩ := ob2_s hf
  refine r_callV (As := [.int v289]) (rest := [.int r286]) (st1 := [.int r292, .int r286]) (cells1 := cb) (slots1 := sb) (b := a2) (ci := 10) K (fun z => mX10_steps l z e294) dL_law_896 rfl (fun _ => isO_of z291) rfl ceX10_steps q_1224 q_1225 q_1226 q_85 q_1227 ⟨Nat.le_of_ble_eq_true rfl, Nat.le_of_ble_eq_true rfl⟩ (Nat.le_of_ble_eq_true rfl) ⟨by show cb ≤ 600000; omega, by show sb ≤ 7302249; omega⟩ ?_ rfl rfl rfl rfl
  refine r_icmp_eq (tgt := 1837) K dL_law_899 (by decide) (fun c295 => ?_) (fun c295 => ?_)
  · replace hf := ite_t hf c295
    refine r_wide (k1 := cb + 15) (n1 := sb + 105) (by omega) (by omega) ?_
    exact hk g293 hf
  · replace hf := ite_f hf c295
    refine r_iconst (v := (0 : Int32)) K dL_law_902 (by decide) ?_
    exact absurd hf (by decide)
def fL_c17 (L : Nat) (xs : Nat → Int32) (x3 : Int32) (a1 a2 : Nat) (k : AH → Option Int32) (h : AH) : Option Int32 :=
  ob1 (sc L xs (x3 + (1 : Int32))) fun v296 =>
  gd (ckO h a1 9) <|
  ob2 (fX9_total a1 v296 h) fun r299 g300 =>
  ob1 (sc L xs (x3 + (1 : Int32))) fun v302 =>
  gd (ckO g300 a2 10) <|
  ob2 (fX10_total a2 v302 g300) fun r305 g306 =>
  if r299 = r305 then
    k g306
  else
    some (0 : Int32)
set_option maxHeartbeats 4000000 in
set_option maxRecDepth 100000 in
theorem wL_c17 {p : Program} {l : Launch} {e : Env} {s : State} {m : MethodId} {args : Array Value} {below : List Frame} {meth : Method} {c : Code} {Q : State → Prop} {G : GG} {b0 : Nat} {h0 : AH} {b L : Nat} {xs : Nat → Int32} {x3 : Int32} {a1 a2 : Nat} {cb sb : Nat} (hcb : cb + 15 ≤ 600000) (hsb : sb + 105 ≤ 7302249) (K : CX p s m args meth c cL_law 4 RL ret G b0) (hX : va_X b L xs s s.heap) (hbl : b < s.heap.size) (hbA : ¬ AB b0 b) (k : AH → Option Int32) (hk : ∀ (h : AH), k h = some 1 → WA p l e room_1 s m args below meth c Q G b0 4 h0 (cb + 15) (sb + 105) h 1837 [(0, .ref b), (1, .ref a1), (2, .ref a2), (3, .int x3)] []) : ∀ (h : AH), fL_c17 L xs x3 a1 a2 k h = some 1 → WA p l e room_1 s m args below meth c Q G b0 4 h0 cb sb h 904 [(0, .ref b), (1, .ref a1), (2, .ref a2), (3, .int x3)] [] := by
  intro h hf
  unfold fL_c17 at hf
  refine r_aload_n K 1 dL_law_904 rfl ?_
  refine r_aload_n K 0 dL_law_905 rfl ?_
  refine r_iload_n K 3 dL_law_906 rfl ?_
  refine r_iconst (v := (1 : Int32)) K dL_law_907 (by decide) ?_
  refine r_iadd K dL_law_908 ?_
  obtain ⟨v296, e297, hf⟩ := ob1_s hf
  refine r_sld K hX hbl hbA dL_law_909 e297 ?_
  obtain ⟨z298, hf⟩ := gd_s hf
  obtain ⟨r299, g300, e301, hf⟩ := ob2_s hf
  refine r_callV (As := [.int v296]) (rest := []) (st1 := [.long r299]) (cells1 := cb) (slots1 := sb) (b := a1) (ci := 9) K (fun z => mX9_total l z e301) dL_law_910 rfl (fun _ => isO_of z298) rfl ceX9_total q_679 q_680 q_681 q_75 q_682 ⟨Nat.le_of_ble_eq_true rfl, Nat.le_of_ble_eq_true rfl⟩ (Nat.le_of_ble_eq_true rfl) ⟨by show cb ≤ 600000; omega, by show sb ≤ 7302249; omega⟩ ?_ rfl rfl rfl rfl
  refine r_aload_n K 2 dL_law_913 rfl ?_
  refine r_aload_n K 0 dL_law_914 rfl ?_
  refine r_iload_n K 3 dL_law_915 rfl ?_
  refine r_iconst (v := (1 : Int32)) K dL_law_916 (by decide) ?_
  refine r_iadd K dL_law_917 ?_
  obtain ⟨v302, e303, hf⟩ := ob1_s hf
  refine r_sld K hX hbl hbA dL_law_918 e303 ?_
  obtain ⟨z304, hf⟩ := gd_s hf
  obtain ⟨r305, g306, e307, hf⟩ := ob2_s hf
  refine r_callV (As := [.int v302]) (rest := [.long r299]) (st1 := [.long r305, .long r299]) (cells1 := cb) (slots1 := sb) (b := a2) (ci := 10) K (fun z => mX10_total l z e307) dL_law_919 rfl (fun _ => isO_of z304) rfl ceX10_total q_1228 q_1229 q_1230 q_85 q_1231 ⟨Nat.le_of_ble_eq_true rfl, Nat.le_of_ble_eq_true rfl⟩ (Nat.le_of_ble_eq_true rfl) ⟨by show cb ≤ 600000; omega, by show sb ≤ 7302249; omega⟩ ?_ rfl rfl rfl rfl
  refine r_lif_eq (tgt := 1837) K dL_law_922 dL_law_923 (by decide) (fun c308 => ?_) (fun c308 => ?_)
  · replace hf := ite_t hf c308
    refine r_wide (k1 := cb + 15) (n1 := sb + 105) (by omega) (by omega) ?_
    exact hk g306 hf
  · replace hf := ite_f hf c308
    refine r_iconst (v := (0 : Int32)) K dL_law_926 (by decide) ?_
    exact absurd hf (by decide)
def fL_c18 (L : Nat) (xs : Nat → Int32) (x3 : Int32) (a1 a2 : Nat) (k : AH → Option Int32) (h : AH) : Option Int32 :=
  ob1 (sc L xs (x3 + (1 : Int32))) fun v309 =>
  ob1 (sc L xs (x3 + (2 : Int32))) fun v311 =>
  ob1 (sc L xs (x3 + (3 : Int32))) fun v313 =>
  ob1 (sc L xs (x3 + (4 : Int32))) fun v315 =>
  gd (ckO h a1 9) <|
  ob2 (fX9_price a1 v309 v311 v313 v315 h) fun r318 g319 =>
  ob1 (sc L xs (x3 + (1 : Int32))) fun v321 =>
  ob1 (sc L xs (x3 + (2 : Int32))) fun v323 =>
  ob1 (sc L xs (x3 + (3 : Int32))) fun v325 =>
  ob1 (sc L xs (x3 + (4 : Int32))) fun v327 =>
  gd (ckO g319 a2 10) <|
  ob2 (fX10_price a2 v321 v323 v325 v327 g319) fun r330 g331 =>
  if r318 = r330 then
    k g331
  else
    some (0 : Int32)
set_option maxHeartbeats 4000000 in
set_option maxRecDepth 100000 in
theorem wL_c18 {p : Program} {l : Launch} {e : Env} {s : State} {m : MethodId} {args : Array Value} {below : List Frame} {meth : Method} {c : Code} {Q : State → Prop} {G : GG} {b0 : Nat} {h0 : AH} {b L : Nat} {xs : Nat → Int32} {x3 : Int32} {a1 a2 : Nat} {cb sb : Nat} (hcb : cb + 15 ≤ 600000) (hsb : sb + 105 ≤ 7302249) (K : CX p s m args meth c cL_law 4 RL ret G b0) (hX : va_X b L xs s s.heap) (hbl : b < s.heap.size) (hbA : ¬ AB b0 b) (k : AH → Option Int32) (hk : ∀ (h : AH), k h = some 1 → WA p l e room_1 s m args below meth c Q G b0 4 h0 (cb + 15) (sb + 105) h 1837 [(0, .ref b), (1, .ref a1), (2, .ref a2), (3, .int x3)] []) : ∀ (h : AH), fL_c18 L xs x3 a1 a2 k h = some 1 → WA p l e room_1 s m args below meth c Q G b0 4 h0 cb sb h 928 [(0, .ref b), (1, .ref a1), (2, .ref a2), (3, .int x3)] [] := by
  intro h hf
  unfold fL_c18 at hf
  refine r_aload_n K 1 dL_law_928 rfl ?_
  refine r_aload_n K 0 dL_law_929 rfl ?_
  refine r_iload_n K 3 dL_law_930 rfl ?_
  refine r_iconst (v := (1 : Int32)) K dL_law_931 (by decide) ?_
  refine r_iadd K dL_law_932 ?_
  obtain ⟨v309, e310, hf⟩ := ob1_s hf
  refine r_sld K hX hbl hbA dL_law_933 e310 ?_
  refine r_aload_n K 0 dL_law_934 rfl ?_
  refine r_iload_n K 3 dL_law_935 rfl ?_
  refine r_iconst (v := (2 : Int32)) K dL_law_936 (by decide) ?_
  refine r_iadd K dL_law_937 ?_
  obtain ⟨v311, e312, hf⟩ := ob1_s hf
  refine r_sld K hX hbl hbA dL_law_938 e312 ?_
  refine r_aload_n K 0 dL_law_939 rfl ?_
  refine r_iload_n K 3 dL_law_940 rfl ?_
  refine r_iconst (v := (3 : Int32)) K dL_law_941 (by decide) ?_
  refine r_iadd K dL_law_942 ?_
  obtain ⟨v313, e314, hf⟩ := ob1_s hf
  refine r_sld K hX hbl hbA dL_law_943 e314 ?_
  refine r_aload_n K 0 dL_law_944 rfl ?_
  refine r_iload_n K 3 dL_law_945 rfl ?_
  refine r_iconst (v := (4 : Int32)) K dL_law_946 (by decide) ?_
  refine r_iadd K dL_law_947 ?_
  obtain ⟨v315, e316, hf⟩ := ob1_s hf
  refine r_sld K hX hbl hbA dL_law_948 e316 ?_
  obtain ⟨z317, hf⟩ := gd_s hf
  obtain ⟨r318, g319, e320, hf⟩ := ob2_s hf
  refine r_callV (As := [.int v309, .int v311, .int v313, .int v315]) (rest := []) (st1 := [.long r318]) (cells1 := cb) (slots1 := sb) (b := a1) (ci := 9) K (fun z => mX9_price l z e320) dL_law_949 rfl (fun _ => isO_of z317) rfl ceX9_price q_688 q_689 q_690 q_75 q_691 ⟨Nat.le_of_ble_eq_true rfl, Nat.le_of_ble_eq_true rfl⟩ (Nat.le_of_ble_eq_true rfl) ⟨by show cb ≤ 600000; omega, by show sb ≤ 7302249; omega⟩ ?_ rfl rfl rfl rfl
  refine r_aload_n K 2 dL_law_952 rfl ?_
  refine r_aload_n K 0 dL_law_953 rfl ?_
  refine r_iload_n K 3 dL_law_954 rfl ?_
  refine r_iconst (v := (1 : Int32)) K dL_law_955 (by decide) ?_
  refine r_iadd K dL_law_956 ?_
  obtain ⟨v321, e322, hf⟩ := ob1_s hf
  refine r_sld K hX hbl hbA dL_law_957 e322 ?_
  refine r_aload_n K 0 dL_law_958 rfl ?_
  refine r_iload_n K 3 dL_law_959 rfl ?_
  refine r_iconst (v := (2 : Int32)) K dL_law_960 (by decide) ?_
  refine r_iadd K dL_law_961 ?_
  obtain ⟨v323, e324, hf⟩ := ob1_s hf
  refine r_sld K hX hbl hbA dL_law_962 e324 ?_
  refine r_aload_n K 0 dL_law_963 rfl ?_
  refine r_iload_n K 3 dL_law_964 rfl ?_
  refine r_iconst (v := (3 : Int32)) K dL_law_965 (by decide) ?_
  refine r_iadd K dL_law_966 ?_
  obtain ⟨v325, e326, hf⟩ := ob1_s hf
  refine r_sld K hX hbl hbA dL_law_967 e326 ?_
  refine r_aload_n K 0 dL_law_968 rfl ?_
  refine r_iload_n K 3 dL_law_969 rfl ?_
  refine r_iconst (v := (4 : Int32)) K dL_law_970 (by decide) ?_
  refine r_iadd K dL_law_971 ?_
  obtain ⟨v327, e328, hf⟩ := ob1_s hf
  refine r_sld K hX hbl hbA dL_law_972 e328 ?_
  obtain ⟨z329, hf⟩ := gd_s hf
  obtain ⟨r330, g331, e332, hf⟩ := ob2_s hf
  refine r_callV (As := [.int v321, .int v323, .int v325, .int v327]) (rest := [.long r318]) (st1 := [.long r330, .long r318]) (cells1 := cb) (slots1 := sb) (b := a2) (ci := 10) K (fun z => mX10_price l z e332) dL_law_973 rfl (fun _ => isO_of z329) rfl ceX10_price q_1232 q_1233 q_1234 q_85 q_1235 ⟨Nat.le_of_ble_eq_true rfl, Nat.le_of_ble_eq_true rfl⟩ (Nat.le_of_ble_eq_true rfl) ⟨by show cb ≤ 600000; omega, by show sb ≤ 7302249; omega⟩ ?_ rfl rfl rfl rfl
  refine r_lif_eq (tgt := 1837) K dL_law_976 dL_law_977 (by decide) (fun c333 => ?_) (fun c333 => ?_)
  · replace hf := ite_t hf c333
    refine r_wide (k1 := cb + 15) (n1 := sb + 105) (by omega) (by omega) ?_
    exact hk g331 hf
  · replace hf := ite_f hf c333
    refine r_iconst (v := (0 : Int32)) K dL_law_980 (by decide) ?_
    exact absurd hf (by decide)
def fL_c19 (L : Nat) (xs : Nat → Int32) (x3 : Int32) (a1 a2 : Nat) (k : AH → Option Int32) (h : AH) : Option Int32 :=
  ob1 (sc L xs (x3 + (1 : Int32))) fun v334 =>
  ob1 (sc L xs (x3 + (2 : Int32))) fun v336 =>
  ob1 (sc L xs (x3 + (3 : Int32))) fun v338 =>
  gd (ckO h a1 9) <|
  ob2 (fX9_mean a1 v334 v336 v338 h) fun r341 g342 =>
  ob1 (sc L xs (x3 + (1 : Int32))) fun v344 =>
  ob1 (sc L xs (x3 + (2 : Int32))) fun v346 =>
  ob1 (sc L xs (x3 + (3 : Int32))) fun v348 =>
  gd (ckO g342 a2 10) <|
  ob2 (fX10_mean a2 v344 v346 v348 g342) fun r351 g352 =>
  if r341 = r351 then
    k g352
  else
    some (0 : Int32)
set_option maxHeartbeats 4000000 in
set_option maxRecDepth 100000 in
theorem wL_c19 {p : Program} {l : Launch} {e : Env} {s : State} {m : MethodId} {args : Array Value} {below : List Frame} {meth : Method} {c : Code} {Q : State → Prop} {G : GG} {b0 : Nat} {h0 : AH} {b L : Nat} {xs : Nat → Int32} {x3 : Int32} {a1 a2 : Nat} {cb sb : Nat} (hcb : cb + 15 ≤ 600000) (hsb : sb + 105 ≤ 7302249) (K : CX p s m args meth c cL_law 4 RL ret G b0) (hX : va_X b L xs s s.heap) (hbl : b < s.heap.size) (hbA : ¬ AB b0 b) (k : AH → Option Int32) (hk : ∀ (h : AH), k h = some 1 → WA p l e room_1 s m args below meth c Q G b0 4 h0 (cb + 15) (sb + 105) h 1837 [(0, .ref b), (1, .ref a1), (2, .ref a2), (3, .int x3)] []) : ∀ (h : AH), fL_c19 L xs x3 a1 a2 k h = some 1 → WA p l e room_1 s m args below meth c Q G b0 4 h0 cb sb h 982 [(0, .ref b), (1, .ref a1), (2, .ref a2), (3, .int x3)] [] := by
  intro h hf
  unfold fL_c19 at hf
  refine r_aload_n K 1 dL_law_982 rfl ?_
  refine r_aload_n K 0 dL_law_983 rfl ?_
  refine r_iload_n K 3 dL_law_984 rfl ?_
  refine r_iconst (v := (1 : Int32)) K dL_law_985 (by decide) ?_
  refine r_iadd K dL_law_986 ?_
  obtain ⟨v334, e335, hf⟩ := ob1_s hf
  refine r_sld K hX hbl hbA dL_law_987 e335 ?_
  refine r_aload_n K 0 dL_law_988 rfl ?_
  refine r_iload_n K 3 dL_law_989 rfl ?_
  refine r_iconst (v := (2 : Int32)) K dL_law_990 (by decide) ?_
  refine r_iadd K dL_law_991 ?_
  obtain ⟨v336, e337, hf⟩ := ob1_s hf
  refine r_sld K hX hbl hbA dL_law_992 e337 ?_
  refine r_aload_n K 0 dL_law_993 rfl ?_
  refine r_iload_n K 3 dL_law_994 rfl ?_
  refine r_iconst (v := (3 : Int32)) K dL_law_995 (by decide) ?_
  refine r_iadd K dL_law_996 ?_
  obtain ⟨v338, e339, hf⟩ := ob1_s hf
  refine r_sld K hX hbl hbA dL_law_997 e339 ?_
  obtain ⟨z340, hf⟩ := gd_s hf
  obtain ⟨r341, g342, e343, hf⟩ := ob2_s hf
  refine r_callV (As := [.int v334, .int v336, .int v338]) (rest := []) (st1 := [.long r341]) (cells1 := cb) (slots1 := sb) (b := a1) (ci := 9) K (fun z => mX9_mean l z e343) dL_law_998 rfl (fun _ => isO_of z340) rfl ceX9_mean q_699 q_700 q_701 q_75 q_702 ⟨Nat.le_of_ble_eq_true rfl, Nat.le_of_ble_eq_true rfl⟩ (Nat.le_of_ble_eq_true rfl) ⟨by show cb ≤ 600000; omega, by show sb ≤ 7302249; omega⟩ ?_ rfl rfl rfl rfl
  refine r_aload_n K 2 dL_law_1001 rfl ?_
  refine r_aload_n K 0 dL_law_1002 rfl ?_
  refine r_iload_n K 3 dL_law_1003 rfl ?_
  refine r_iconst (v := (1 : Int32)) K dL_law_1004 (by decide) ?_
  refine r_iadd K dL_law_1005 ?_
  obtain ⟨v344, e345, hf⟩ := ob1_s hf
  refine r_sld K hX hbl hbA dL_law_1006 e345 ?_
  refine r_aload_n K 0 dL_law_1007 rfl ?_
  refine r_iload_n K 3 dL_law_1008 rfl ?_
  refine r_iconst (v := (2 : Int32)) K dL_law_1009 (by decide) ?_
  refine r_iadd K dL_law_1010 ?_
  obtain ⟨v346, e347, hf⟩ := ob1_s hf
  refine r_sld K hX hbl hbA dL_law_1011 e347 ?_
  refine r_aload_n K 0 dL_law_1012 rfl ?_
  refine r_iload_n K 3 dL_law_1013 rfl ?_
  refine r_iconst (v := (3 : Int32)) K dL_law_1014 (by decide) ?_
  refine r_iadd K dL_law_1015 ?_
  obtain ⟨v348, e349, hf⟩ := ob1_s hf
  refine r_sld K hX hbl hbA dL_law_1016 e349 ?_
  obtain ⟨z350, hf⟩ := gd_s hf
  obtain ⟨r351, g352, e353, hf⟩ := ob2_s hf
  refine r_callV (As := [.int v344, .int v346, .int v348]) (rest := [.long r341]) (st1 := [.long r351, .long r341]) (cells1 := cb) (slots1 := sb) (b := a2) (ci := 10) K (fun z => mX10_mean l z e353) dL_law_1017 rfl (fun _ => isO_of z350) rfl ceX10_mean q_1240 q_1241 q_1242 q_85 q_1243 ⟨Nat.le_of_ble_eq_true rfl, Nat.le_of_ble_eq_true rfl⟩ (Nat.le_of_ble_eq_true rfl) ⟨by show cb ≤ 600000; omega, by show sb ≤ 7302249; omega⟩ ?_ rfl rfl rfl rfl
  refine r_lif_eq (tgt := 1837) K dL_law_1020 dL_law_1021 (by decide) (fun c354 => ?_) (fun c354 => ?_)
  · replace hf := ite_t hf c354
    refine r_wide (k1 := cb + 15) (n1 := sb + 105) (by omega) (by omega) ?_
    exact hk g352 hf
  · replace hf := ite_f hf c354
    refine r_iconst (v := (0 : Int32)) K dL_law_1024 (by decide) ?_
    exact absurd hf (by decide)
def fL_c20 (L : Nat) (xs : Nat → Int32) (x3 : Int32) (a1 a2 : Nat) (k : AH → Option Int32) (h : AH) : Option Int32 :=
  ob1 (sc L xs (x3 + (1 : Int32))) fun v355 =>
  ob1 (sc L xs (x3 + (2 : Int32))) fun v357 =>
  gd (ckO h a1 9) <|
  ob2 (fX9_shown a1 v355 v357 h) fun r360 g361 =>
  ob1 (sc L xs (x3 + (1 : Int32))) fun v363 =>
  ob1 (sc L xs (x3 + (2 : Int32))) fun v365 =>
  gd (ckO g361 a2 10) <|
  ob2 (fX10_shown a2 v363 v365 g361) fun r368 g369 =>
  if r360 = r368 then
    k g369
  else
    some (0 : Int32)
set_option maxHeartbeats 4000000 in
set_option maxRecDepth 100000 in
theorem wL_c20 {p : Program} {l : Launch} {e : Env} {s : State} {m : MethodId} {args : Array Value} {below : List Frame} {meth : Method} {c : Code} {Q : State → Prop} {G : GG} {b0 : Nat} {h0 : AH} {b L : Nat} {xs : Nat → Int32} {x3 : Int32} {a1 a2 : Nat} {cb sb : Nat} (hcb : cb + 15 ≤ 600000) (hsb : sb + 105 ≤ 7302249) (K : CX p s m args meth c cL_law 4 RL ret G b0) (hX : va_X b L xs s s.heap) (hbl : b < s.heap.size) (hbA : ¬ AB b0 b) (k : AH → Option Int32) (hk : ∀ (h : AH), k h = some 1 → WA p l e room_1 s m args below meth c Q G b0 4 h0 (cb + 15) (sb + 105) h 1837 [(0, .ref b), (1, .ref a1), (2, .ref a2), (3, .int x3)] []) : ∀ (h : AH), fL_c20 L xs x3 a1 a2 k h = some 1 → WA p l e room_1 s m args below meth c Q G b0 4 h0 cb sb h 1026 [(0, .ref b), (1, .ref a1), (2, .ref a2), (3, .int x3)] [] := by
  intro h hf
  unfold fL_c20 at hf
  refine r_aload_n K 1 dL_law_1026 rfl ?_
  refine r_aload_n K 0 dL_law_1027 rfl ?_
  refine r_iload_n K 3 dL_law_1028 rfl ?_
  refine r_iconst (v := (1 : Int32)) K dL_law_1029 (by decide) ?_
  refine r_iadd K dL_law_1030 ?_
  obtain ⟨v355, e356, hf⟩ := ob1_s hf
  refine r_sld K hX hbl hbA dL_law_1031 e356 ?_
  refine r_aload_n K 0 dL_law_1032 rfl ?_
  refine r_iload_n K 3 dL_law_1033 rfl ?_
  refine r_iconst (v := (2 : Int32)) K dL_law_1034 (by decide) ?_
  refine r_iadd K dL_law_1035 ?_
  obtain ⟨v357, e358, hf⟩ := ob1_s hf
  refine r_sld K hX hbl hbA dL_law_1036 e358 ?_
  obtain ⟨z359, hf⟩ := gd_s hf
  obtain ⟨r360, g361, e362, hf⟩ := ob2_s hf
  refine r_callV (As := [.int v355, .int v357]) (rest := []) (st1 := [.int r360]) (cells1 := cb) (slots1 := sb) (b := a1) (ci := 9) K (fun z => mX9_shown l z e362) dL_law_1037 rfl (fun _ => isO_of z359) rfl ceX9_shown q_708 q_709 q_710 q_75 q_711 ⟨Nat.le_of_ble_eq_true rfl, Nat.le_of_ble_eq_true rfl⟩ (Nat.le_of_ble_eq_true rfl) ⟨by show cb ≤ 600000; omega, by show sb ≤ 7302249; omega⟩ ?_ rfl rfl rfl rfl
  refine r_aload_n K 2 dL_law_1040 rfl ?_
  refine r_aload_n K 0 dL_law_1041 rfl ?_
  refine r_iload_n K 3 dL_law_1042 rfl ?_
  refine r_iconst (v := (1 : Int32)) K dL_law_1043 (by decide) ?_
  refine r_iadd K dL_law_1044 ?_
  obtain ⟨v363, e364, hf⟩ := ob1_s hf
  refine r_sld K hX hbl hbA dL_law_1045 e364 ?_
  refine r_aload_n K 0 dL_law_1046 rfl ?_
  refine r_iload_n K 3 dL_law_1047 rfl ?_
  refine r_iconst (v := (2 : Int32)) K dL_law_1048 (by decide) ?_
  refine r_iadd K dL_law_1049 ?_
  obtain ⟨v365, e366, hf⟩ := ob1_s hf
  refine r_sld K hX hbl hbA dL_law_1050 e366 ?_
  obtain ⟨z367, hf⟩ := gd_s hf
  obtain ⟨r368, g369, e370, hf⟩ := ob2_s hf
  refine r_callV (As := [.int v363, .int v365]) (rest := [.int r360]) (st1 := [.int r368, .int r360]) (cells1 := cb) (slots1 := sb) (b := a2) (ci := 10) K (fun z => mX10_shown l z e370) dL_law_1051 rfl (fun _ => isO_of z367) rfl ceX10_shown q_1250 q_1251 q_1252 q_85 q_1253 ⟨Nat.le_of_ble_eq_true rfl, Nat.le_of_ble_eq_true rfl⟩ (Nat.le_of_ble_eq_true rfl) ⟨by show cb ≤ 600000; omega, by show sb ≤ 7302249; omega⟩ ?_ rfl rfl rfl rfl
  refine r_icmp_eq (tgt := 1837) K dL_law_1054 (by decide) (fun c371 => ?_) (fun c371 => ?_)
  · replace hf := ite_t hf c371
    refine r_wide (k1 := cb + 15) (n1 := sb + 105) (by omega) (by omega) ?_
    exact hk g369 hf
  · replace hf := ite_f hf c371
    refine r_iconst (v := (0 : Int32)) K dL_law_1057 (by decide) ?_
    exact absurd hf (by decide)
def fL_c21 (L : Nat) (xs : Nat → Int32) (x3 : Int32) (a1 a2 : Nat) (k : AH → Option Int32) (h : AH) : Option Int32 :=
  ob1 (sc L xs (x3 + (1 : Int32))) fun v372 =>
  gd (ckO h a1 9) <|
  ob2 (fX9_taken a1 v372 h) fun r375 g376 =>
  ob1 (sc L xs (x3 + (1 : Int32))) fun v378 =>
  gd (ckO g376 a2 10) <|
  ob2 (fX10_taken a2 v378 g376) fun r381 g382 =>
  if r375 = r381 then
    k g382
  else
    some (0 : Int32)
set_option maxHeartbeats 4000000 in
set_option maxRecDepth 100000 in
theorem wL_c21 {p : Program} {l : Launch} {e : Env} {s : State} {m : MethodId} {args : Array Value} {below : List Frame} {meth : Method} {c : Code} {Q : State → Prop} {G : GG} {b0 : Nat} {h0 : AH} {b L : Nat} {xs : Nat → Int32} {x3 : Int32} {a1 a2 : Nat} {cb sb : Nat} (hcb : cb + 15 ≤ 600000) (hsb : sb + 105 ≤ 7302249) (K : CX p s m args meth c cL_law 4 RL ret G b0) (hX : va_X b L xs s s.heap) (hbl : b < s.heap.size) (hbA : ¬ AB b0 b) (k : AH → Option Int32) (hk : ∀ (h : AH), k h = some 1 → WA p l e room_1 s m args below meth c Q G b0 4 h0 (cb + 15) (sb + 105) h 1837 [(0, .ref b), (1, .ref a1), (2, .ref a2), (3, .int x3)] []) : ∀ (h : AH), fL_c21 L xs x3 a1 a2 k h = some 1 → WA p l e room_1 s m args below meth c Q G b0 4 h0 cb sb h 1059 [(0, .ref b), (1, .ref a1), (2, .ref a2), (3, .int x3)] [] := by
  intro h hf
  unfold fL_c21 at hf
  refine r_aload_n K 1 dL_law_1059 rfl ?_
  refine r_aload_n K 0 dL_law_1060 rfl ?_
  refine r_iload_n K 3 dL_law_1061 rfl ?_
  refine r_iconst (v := (1 : Int32)) K dL_law_1062 (by decide) ?_
  refine r_iadd K dL_law_1063 ?_
  obtain ⟨v372, e373, hf⟩ := ob1_s hf
  refine r_sld K hX hbl hbA dL_law_1064 e373 ?_
  obtain ⟨z374, hf⟩ := gd_s hf
  obtain ⟨r375, g376, e377, hf⟩ := ob2_s hf
  refine r_callV (As := [.int v372]) (rest := []) (st1 := [.long r375]) (cells1 := cb) (slots1 := sb) (b := a1) (ci := 9) K (fun z => mX9_taken l z e377) dL_law_1065 rfl (fun _ => isO_of z374) rfl ceX9_taken q_716 q_717 q_718 q_75 q_719 ⟨Nat.le_of_ble_eq_true rfl, Nat.le_of_ble_eq_true rfl⟩ (Nat.le_of_ble_eq_true rfl) ⟨by show cb ≤ 600000; omega, by show sb ≤ 7302249; omega⟩ ?_ rfl rfl rfl rfl
  refine r_aload_n K 2 dL_law_1068 rfl ?_
  refine r_aload_n K 0 dL_law_1069 rfl ?_
  refine r_iload_n K 3 dL_law_1070 rfl ?_
  refine r_iconst (v := (1 : Int32)) K dL_law_1071 (by decide) ?_
  refine r_iadd K dL_law_1072 ?_
  obtain ⟨v378, e379, hf⟩ := ob1_s hf
  refine r_sld K hX hbl hbA dL_law_1073 e379 ?_
  obtain ⟨z380, hf⟩ := gd_s hf
  obtain ⟨r381, g382, e383, hf⟩ := ob2_s hf
  refine r_callV (As := [.int v378]) (rest := [.long r375]) (st1 := [.long r381, .long r375]) (cells1 := cb) (slots1 := sb) (b := a2) (ci := 10) K (fun z => mX10_taken l z e383) dL_law_1074 rfl (fun _ => isO_of z380) rfl ceX10_taken q_1264 q_1265 q_1266 q_85 q_1267 ⟨Nat.le_of_ble_eq_true rfl, Nat.le_of_ble_eq_true rfl⟩ (Nat.le_of_ble_eq_true rfl) ⟨by show cb ≤ 600000; omega, by show sb ≤ 7302249; omega⟩ ?_ rfl rfl rfl rfl
  refine r_lif_eq (tgt := 1837) K dL_law_1077 dL_law_1078 (by decide) (fun c384 => ?_) (fun c384 => ?_)
  · replace hf := ite_t hf c384
    refine r_wide (k1 := cb + 15) (n1 := sb + 105) (by omega) (by omega) ?_
    exact hk g382 hf
  · replace hf := ite_f hf c384
    refine r_iconst (v := (0 : Int32)) K dL_law_1081 (by decide) ?_
    exact absurd hf (by decide)
def fL_c22 (L : Nat) (xs : Nat → Int32) (x3 : Int32) (a1 a2 : Nat) (k : AH → Option Int32) (h : AH) : Option Int32 :=
  ob1 (sc L xs (x3 + (1 : Int32))) fun v385 =>
  ob1 (sc L xs (x3 + (2 : Int32))) fun v387 =>
  gd (ckO h a1 9) <|
  ob2 (fX9_busy a1 v385 v387 h) fun r390 g391 =>
  ob1 (sc L xs (x3 + (1 : Int32))) fun v393 =>
  ob1 (sc L xs (x3 + (2 : Int32))) fun v395 =>
  gd (ckO g391 a2 10) <|
  ob2 (fX10_busy a2 v393 v395 g391) fun r398 g399 =>
  if r390 = r398 then
    k g399
  else
    some (0 : Int32)
set_option maxHeartbeats 4000000 in
set_option maxRecDepth 100000 in
theorem wL_c22 {p : Program} {l : Launch} {e : Env} {s : State} {m : MethodId} {args : Array Value} {below : List Frame} {meth : Method} {c : Code} {Q : State → Prop} {G : GG} {b0 : Nat} {h0 : AH} {b L : Nat} {xs : Nat → Int32} {x3 : Int32} {a1 a2 : Nat} {cb sb : Nat} (hcb : cb + 15 ≤ 600000) (hsb : sb + 105 ≤ 7302249) (K : CX p s m args meth c cL_law 4 RL ret G b0) (hX : va_X b L xs s s.heap) (hbl : b < s.heap.size) (hbA : ¬ AB b0 b) (k : AH → Option Int32) (hk : ∀ (h : AH), k h = some 1 → WA p l e room_1 s m args below meth c Q G b0 4 h0 (cb + 15) (sb + 105) h 1837 [(0, .ref b), (1, .ref a1), (2, .ref a2), (3, .int x3)] []) : ∀ (h : AH), fL_c22 L xs x3 a1 a2 k h = some 1 → WA p l e room_1 s m args below meth c Q G b0 4 h0 cb sb h 1083 [(0, .ref b), (1, .ref a1), (2, .ref a2), (3, .int x3)] [] := by
  intro h hf
  unfold fL_c22 at hf
  refine r_aload_n K 1 dL_law_1083 rfl ?_
  refine r_aload_n K 0 dL_law_1084 rfl ?_
  refine r_iload_n K 3 dL_law_1085 rfl ?_
  refine r_iconst (v := (1 : Int32)) K dL_law_1086 (by decide) ?_
  refine r_iadd K dL_law_1087 ?_
  obtain ⟨v385, e386, hf⟩ := ob1_s hf
  refine r_sld K hX hbl hbA dL_law_1088 e386 ?_
  refine r_aload_n K 0 dL_law_1089 rfl ?_
  refine r_iload_n K 3 dL_law_1090 rfl ?_
  refine r_iconst (v := (2 : Int32)) K dL_law_1091 (by decide) ?_
  refine r_iadd K dL_law_1092 ?_
  obtain ⟨v387, e388, hf⟩ := ob1_s hf
  refine r_sld K hX hbl hbA dL_law_1093 e388 ?_
  obtain ⟨z389, hf⟩ := gd_s hf
  obtain ⟨r390, g391, e392, hf⟩ := ob2_s hf
  refine r_callV (As := [.int v385, .int v387]) (rest := []) (st1 := [.int r390]) (cells1 := cb) (slots1 := sb) (b := a1) (ci := 9) K (fun z => mX9_busy l z e392) dL_law_1094 rfl (fun _ => isO_of z389) rfl ceX9_busy q_720 q_721 q_722 q_75 q_723 ⟨Nat.le_of_ble_eq_true rfl, Nat.le_of_ble_eq_true rfl⟩ (Nat.le_of_ble_eq_true rfl) ⟨by show cb ≤ 600000; omega, by show sb ≤ 7302249; omega⟩ ?_ rfl rfl rfl rfl
  refine r_aload_n K 2 dL_law_1097 rfl ?_
  refine r_aload_n K 0 dL_law_1098 rfl ?_
  refine r_iload_n K 3 dL_law_1099 rfl ?_
  refine r_iconst (v := (1 : Int32)) K dL_law_1100 (by decide) ?_
  refine r_iadd K dL_law_1101 ?_
  obtain ⟨v393, e394, hf⟩ := ob1_s hf
  refine r_sld K hX hbl hbA dL_law_1102 e394 ?_
  refine r_aload_n K 0 dL_law_1103 rfl ?_
  refine r_iload_n K 3 dL_law_1104 rfl ?_
  refine r_iconst (v := (2 : Int32)) K dL_law_1105 (by decide) ?_
  refine r_iadd K dL_law_1106 ?_
  obtain ⟨v395, e396, hf⟩ := ob1_s hf
  refine r_sld K hX hbl hbA dL_law_1107 e396 ?_
  obtain ⟨z397, hf⟩ := gd_s hf
  obtain ⟨r398, g399, e400, hf⟩ := ob2_s hf
  refine r_callV (As := [.int v393, .int v395]) (rest := [.int r390]) (st1 := [.int r398, .int r390]) (cells1 := cb) (slots1 := sb) (b := a2) (ci := 10) K (fun z => mX10_busy l z e400) dL_law_1108 rfl (fun _ => isO_of z397) rfl ceX10_busy q_1268 q_1269 q_1270 q_85 q_1271 ⟨Nat.le_of_ble_eq_true rfl, Nat.le_of_ble_eq_true rfl⟩ (Nat.le_of_ble_eq_true rfl) ⟨by show cb ≤ 600000; omega, by show sb ≤ 7302249; omega⟩ ?_ rfl rfl rfl rfl
  refine r_icmp_eq (tgt := 1837) K dL_law_1111 (by decide) (fun c401 => ?_) (fun c401 => ?_)
  · replace hf := ite_t hf c401
    refine r_wide (k1 := cb + 15) (n1 := sb + 105) (by omega) (by omega) ?_
    exact hk g399 hf
  · replace hf := ite_f hf c401
    refine r_iconst (v := (0 : Int32)) K dL_law_1114 (by decide) ?_
    exact absurd hf (by decide)
def fL_c23 (L : Nat) (xs : Nat → Int32) (x3 : Int32) (a1 a2 : Nat) (k : AH → Option Int32) (h : AH) : Option Int32 :=
  gd (ckO h a1 9) <|
  ob2 (fX9_best a1 h) fun r403 g404 =>
  gd (ckO g404 a2 10) <|
  ob2 (fX10_best a2 g404) fun r407 g408 =>
  if r403 = r407 then
    k g408
  else
    some (0 : Int32)
set_option maxHeartbeats 4000000 in
set_option maxRecDepth 100000 in
theorem wL_c23 {p : Program} {l : Launch} {e : Env} {s : State} {m : MethodId} {args : Array Value} {below : List Frame} {meth : Method} {c : Code} {Q : State → Prop} {G : GG} {b0 : Nat} {h0 : AH} {b L : Nat} {xs : Nat → Int32} {x3 : Int32} {a1 a2 : Nat} {cb sb : Nat} (hcb : cb + 15 ≤ 600000) (hsb : sb + 105 ≤ 7302249) (K : CX p s m args meth c cL_law 4 RL ret G b0) (hX : va_X b L xs s s.heap) (hbl : b < s.heap.size) (hbA : ¬ AB b0 b) (k : AH → Option Int32) (hk : ∀ (h : AH), k h = some 1 → WA p l e room_1 s m args below meth c Q G b0 4 h0 (cb + 15) (sb + 105) h 1837 [(0, .ref b), (1, .ref a1), (2, .ref a2), (3, .int x3)] []) : ∀ (h : AH), fL_c23 L xs x3 a1 a2 k h = some 1 → WA p l e room_1 s m args below meth c Q G b0 4 h0 cb sb h 1116 [(0, .ref b), (1, .ref a1), (2, .ref a2), (3, .int x3)] [] := by
  intro h hf
  unfold fL_c23 at hf
  refine r_aload_n K 1 dL_law_1116 rfl ?_
  obtain ⟨z402, hf⟩ := gd_s hf
  obtain ⟨r403, g404, e405, hf⟩ := ob2_s hf
  refine r_callV (As := []) (rest := []) (st1 := [.long r403]) (cells1 := cb) (slots1 := sb) (b := a1) (ci := 9) K (fun z => mX9_best l z e405) dL_law_1117 rfl (fun _ => isO_of z402) rfl ceX9_best q_728 q_729 q_730 q_75 q_731 ⟨Nat.le_of_ble_eq_true rfl, Nat.le_of_ble_eq_true rfl⟩ (Nat.le_of_ble_eq_true rfl) ⟨by show cb ≤ 600000; omega, by show sb ≤ 7302249; omega⟩ ?_ rfl rfl rfl rfl
  refine r_aload_n K 2 dL_law_1120 rfl ?_
  obtain ⟨z406, hf⟩ := gd_s hf
  obtain ⟨r407, g408, e409, hf⟩ := ob2_s hf
  refine r_callV (As := []) (rest := [.long r403]) (st1 := [.long r407, .long r403]) (cells1 := cb) (slots1 := sb) (b := a2) (ci := 10) K (fun z => mX10_best l z e409) dL_law_1121 rfl (fun _ => isO_of z406) rfl ceX10_best q_1272 q_1273 q_1274 q_85 q_1275 ⟨Nat.le_of_ble_eq_true rfl, Nat.le_of_ble_eq_true rfl⟩ (Nat.le_of_ble_eq_true rfl) ⟨by show cb ≤ 600000; omega, by show sb ≤ 7302249; omega⟩ ?_ rfl rfl rfl rfl
  refine r_lif_eq (tgt := 1837) K dL_law_1124 dL_law_1125 (by decide) (fun c410 => ?_) (fun c410 => ?_)
  · replace hf := ite_t hf c410
    refine r_wide (k1 := cb + 15) (n1 := sb + 105) (by omega) (by omega) ?_
    exact hk g408 hf
  · replace hf := ite_f hf c410
    refine r_iconst (v := (0 : Int32)) K dL_law_1128 (by decide) ?_
    exact absurd hf (by decide)
def fL_c24 (L : Nat) (xs : Nat → Int32) (x3 : Int32) (a1 a2 : Nat) (k : AH → Option Int32) (h : AH) : Option Int32 :=
  ob1 (sc L xs (x3 + (1 : Int32))) fun v411 =>
  ob1 (sc L xs (x3 + (2 : Int32))) fun v413 =>
  gd (ckO h a1 9) <|
  ob2 (fX9_worse a1 v411 v413 h) fun r416 g417 =>
  ob1 (sc L xs (x3 + (1 : Int32))) fun v419 =>
  ob1 (sc L xs (x3 + (2 : Int32))) fun v421 =>
  gd (ckO g417 a2 10) <|
  ob2 (fX10_worse a2 v419 v421 g417) fun r424 g425 =>
  if r416 = r424 then
    k g425
  else
    some (0 : Int32)
set_option maxHeartbeats 4000000 in
set_option maxRecDepth 100000 in
theorem wL_c24 {p : Program} {l : Launch} {e : Env} {s : State} {m : MethodId} {args : Array Value} {below : List Frame} {meth : Method} {c : Code} {Q : State → Prop} {G : GG} {b0 : Nat} {h0 : AH} {b L : Nat} {xs : Nat → Int32} {x3 : Int32} {a1 a2 : Nat} {cb sb : Nat} (hcb : cb + 15 ≤ 600000) (hsb : sb + 105 ≤ 7302249) (K : CX p s m args meth c cL_law 4 RL ret G b0) (hX : va_X b L xs s s.heap) (hbl : b < s.heap.size) (hbA : ¬ AB b0 b) (k : AH → Option Int32) (hk : ∀ (h : AH), k h = some 1 → WA p l e room_1 s m args below meth c Q G b0 4 h0 (cb + 15) (sb + 105) h 1837 [(0, .ref b), (1, .ref a1), (2, .ref a2), (3, .int x3)] []) : ∀ (h : AH), fL_c24 L xs x3 a1 a2 k h = some 1 → WA p l e room_1 s m args below meth c Q G b0 4 h0 cb sb h 1130 [(0, .ref b), (1, .ref a1), (2, .ref a2), (3, .int x3)] [] := by
  intro h hf
  unfold fL_c24 at hf
  refine r_aload_n K 1 dL_law_1130 rfl ?_
  refine r_aload_n K 0 dL_law_1131 rfl ?_
  refine r_iload_n K 3 dL_law_1132 rfl ?_
  refine r_iconst (v := (1 : Int32)) K dL_law_1133 (by decide) ?_
  refine r_iadd K dL_law_1134 ?_
  obtain ⟨v411, e412, hf⟩ := ob1_s hf
  refine r_sld K hX hbl hbA dL_law_1135 e412 ?_
  refine r_aload_n K 0 dL_law_1136 rfl ?_
  refine r_iload_n K 3 dL_law_1137 rfl ?_
  refine r_iconst (v := (2 : Int32)) K dL_law_1138 (by decide) ?_
  refine r_iadd K dL_law_1139 ?_
  obtain ⟨v413, e414, hf⟩ := ob1_s hf
  refine r_sld K hX hbl hbA dL_law_1140 e414 ?_
  obtain ⟨z415, hf⟩ := gd_s hf
  obtain ⟨r416, g417, e418, hf⟩ := ob2_s hf
  refine r_callV (As := [.int v411, .int v413]) (rest := []) (st1 := [.long r416]) (cells1 := cb) (slots1 := sb) (b := a1) (ci := 9) K (fun z => mX9_worse l z e418) dL_law_1141 rfl (fun _ => isO_of z415) rfl ceX9_worse q_761 q_762 q_763 q_75 q_764 ⟨Nat.le_of_ble_eq_true rfl, Nat.le_of_ble_eq_true rfl⟩ (Nat.le_of_ble_eq_true rfl) ⟨by show cb ≤ 600000; omega, by show sb ≤ 7302249; omega⟩ ?_ rfl rfl rfl rfl
  refine r_aload_n K 2 dL_law_1144 rfl ?_
  refine r_aload_n K 0 dL_law_1145 rfl ?_
  refine r_iload_n K 3 dL_law_1146 rfl ?_
  refine r_iconst (v := (1 : Int32)) K dL_law_1147 (by decide) ?_
  refine r_iadd K dL_law_1148 ?_
  obtain ⟨v419, e420, hf⟩ := ob1_s hf
  refine r_sld K hX hbl hbA dL_law_1149 e420 ?_
  refine r_aload_n K 0 dL_law_1150 rfl ?_
  refine r_iload_n K 3 dL_law_1151 rfl ?_
  refine r_iconst (v := (2 : Int32)) K dL_law_1152 (by decide) ?_
  refine r_iadd K dL_law_1153 ?_
  obtain ⟨v421, e422, hf⟩ := ob1_s hf
  refine r_sld K hX hbl hbA dL_law_1154 e422 ?_
  obtain ⟨z423, hf⟩ := gd_s hf
  obtain ⟨r424, g425, e426, hf⟩ := ob2_s hf
  refine r_callV (As := [.int v419, .int v421]) (rest := [.long r416]) (st1 := [.long r424, .long r416]) (cells1 := cb) (slots1 := sb) (b := a2) (ci := 10) K (fun z => mX10_worse l z e426) dL_law_1155 rfl (fun _ => isO_of z423) rfl ceX10_worse q_1300 q_1301 q_1302 q_85 q_1303 ⟨Nat.le_of_ble_eq_true rfl, Nat.le_of_ble_eq_true rfl⟩ (Nat.le_of_ble_eq_true rfl) ⟨by show cb ≤ 600000; omega, by show sb ≤ 7302249; omega⟩ ?_ rfl rfl rfl rfl
  refine r_lif_eq (tgt := 1837) K dL_law_1158 dL_law_1159 (by decide) (fun c427 => ?_) (fun c427 => ?_)
  · replace hf := ite_t hf c427
    refine r_wide (k1 := cb + 15) (n1 := sb + 105) (by omega) (by omega) ?_
    exact hk g425 hf
  · replace hf := ite_f hf c427
    refine r_iconst (v := (0 : Int32)) K dL_law_1162 (by decide) ?_
    exact absurd hf (by decide)
def fL_c25 (L : Nat) (xs : Nat → Int32) (x3 : Int32) (a1 a2 : Nat) (k : AH → Option Int32) (h : AH) : Option Int32 :=
  ob1 (sc L xs (x3 + (1 : Int32))) fun v428 =>
  ob1 (sc L xs (x3 + (2 : Int32))) fun v430 =>
  gd (ckO h a1 9) <|
  ob2 (fX9_without a1 v428 v430 h) fun r433 g434 =>
  ob1 (sc L xs (x3 + (1 : Int32))) fun v436 =>
  ob1 (sc L xs (x3 + (2 : Int32))) fun v438 =>
  gd (ckO g434 a2 10) <|
  ob2 (fX10_without a2 v436 v438 g434) fun r441 g442 =>
  if r433 = r441 then
    k g442
  else
    some (0 : Int32)
set_option maxHeartbeats 4000000 in
set_option maxRecDepth 100000 in
theorem wL_c25 {p : Program} {l : Launch} {e : Env} {s : State} {m : MethodId} {args : Array Value} {below : List Frame} {meth : Method} {c : Code} {Q : State → Prop} {G : GG} {b0 : Nat} {h0 : AH} {b L : Nat} {xs : Nat → Int32} {x3 : Int32} {a1 a2 : Nat} {cb sb : Nat} (hcb : cb + 15 ≤ 600000) (hsb : sb + 105 ≤ 7302249) (K : CX p s m args meth c cL_law 4 RL ret G b0) (hX : va_X b L xs s s.heap) (hbl : b < s.heap.size) (hbA : ¬ AB b0 b) (k : AH → Option Int32) (hk : ∀ (h : AH), k h = some 1 → WA p l e room_1 s m args below meth c Q G b0 4 h0 (cb + 15) (sb + 105) h 1837 [(0, .ref b), (1, .ref a1), (2, .ref a2), (3, .int x3)] []) : ∀ (h : AH), fL_c25 L xs x3 a1 a2 k h = some 1 → WA p l e room_1 s m args below meth c Q G b0 4 h0 cb sb h 1164 [(0, .ref b), (1, .ref a1), (2, .ref a2), (3, .int x3)] [] := by
  intro h hf
  unfold fL_c25 at hf
  refine r_aload_n K 1 dL_law_1164 rfl ?_
  refine r_aload_n K 0 dL_law_1165 rfl ?_
  refine r_iload_n K 3 dL_law_1166 rfl ?_
  refine r_iconst (v := (1 : Int32)) K dL_law_1167 (by decide) ?_
  refine r_iadd K dL_law_1168 ?_
  obtain ⟨v428, e429, hf⟩ := ob1_s hf
  refine r_sld K hX hbl hbA dL_law_1169 e429 ?_
  refine r_aload_n K 0 dL_law_1170 rfl ?_
  refine r_iload_n K 3 dL_law_1171 rfl ?_
  refine r_iconst (v := (2 : Int32)) K dL_law_1172 (by decide) ?_
  refine r_iadd K dL_law_1173 ?_
  obtain ⟨v430, e431, hf⟩ := ob1_s hf
  refine r_sld K hX hbl hbA dL_law_1174 e431 ?_
  obtain ⟨z432, hf⟩ := gd_s hf
  obtain ⟨r433, g434, e435, hf⟩ := ob2_s hf
  refine r_callV (As := [.int v428, .int v430]) (rest := []) (st1 := [.long r433]) (cells1 := cb) (slots1 := sb) (b := a1) (ci := 9) K (fun z => mX9_without l z e435) dL_law_1175 rfl (fun _ => isO_of z432) rfl ceX9_without q_765 q_766 q_767 q_75 q_768 ⟨Nat.le_of_ble_eq_true rfl, Nat.le_of_ble_eq_true rfl⟩ (Nat.le_of_ble_eq_true rfl) ⟨by show cb ≤ 600000; omega, by show sb ≤ 7302249; omega⟩ ?_ rfl rfl rfl rfl
  refine r_aload_n K 2 dL_law_1178 rfl ?_
  refine r_aload_n K 0 dL_law_1179 rfl ?_
  refine r_iload_n K 3 dL_law_1180 rfl ?_
  refine r_iconst (v := (1 : Int32)) K dL_law_1181 (by decide) ?_
  refine r_iadd K dL_law_1182 ?_
  obtain ⟨v436, e437, hf⟩ := ob1_s hf
  refine r_sld K hX hbl hbA dL_law_1183 e437 ?_
  refine r_aload_n K 0 dL_law_1184 rfl ?_
  refine r_iload_n K 3 dL_law_1185 rfl ?_
  refine r_iconst (v := (2 : Int32)) K dL_law_1186 (by decide) ?_
  refine r_iadd K dL_law_1187 ?_
  obtain ⟨v438, e439, hf⟩ := ob1_s hf
  refine r_sld K hX hbl hbA dL_law_1188 e439 ?_
  obtain ⟨z440, hf⟩ := gd_s hf
  obtain ⟨r441, g442, e443, hf⟩ := ob2_s hf
  refine r_callV (As := [.int v436, .int v438]) (rest := [.long r433]) (st1 := [.long r441, .long r433]) (cells1 := cb) (slots1 := sb) (b := a2) (ci := 10) K (fun z => mX10_without l z e443) dL_law_1189 rfl (fun _ => isO_of z440) rfl ceX10_without q_1304 q_1305 q_1306 q_85 q_1307 ⟨Nat.le_of_ble_eq_true rfl, Nat.le_of_ble_eq_true rfl⟩ (Nat.le_of_ble_eq_true rfl) ⟨by show cb ≤ 600000; omega, by show sb ≤ 7302249; omega⟩ ?_ rfl rfl rfl rfl
  refine r_lif_eq (tgt := 1837) K dL_law_1192 dL_law_1193 (by decide) (fun c444 => ?_) (fun c444 => ?_)
  · replace hf := ite_t hf c444
    refine r_wide (k1 := cb + 15) (n1 := sb + 105) (by omega) (by omega) ?_
    exact hk g442 hf
  · replace hf := ite_f hf c444
    refine r_iconst (v := (0 : Int32)) K dL_law_1196 (by decide) ?_
    exact absurd hf (by decide)
def fL_c26 (L : Nat) (xs : Nat → Int32) (x3 : Int32) (a1 a2 : Nat) (k : AH → Option Int32) (h : AH) : Option Int32 :=
  ob1 (sc L xs (x3 + (1 : Int32))) fun v445 =>
  ob1 (sc L xs (x3 + (2 : Int32))) fun v447 =>
  gd (ckO h a1 9) <|
  ob2 (fX9_paradox a1 v445 v447 h) fun r450 g451 =>
  ob1 (sc L xs (x3 + (1 : Int32))) fun v453 =>
  ob1 (sc L xs (x3 + (2 : Int32))) fun v455 =>
  gd (ckO g451 a2 10) <|
  ob2 (fX10_paradox a2 v453 v455 g451) fun r458 g459 =>
  if r450 = r458 then
    k g459
  else
    some (0 : Int32)
set_option maxHeartbeats 4000000 in
set_option maxRecDepth 100000 in
theorem wL_c26 {p : Program} {l : Launch} {e : Env} {s : State} {m : MethodId} {args : Array Value} {below : List Frame} {meth : Method} {c : Code} {Q : State → Prop} {G : GG} {b0 : Nat} {h0 : AH} {b L : Nat} {xs : Nat → Int32} {x3 : Int32} {a1 a2 : Nat} {cb sb : Nat} (hcb : cb + 15 ≤ 600000) (hsb : sb + 105 ≤ 7302249) (K : CX p s m args meth c cL_law 4 RL ret G b0) (hX : va_X b L xs s s.heap) (hbl : b < s.heap.size) (hbA : ¬ AB b0 b) (k : AH → Option Int32) (hk : ∀ (h : AH), k h = some 1 → WA p l e room_1 s m args below meth c Q G b0 4 h0 (cb + 15) (sb + 105) h 1837 [(0, .ref b), (1, .ref a1), (2, .ref a2), (3, .int x3)] []) : ∀ (h : AH), fL_c26 L xs x3 a1 a2 k h = some 1 → WA p l e room_1 s m args below meth c Q G b0 4 h0 cb sb h 1198 [(0, .ref b), (1, .ref a1), (2, .ref a2), (3, .int x3)] [] := by
  intro h hf
  unfold fL_c26 at hf
  refine r_aload_n K 1 dL_law_1198 rfl ?_
  refine r_aload_n K 0 dL_law_1199 rfl ?_
  refine r_iload_n K 3 dL_law_1200 rfl ?_
  refine r_iconst (v := (1 : Int32)) K dL_law_1201 (by decide) ?_
  refine r_iadd K dL_law_1202 ?_
  obtain ⟨v445, e446, hf⟩ := ob1_s hf
  refine r_sld K hX hbl hbA dL_law_1203 e446 ?_
  refine r_aload_n K 0 dL_law_1204 rfl ?_
  refine r_iload_n K 3 dL_law_1205 rfl ?_
  refine r_iconst (v := (2 : Int32)) K dL_law_1206 (by decide) ?_
  refine r_iadd K dL_law_1207 ?_
  obtain ⟨v447, e448, hf⟩ := ob1_s hf
  refine r_sld K hX hbl hbA dL_law_1208 e448 ?_
  obtain ⟨z449, hf⟩ := gd_s hf
  obtain ⟨r450, g451, e452, hf⟩ := ob2_s hf
  refine r_callV (As := [.int v445, .int v447]) (rest := []) (st1 := [.int r450]) (cells1 := cb) (slots1 := sb) (b := a1) (ci := 9) K (fun z => mX9_paradox l z e452) dL_law_1209 rfl (fun _ => isO_of z449) rfl ceX9_paradox q_776 q_777 q_778 q_75 q_779 ⟨Nat.le_of_ble_eq_true rfl, Nat.le_of_ble_eq_true rfl⟩ (Nat.le_of_ble_eq_true rfl) ⟨by show cb ≤ 600000; omega, by show sb ≤ 7302249; omega⟩ ?_ rfl rfl rfl rfl
  refine r_aload_n K 2 dL_law_1212 rfl ?_
  refine r_aload_n K 0 dL_law_1213 rfl ?_
  refine r_iload_n K 3 dL_law_1214 rfl ?_
  refine r_iconst (v := (1 : Int32)) K dL_law_1215 (by decide) ?_
  refine r_iadd K dL_law_1216 ?_
  obtain ⟨v453, e454, hf⟩ := ob1_s hf
  refine r_sld K hX hbl hbA dL_law_1217 e454 ?_
  refine r_aload_n K 0 dL_law_1218 rfl ?_
  refine r_iload_n K 3 dL_law_1219 rfl ?_
  refine r_iconst (v := (2 : Int32)) K dL_law_1220 (by decide) ?_
  refine r_iadd K dL_law_1221 ?_
  obtain ⟨v455, e456, hf⟩ := ob1_s hf
  refine r_sld K hX hbl hbA dL_law_1222 e456 ?_
  obtain ⟨z457, hf⟩ := gd_s hf
  obtain ⟨r458, g459, e460, hf⟩ := ob2_s hf
  refine r_callV (As := [.int v453, .int v455]) (rest := [.int r450]) (st1 := [.int r458, .int r450]) (cells1 := cb) (slots1 := sb) (b := a2) (ci := 10) K (fun z => mX10_paradox l z e460) dL_law_1223 rfl (fun _ => isO_of z457) rfl ceX10_paradox q_1315 q_1316 q_1317 q_85 q_1318 ⟨Nat.le_of_ble_eq_true rfl, Nat.le_of_ble_eq_true rfl⟩ (Nat.le_of_ble_eq_true rfl) ⟨by show cb ≤ 600000; omega, by show sb ≤ 7302249; omega⟩ ?_ rfl rfl rfl rfl
  refine r_icmp_eq (tgt := 1837) K dL_law_1226 (by decide) (fun c461 => ?_) (fun c461 => ?_)
  · replace hf := ite_t hf c461
    refine r_wide (k1 := cb + 15) (n1 := sb + 105) (by omega) (by omega) ?_
    exact hk g459 hf
  · replace hf := ite_f hf c461
    refine r_iconst (v := (0 : Int32)) K dL_law_1229 (by decide) ?_
    exact absurd hf (by decide)
def fL_c27 (L : Nat) (xs : Nat → Int32) (x3 : Int32) (a1 a2 : Nat) (k : AH → Option Int32) (h : AH) : Option Int32 :=
  ob1 (sc L xs (x3 + (1 : Int32))) fun v462 =>
  gd (ckO h a1 9) <|
  ob2 (fX9_paradoxes a1 v462 h) fun r465 g466 =>
  ob1 (sc L xs (x3 + (1 : Int32))) fun v468 =>
  gd (ckO g466 a2 10) <|
  ob2 (fX10_paradoxes a2 v468 g466) fun r471 g472 =>
  if r465 = r471 then
    k g472
  else
    some (0 : Int32)
set_option maxHeartbeats 4000000 in
set_option maxRecDepth 100000 in
theorem wL_c27 {p : Program} {l : Launch} {e : Env} {s : State} {m : MethodId} {args : Array Value} {below : List Frame} {meth : Method} {c : Code} {Q : State → Prop} {G : GG} {b0 : Nat} {h0 : AH} {b L : Nat} {xs : Nat → Int32} {x3 : Int32} {a1 a2 : Nat} {cb sb : Nat} (hcb : cb + 15 ≤ 600000) (hsb : sb + 105 ≤ 7302249) (K : CX p s m args meth c cL_law 4 RL ret G b0) (hX : va_X b L xs s s.heap) (hbl : b < s.heap.size) (hbA : ¬ AB b0 b) (k : AH → Option Int32) (hk : ∀ (h : AH), k h = some 1 → WA p l e room_1 s m args below meth c Q G b0 4 h0 (cb + 15) (sb + 105) h 1837 [(0, .ref b), (1, .ref a1), (2, .ref a2), (3, .int x3)] []) : ∀ (h : AH), fL_c27 L xs x3 a1 a2 k h = some 1 → WA p l e room_1 s m args below meth c Q G b0 4 h0 cb sb h 1231 [(0, .ref b), (1, .ref a1), (2, .ref a2), (3, .int x3)] [] := by
  intro h hf
  unfold fL_c27 at hf
  refine r_aload_n K 1 dL_law_1231 rfl ?_
  refine r_aload_n K 0 dL_law_1232 rfl ?_
  refine r_iload_n K 3 dL_law_1233 rfl ?_
  refine r_iconst (v := (1 : Int32)) K dL_law_1234 (by decide) ?_
  refine r_iadd K dL_law_1235 ?_
  obtain ⟨v462, e463, hf⟩ := ob1_s hf
  refine r_sld K hX hbl hbA dL_law_1236 e463 ?_
  obtain ⟨z464, hf⟩ := gd_s hf
  obtain ⟨r465, g466, e467, hf⟩ := ob2_s hf
  refine r_callV (As := [.int v462]) (rest := []) (st1 := [.int r465]) (cells1 := cb) (slots1 := sb) (b := a1) (ci := 9) K (fun z => mX9_paradoxes l z e467) dL_law_1237 rfl (fun _ => isO_of z464) rfl ceX9_paradoxes q_783 q_784 q_785 q_75 q_786 ⟨Nat.le_of_ble_eq_true rfl, Nat.le_of_ble_eq_true rfl⟩ (Nat.le_of_ble_eq_true rfl) ⟨by show cb ≤ 600000; omega, by show sb ≤ 7302249; omega⟩ ?_ rfl rfl rfl rfl
  refine r_aload_n K 2 dL_law_1240 rfl ?_
  refine r_aload_n K 0 dL_law_1241 rfl ?_
  refine r_iload_n K 3 dL_law_1242 rfl ?_
  refine r_iconst (v := (1 : Int32)) K dL_law_1243 (by decide) ?_
  refine r_iadd K dL_law_1244 ?_
  obtain ⟨v468, e469, hf⟩ := ob1_s hf
  refine r_sld K hX hbl hbA dL_law_1245 e469 ?_
  obtain ⟨z470, hf⟩ := gd_s hf
  obtain ⟨r471, g472, e473, hf⟩ := ob2_s hf
  refine r_callV (As := [.int v468]) (rest := [.int r465]) (st1 := [.int r471, .int r465]) (cells1 := cb) (slots1 := sb) (b := a2) (ci := 10) K (fun z => mX10_paradoxes l z e473) dL_law_1246 rfl (fun _ => isO_of z470) rfl ceX10_paradoxes q_1323 q_1324 q_1325 q_85 q_1326 ⟨Nat.le_of_ble_eq_true rfl, Nat.le_of_ble_eq_true rfl⟩ (Nat.le_of_ble_eq_true rfl) ⟨by show cb ≤ 600000; omega, by show sb ≤ 7302249; omega⟩ ?_ rfl rfl rfl rfl
  refine r_icmp_eq (tgt := 1837) K dL_law_1249 (by decide) (fun c474 => ?_) (fun c474 => ?_)
  · replace hf := ite_t hf c474
    refine r_wide (k1 := cb + 15) (n1 := sb + 105) (by omega) (by omega) ?_
    exact hk g472 hf
  · replace hf := ite_f hf c474
    refine r_iconst (v := (0 : Int32)) K dL_law_1252 (by decide) ?_
    exact absurd hf (by decide)
