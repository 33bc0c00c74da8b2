theorem lNz {a : Nat} (h : a < 9223372036854775808) : (lN a = (0 : Int64)) = (a = 0) := by rw [L0]; exact propext (pk_lEQ (by omega) (by decide))
theorem lN_NO {a : Nat} (h : a < 9223372036854775808) : (lN a = NOv) = False := eq_false fun e => by
  have h1 := congrArg Int64.toInt e
  rw [pk_lT (by omega)] at h1
  have h2 : NOv.toInt = -9223372036854775808 := rfl
  omega
/-! tolls: fixed, free -/
def newTolls (N : NET) (f : Nat → Nat) : NET := (nT N, nM N, nRd N, f, nC N)
def dueT (N : NET) (r : Nat) : Nat := min 1000000000 (rLoss (nRd N r) ((stF N 2 (rowsN N)).1.1 r))
def difN (f g : Nat → Nat) (k : Nat) : Nat := sumN k fun r => if f r = g r then 0 else 1
def mixT (f g : Nat → Nat) (k r : Nat) : Nat := if r < k then g r else f r
theorem newTolls_ok {N : NET} {f : Nat → Nat} (hO : NetOK N) (hf : ∀ r, r < nM N → f r ≤ 1000000000) : NetOK (newTolls N f) := ⟨hO.1, hO.2.1, hO.2.2.1, fun r hr => by
  obtain ⟨a1, a2, a3, a4, a5⟩ := hO.2.2.2.1 r hr
  exact ⟨a1, a2, a3, a4, hf r hr⟩, hO.2.2.2.2⟩
theorem NetIs.tolls {B n : Nat} {I : Nat → Nat → Int32} {L : Nat → Nat → Int64} {Q : Nat → Nat → Option Nat} {R : Nat → RDt} {L' : Nat → Nat → Int64} {N : NET} {f : Nat → Nat} (h : NetIs B n I L Q R 1 N) (hf : ∀ r, r < nM N → L' 3 r = lN (f r)) : NetIs B n I L' Q R 1 (newTolls N f) := ⟨h.1, h.2.1, h.2.2.1, h.2.2.2.1, hf, h.2.2.2.2.2⟩
def A_free (s : STT) : Int32 × STT := (nI (difN (nTl (stN s)) (fun _ => 0) (nM (stN s))), setN s (newTolls (stN s) fun _ => 0))
theorem e_free_L4 {B n : Nat} {I : Nat → Nat → Int32} {La : Nat → Nat → Int64} {Q : Nat → Nat → Option Nat} {R : Nat → RDt} {N : NET} (hM : I 1 1 = nI (nM N)) (hm : nM N ≤ 12) (hT : ∀ r, r < nM N → La 3 r = lN (nTl N r)) (hb : ∀ r, r < nM N → nTl N r ≤ 1000000000) (k : Int32 → AH → Option (Int32 × AH)) :
    ∀ (m n' c : Nat) (L : Nat → Nat → Int64), c + m = nM N → m < n' → (∀ a, a ≠ 3 → L a = La a) → (∀ r, r < nM N → L 3 r = lN (mixT (nTl N) (fun _ => 0) c r)) →
    ∃ L' : Nat → Nat → Int64, fX9_free_L4 B k n' (nI (difN (nTl N) (fun _ => 0) c)) (nI c) (MK B n I L Q R) = k (nI (difN (nTl N) (fun _ => 0) (nM N))) (MK B n I L' Q R) ∧ (∀ a, a ≠ 3 → L' a = La a) ∧ (∀ r, r < nM N → L' 3 r = lN 0) := by
  intro m
  induction m with
  | zero =>
    intro n' c L hc hn hF hV
    obtain ⟨n1, rfl⟩ := suc_of hn
    refine ⟨L, ?_, hF, fun r hr => by rw [hV r hr, mixT, if_pos (by omega)]⟩
    rw [fX9_free_L4, g_Wnow, ob1_some, g_size isN1, ob1_some, hM, if_pos (by rw [nI_leI (by omega) (by omega)]; omega), show c = nM N by omega]
  | succ m ih =>
    intro n' c L hc hn hF hV
    obtain ⟨n1, rfl⟩ := suc_of hn
    have hv := hV c (by omega)
    rw [mixT, if_neg (by omega)] at hv
    have hbc := hb c (by omega)
    have hx := isN1
    have hd : difN (nTl N) (fun _ => 0) (c + 1) = difN (nTl N) (fun _ => 0) c + (if nTl N c = 0 then 0 else 1) := rfl
    rw [fX9_free_L4, g_Wnow, ob1_some, g_size isN1, ob1_some, hM, if_neg (by rw [nI_leI (by omega) (by omega)]; omega), ob1_some, g_tolls isN1, ob1_some, a_tolls isN1 (by omega), ob1_some, hv]
    by_cases e : nTl N c = 0
    · obtain ⟨L', r1, r2⟩ := ih n1 (c + 1) L (by omega) (by omega) hF (fun r hr => by
        rw [hV r hr]
        unfold mixT
        by_cases q : r = c
        · rw [q, if_neg (by omega), if_pos (by omega), e]
        · by_cases g : r < c
          · rw [if_pos g, if_pos (by omega)]
          · rw [if_neg g, if_neg (by omega)])
      refine ⟨L', ?_, r2⟩
      rw [hd, if_pos e, Nat.add_zero] at r1
      rw [e, if_pos (show lN 0 = (0 : Int64) from rfl), bnd_eq, nI_1]
      exact r1
    · obtain ⟨L', r1, r2⟩ := ih n1 (c + 1) (u2 L 3 c (lN 0)) (by omega) (by omega) (fun a ha => by rw [u2_nk ha]; exact hF a ha) (fun r hr => by
        unfold mixT
        by_cases q : r = c
        · rw [q, u2_eq, if_pos (by omega)]
        · rw [u2_ne (Or.inr q), hV r hr]
          unfold mixT
          by_cases g : r < c
          · rw [if_pos g, if_pos (by omega)]
          · rw [if_neg g, if_neg (by omega)])
      refine ⟨L', ?_, r2⟩
      rw [hd, if_neg e] at r1
      have z : (lN (nTl N c) = (0 : Int64)) = False := by rw [lNz (by omega)]; exact eq_false e
      have r1' : fX9_free_L4 B k n1 (nI (difN (nTl N) (fun _ => 0) c + 1)) (nI (c + 1)) (MK B n I (u2 L 3 c 0) Q R) = k (nI (difN (nTl N) (fun _ => 0) (nM N))) (MK B n I L' Q R) := r1
      simp (disch := first | assumption | omega) only [ob1_some, ob2_some, bnd_eq, gd_true, oc_none, oc_some, ↓reduceIte, g_Wnow, g_Wkept, g_Wpaths, g_Wsteadies, g_Wsfresh, g_Wcheapest, g_WthoughtNet, g_WthoughtPaths, g_WthoughtSteady, g_Wtape, g_Wtrays, g_Wrows, g_WtoldLoads, g_Wsum, g_WisKept, p_WisKept, g_Wpfresh, p_Wpfresh, g_Wcfresh, p_Wcfresh, k_W, a_sfresh, s_sfresh, a_told, s_told, r_steadies, r_trays, r_rows, k_Net, g_towns, p_towns, g_size, p_size, g_roads, g_tolls, g_crowds, a_tolls, s_tolls, r_crowds, a_crowd, s_crowd, q_roads, w_roads, z, if_false, nI_1]
      exact r1'
theorem c_free {B n : Nat} {I : Nat → Nat → Int32} {L : Nat → Nat → Int64} {Q : Nat → Nat → Option Nat} {R : Nat → RDt} {s : STT} (h : IsC B n I L Q R s) : RunC B I L (fX9_free B (MK B n I L Q R)) (A_free s) := by
  obtain ⟨fp, fs, fc, hC, hK, hF⟩ := id h
  have hN := hC.2.1
  have hO := hC.2.2.1
  have hm := hC.2.2.2.1
  obtain ⟨L', r1, r2, r3⟩ := e_free_L4 (B := B) (n := n) (Q := Q) (R := R) hN.2.1 hm hN.2.2.2.2.1 (fun r hr => (hO.2.2.2.1 r hr).2.2.2.2) (fun (y22 : Int32) (g23 : AH) =>
    ob1 (fX9_changed B g23) fun g24 =>
    some (y22, g24)) (nM (stN s)) lf 0 L (by omega) (by show _ < 1000; omega) (fun _ _ => rfl) (fun r hr => by rw [mixT, if_neg (by omega)]; exact hN.2.2.2.2.1 r hr)
  have hC1 := hC.setNow (hN.tolls r3) (newTolls_ok hO (fun _ _ => Nat.zero_le _)) hm (fun _ _ => rfl) r2 (fun _ _ => rfl)
  obtain ⟨I', t1, t2, t3⟩ := done_changed hC1 (hF.same (fun _ _ _ => rfl) (fun x hx => r2 _ (by unfold isS at hx; omega)))
  refine ⟨n, I', L', Q, R, ?_, t2, fun a ha => ⟨t3 a (by omega) (by omega), r2 a (by omega)⟩⟩
  unfold fX9_free
  refine Eq.trans r1 ?_
  rw [t1, ob1_some]
  rfl
def A_fix (s : STT) : Int32 × STT := if canAll (stN s) (rowsN (stN s)) = true then (nI (difN (nTl (stN s)) (dueT (stN s)) (nM (stN s))), setN s (newTolls (stN s) (dueT (stN s)))) else (-3, s)
theorem e_min {a b : Nat} (ha : a < 9223372036854775808) (hb : b < 9223372036854775808) : fJ9_min_f86c9 (lN a) (lN b) = some (lN (min a b)) := by
  unfold fJ9_min_f86c9
  by_cases h : b < a
  · rw [if_pos (by rw [pk_lLT (by omega) (by omega)]; exact h), show min a b = b by omega]
  · rw [if_neg (by rw [pk_lLT (by omega) (by omega)]; exact h), show min a b = a by omega]
theorem e_fix_L20 {B n : Nat} {I : Nat → Nat → Int32} {La : Nat → Nat → Int64} {Q : Nat → Nat → Option Nat} {R : Nat → RDt} {N : NET} {x : Nat} (hx : isS x) (hN : NetIs B n I La Q R 1 N) (hO : NetOK N) (hm : nM N ≤ 12) {rd : Nat → Nat → Nat} (hl : LoadsIs I x (stF N 2 (rowsN N)).1.1 rd) (hld : ∀ q, (stF N 2 (rowsN N)).1.1 q ≤ 36) (k : Int32 → AH → Option (Int32 × AH)) :
    ∀ (m n' c : Nat) (L : Nat → Nat → Int64), c + m = nM N → m < n' → (∀ a, a ≠ 3 → L a = La a) → (∀ r, r < nM N → L 3 r = lN (mixT (nTl N) (dueT N) c r)) →
    ∃ L' : Nat → Nat → Int64, fX9_fix_L20 B (B + x) k n' (nI (difN (nTl N) (dueT N) c)) (nI c) (MK B n I L Q R) = k (nI (difN (nTl N) (dueT N) (nM N))) (MK B n I L' Q R) ∧ (∀ a, a ≠ 3 → L' a = La a) ∧ (∀ r, r < nM N → L' 3 r = lN (dueT N r)) := by
  have hM := hN.2.1
  intro m
  induction m with
  | zero =>
    intro n' c L hc hn hF hV
    obtain ⟨n1, rfl⟩ := suc_of hn
    refine ⟨L, ?_, hF, fun r hr => by rw [hV r hr, mixT, if_pos (by omega)]⟩
    rw [fX9_fix_L20, g_Wnow, ob1_some, g_size isN1, ob1_some, hM, if_pos (by rw [nI_leI (by omega) (by omega)]; omega), show c = nM N by omega]
  | succ m ih =>
    intro n' c L hc hn hF hV
    obtain ⟨n1, rfl⟩ := suc_of hn
    have hv := hV c (by omega)
    rw [mixT, if_neg (by omega)] at hv
    have hrd := hO.2.2.2.1 c (by omega)
    have hbc := hrd.2.2.2.2
    have hx1 := isN1
    have hlq := hl.1 c (by omega)
    have hlc := hld c
    have hvq := hN.2.2.1 c (by omega)
    have hd := hN.2.2.2.1 c (by omega)
    have hq1 := q_roads (B := B) (n := n) (I := I) (L := L) (R := R) isN1 (show c < 13 by omega) hvq.1
    have hck := rd_ck (I := I) (L := L) (Q := Q) (R := R) hvq.2
    have hdif : difN (nTl N) (dueT N) (c + 1) = difN (nTl N) (dueT N) c + (if nTl N c = dueT N c then 0 else 1) := rfl
    have hdue : dueT N c ≤ 1000000000 := by unfold dueT; omega
    have hmix : ∀ r, r ≠ c → mixT (nTl N) (dueT N) c r = mixT (nTl N) (dueT N) (c + 1) r := fun r q => by
      unfold mixT
      by_cases g : r < c
      · rw [if_pos g, if_pos (by omega)]
      · rw [if_neg g, if_neg (by omega)]
    have hstep : ∃ L' : Nat → Nat → Int64, (ob1 (gR (MK B n I L Q R) B 9 0) fun b16 =>
        ob1 (gR (MK B n I L Q R) b16 1 3) fun b18 =>
        ob1 (aL (MK B n I L Q R) b18 (nI c)) fun v20 =>
        if v20 = lN (dueT N c) then
          bnd (nI c + (1 : Int32)) fun y22 =>
          fX9_fix_L20 B (B + x) k n1 (nI (difN (nTl N) (dueT N) c)) y22 (MK B n I L Q R)
        else
          ob1 (gR (MK B n I L Q R) B 9 0) fun b23 =>
          ob1 (gR (MK B n I L Q R) b23 1 3) fun b25 =>
          ob1 (sL (MK B n I L Q R) b25 (nI c) (lN (dueT N c))) fun g27 =>
          bnd (nI (difN (nTl N) (dueT N) c) + (1 : Int32)) fun y29 =>
          bnd (nI c + (1 : Int32)) fun y30 =>
          fX9_fix_L20 B (B + x) k n1 y29 y30 g27) = k (nI (difN (nTl N) (dueT N) (nM N))) (MK B n I L' Q R) ∧ (∀ a, a ≠ 3 → L' a = La a) ∧ (∀ r, r < nM N → L' 3 r = lN (dueT N r)) := by
      have z : (lN (nTl N c) = lN (dueT N c)) = (nTl N c = dueT N c) := propext (pk_lEQ (by omega) (by omega))
      by_cases e : nTl N c = dueT N c
      · obtain ⟨L', r1, r2⟩ := ih n1 (c + 1) L (by omega) (by omega) hF (fun r hr => by
          rw [hV r hr]
          by_cases q : r = c
          · rw [q]; unfold mixT; rw [if_neg (by omega), if_pos (by omega), e]
          · rw [hmix r q])
        refine ⟨L', ?_, r2⟩
        rw [hdif, if_pos e, Nat.add_zero] at r1
        simp (disch := first | assumption | omega) only [ob1_some, ob2_some, bnd_eq, gd_true, oc_none, oc_some, ↓reduceIte, g_Wnow, g_Wkept, g_Wpaths, g_Wsteadies, g_Wsfresh, g_Wcheapest, g_WthoughtNet, g_WthoughtPaths, g_WthoughtSteady, g_Wtape, g_Wtrays, g_Wrows, g_WtoldLoads, g_Wsum, g_WisKept, p_WisKept, g_Wpfresh, p_Wpfresh, g_Wcfresh, p_Wcfresh, k_W, a_sfresh, s_sfresh, a_told, s_told, r_steadies, r_trays, r_rows, k_Net, g_towns, p_towns, g_size, p_size, g_roads, g_tolls, g_crowds, a_tolls, s_tolls, r_crowds, a_crowd, s_crowd, q_roads, w_roads, hv, z, e, if_true, nI_1]
        exact r1
      · obtain ⟨L', r1, r2⟩ := ih n1 (c + 1) (u2 L 3 c (lN (dueT N c))) (by omega) (by omega) (fun a ha => by rw [u2_nk ha]; exact hF a ha) (fun r hr => by
          by_cases q : r = c
          · rw [q, u2_eq]; unfold mixT; rw [if_pos (by omega)]
          · rw [u2_ne (Or.inr q), hV r hr, hmix r q])
        refine ⟨L', ?_, r2⟩
        rw [hdif, if_neg e] at r1
        simp (disch := first | assumption | omega) only [ob1_some, ob2_some, bnd_eq, gd_true, oc_none, oc_some, ↓reduceIte, g_Wnow, g_Wkept, g_Wpaths, g_Wsteadies, g_Wsfresh, g_Wcheapest, g_WthoughtNet, g_WthoughtPaths, g_WthoughtSteady, g_Wtape, g_Wtrays, g_Wrows, g_WtoldLoads, g_Wsum, g_WisKept, p_WisKept, g_Wpfresh, p_Wpfresh, g_Wcfresh, p_Wcfresh, k_W, a_sfresh, s_sfresh, a_told, s_told, r_steadies, r_trays, r_rows, k_Net, g_towns, p_towns, g_size, p_size, g_roads, g_tolls, g_crowds, a_tolls, s_tolls, r_crowds, a_crowd, s_crowd, q_roads, w_roads, hv, z, e, if_false, nI_1]
        exact r1
    obtain ⟨L', r1, r2⟩ := hstep
    rw [g_Wnow] at r1
    refine ⟨L', ?_, r2⟩
    rw [fX9_fix_L20, g_Wnow, ob1_some, g_size isN1, ob1_some, hM, if_neg (by rw [nI_leI (by omega) (by omega)]; omega), g_loads hx, ob1_some, a_loads hx (by omega), ob1_some, hlq, bnd_eq]
    by_cases g : (stF N 2 (rowsN N)).1.1 c = 0
    · have e0 : dueT N c = 0 := by
        unfold dueT rLoss
        rw [g]
        simp
      rw [e0] at r1
      rw [if_pos (by rw [g]; decide)]
      exact r1
    · have hlo := e_lossAt (I := I) (L := L) (Q := Q) (x := (stF N 2 (rowsN N)).1.1 c) hvq.2 hd hrd.1 (by omega) (by omega)
      have hll := rLoss_le hO (show c < nM N by omega) (show (stF N 2 (rowsN N)).1.1 c ≤ 37 by omega)
      rw [if_neg (by rw [l0, nI_leI (by omega) (by omega)]; omega), ob1_some, g_roads isN1, ob1_some, hq1, ob1_some, hck, gd_true, hlo, ob1_some, show (1000000000 : Int64) = lN 1000000000 from rfl, e_min (by decide) (by omega), ob1_some]
      exact r1
theorem c_fix {B n : Nat} {I : Nat → Nat → Int32} {L : Nat → Nat → Int64} {Q : Nat → Nat → Option Nat} {R : Nat → RDt} {s : STT} (h : IsC B n I L Q R s) : RunC B I L (fX9_fix B (MK B n I L Q R)) (A_fix s) := by
  obtain ⟨fp, fs, fc, h0⟩ := id h
  obtain ⟨I1, L1, fs', r1, r2, r3, r4, r5⟩ := e_steadyOf (m := 2) h0 (by decide)
  obtain ⟨hC, ⟨c1, c2, c3, c4, c5, c6⟩, hF⟩ := id r2
  obtain ⟨s1, s2⟩ := (c5 2 (by decide) r3).2
  have hx : isS 84 := Or.inr (Or.inr (Or.inr rfl))
  have r1 : fX9_steadyOf B 2 (MK B n I L Q R) = some (B + 84, MK B n I1 L1 Q R) := r1
  have s1 : I1 84 3 = bz (canAll (stN s) (rowsN (stN s))) := s1
  have hN := hC.2.1
  have hO := hC.2.2.1
  have hm := hC.2.2.2.1
  unfold fX9_fix A_fix
  rw [r1, ob2_some, g_stands hx, ob1_some, s1]
  cases hc : canAll (stN s) (rowsN (stN s)) with
  | false => exact RunC.rep r2 (fun a ha => r5 a (by omega)) rfl
  | true =>
    obtain ⟨t1, t2, t3, t4⟩ := s2 hc
    have hd3 := nD_le hO 3 (by omega)
    have hld : ∀ q, (stF (stN s) 2 (rowsN (stN s))).1.1 q ≤ 36 := fun q => Nat.le_trans (t4.le q) (by omega)
    rw [if_neg (by decide), if_pos rfl]
    obtain ⟨L', u1, u2', u3⟩ := e_fix_L20 hx hN hO hm t1 hld (fun (y45 : Int32) (g46 : AH) =>
      ob1 (fX9_changed B g46) fun g47 =>
      some (y45, g47)) (nM (stN s)) lf 0 L1 (by omega) (by show _ < 1000; omega) (fun _ _ => rfl) (fun r hr => by rw [mixT, if_neg (by omega)]; exact hN.2.2.2.2.1 r hr)
    have hC1 := hC.setNow (hN.tolls u3) (newTolls_ok hO (fun r _ => by unfold dueT; omega)) hm (fun _ _ => rfl) u2' (fun _ _ => rfl)
    obtain ⟨I', w1, w2, w3⟩ := done_changed hC1 (hF.same (fun _ _ _ => rfl) (fun x hx => u2' _ (by unfold isS at hx; omega)))
    refine ⟨n, I', L', Q, R, ?_, w2, fun a ha => ⟨by rw [w3 a (by omega) (by omega), (r5 a (by omega)).1], by rw [u2' a (by omega), (r5 a (by omega)).2]⟩⟩
    refine Eq.trans u1 ?_
    rw [w1, ob1_some]
