theorem NO_lit : (-9223372036854775808 : Int64) = NOv := rfl
def A_toll (s : STT) (x : Int32) (v : Int64) : Int64 × STT := match ix x (nM (stN s)) with
  | some r => (match lx v 1000000000 with
    | some w => (lN (nTl (stN s) r), setN s (nT (stN s), nM (stN s), nRd (stN s), (fun q => if q = r then w else nTl (stN s) q), nC (stN s)))
    | none => (-2, s))
  | none => (-1, s)
theorem c_toll {B n : Nat} {I : Nat → Nat → Int32} {L : Nat → Nat → Int64} {Q : Nat → Nat → Option Nat} {R : Nat → RDt} {s : STT} (h : IsC B n I L Q R s) (x : Int32) (v : Int64) : RunC B I L (fX9_toll B x v (MK B n I L Q R)) (A_toll s x v) := by
  obtain ⟨fp, fs, fc, hC, hK, hF⟩ := id h
  have hN := hC.2.1
  have hO := hC.2.2.1
  have hm := hC.2.2.2.1
  have hx := isN1
  unfold A_toll fX9_toll
  rw [g_Wnow, ob1_some, k_Net isN1, gd_true, hasRoad_ix isN1 hN (by omega), ob1_some]
  rcases ix_cases x (m := nM (stN s)) (by omega) with ⟨r, h1, rfl, h3⟩ | ⟨h1, h2⟩
  · rw [h3, if_neg (by rw [bzs_some]; exact id), show (1000000000 : Int64) = lN 1000000000 from rfl, e_isWithin_lx, ob1_some]
    rcases lx_cases v (m := 1000000000) (by decide) with ⟨w, g1, rfl, g3⟩ | ⟨g1, g2⟩
    · rw [g3, if_neg (by rw [bzs_some]; exact id)]
      have hN' : NetIs B n I (u2 L 3 r (lN w)) Q R 1 (nT (stN s), nM (stN s), nRd (stN s), (fun q => if q = r then w else nTl (stN s) q), nC (stN s)) := ⟨hN.1, hN.2.1, hN.2.2.1, hN.2.2.2.1, fun q hq => by
        show _ = lN (if q = r then w else nTl (stN s) q)
        by_cases e : q = r
        · rw [e, u2_eq, if_pos rfl]
        · rw [u2_ne (Or.inr e), if_neg e]; exact hN.2.2.2.2.1 q hq, hN.2.2.2.2.2⟩
      have hO' : NetOK (nT (stN s), nM (stN s), nRd (stN s), (fun q => if q = r then w else nTl (stN s) q), nC (stN s)) := ⟨hO.1, hO.2.1, hO.2.2.1, fun q hq => by
        obtain ⟨a1, a2, a3, a4, a5⟩ := hO.2.2.2.1 q hq
        refine ⟨a1, a2, a3, a4, ?_⟩
        show (if q = r then w else nTl (stN s) q) ≤ _
        split
        · exact g1
        · exact a5, hO.2.2.2.2⟩
      have hC1 := hC.setNow hN' hO' hm (fun _ _ => rfl) (fun a ha => u2_nk ha) (fun _ _ => rfl)
      obtain ⟨I', t1, t2, t3⟩ := done_changed hC1 (hF.same (fun _ _ _ => rfl) (fun x hx => u2_nk (by unfold isS at hx; omega)))
      refine ⟨n, I', u2 L 3 r (lN w), Q, R, ?_, t2, fun a ha => ⟨by rw [t3 a (by omega) (by omega)], u2_nk (by omega)⟩⟩
      have hL := hN.2.2.2.2.1 r h1
      simp (disch := first | assumption | omega) only [ob1_some, ob2_some, bnd_eq, gd_true, oc_none, oc_some, ↓reduceIte, g_Wnow, g_Wkept, g_Wpaths, g_Wsteadies, g_Wsfresh, g_Wcheapest, g_WthoughtNet, g_WthoughtPaths, g_WthoughtSteady, g_Wtape, g_Wtrays, g_Wrows, g_WtoldLoads, g_Wsum, g_WisKept, p_WisKept, g_Wpfresh, p_Wpfresh, g_Wcfresh, p_Wcfresh, k_W, a_sfresh, s_sfresh, a_told, s_told, r_steadies, r_trays, r_rows, k_Net, g_towns, p_towns, g_size, p_size, g_roads, g_tolls, g_crowds, a_tolls, s_tolls, r_crowds, a_crowd, s_crowd, q_roads, w_roads, hL, t1]
    · rw [g1, if_pos (by rw [bzs_none]; trivial)]
      exact RunC.same h rfl
  · rw [h1, if_pos (by rw [bzs_none]; trivial)]
    exact RunC.same h rfl
def A_of (s : STT) (x w : Int32) : Int64 := match ix x (nM (stN s)) with
  | some r => (match ix w 8 with
    | some k => if k = 0 then lN (dFrom (nRd (stN s) r)) else if k = 1 then lN (dTo (nRd (stN s) r)) else if k = 2 then lN (dKind (nRd (stN s) r)) else if k = 3 then lN (dBase (nRd (stN s) r)) else if k = 4 then lN (dSlope (nRd (stN s) r)) else if k = 5 then lN (dSteep (nRd (stN s) r)) else if k = 6 then lN (dKnee (nRd (stN s) r)) else lN (nTl (stN s) r)
    | none => NOv)
  | none => NOv
theorem eqI {a : Nat} {k : Int32} {j : Nat} (hk : k = nI j) (ha : a < 2147483648) (hj : j < 2147483648) : (nI a = k) = (a = j) := by
  rw [hk]
  exact propext (nI_eq (by omega) (by omega))
theorem c_of {B n : Nat} {I : Nat → Nat → Int32} {L : Nat → Nat → Int64} {Q : Nat → Nat → Option Nat} {R : Nat → RDt} {s : STT} (h : IsC B n I L Q R s) (x w : Int32) : fX9_of B x w (MK B n I L Q R) = some (A_of s x w) := by
  obtain ⟨fp, fs, fc, hC, hK, hF⟩ := id h
  have hN := hC.2.1
  have hO := hC.2.2.1
  have hm := hC.2.2.2.1
  have hx := isN1
  unfold A_of fX9_of
  rw [g_Wnow, ob1_some, k_Net isN1, gd_true, hasRoad_ix isN1 hN (by omega), ob1_some, NO_lit]
  rcases ix_cases x (m := nM (stN s)) (by omega) with ⟨r, h1, rfl, h3⟩ | ⟨h1, h2⟩
  · rw [h3, if_neg (by rw [bzs_some]; exact id)]
    have hv := hN.2.2.1 r (by omega)
    have hd := hN.2.2.2.1 r h1
    have hL := hN.2.2.2.2.1 r h1
    have hq1 := q_roads (B := B) (n := n) (I := I) (L := L) (R := R) isN1 (show r < 13 by omega) hv.1
    obtain ⟨⟨k1, k2, k3, k4, k5, k6, k7⟩, _⟩ := hO.2.2.2.1 r h1
    rw [ob1_some, g_roads isN1, ob1_some, hq1, ob1_some]
    rcases ix_cases w (m := 8) (by decide) with ⟨k, j1, rfl, j3⟩ | ⟨j1, j2⟩
    · rw [j3]
      simp only [eqI (show (0 : Int32) = nI 0 from rfl) (show k < 2147483648 by omega) (by decide), eqI (show (1 : Int32) = nI 1 from rfl) (show k < 2147483648 by omega) (by decide), eqI (show (2 : Int32) = nI 2 from rfl) (show k < 2147483648 by omega) (by decide), eqI (show (3 : Int32) = nI 3 from rfl) (show k < 2147483648 by omega) (by decide), eqI (show (4 : Int32) = nI 4 from rfl) (show k < 2147483648 by omega) (by decide), eqI (show (5 : Int32) = nI 5 from rfl) (show k < 2147483648 by omega) (by decide), eqI (show (6 : Int32) = nI 6 from rfl) (show k < 2147483648 by omega) (by decide), eqI (show (7 : Int32) = nI 7 from rfl) (show k < 2147483648 by omega) (by decide)]
      have f0 := rd_from (I := I) (L := L) (Q := Q) (R := R) hv.2
      have f1 := rd_to (I := I) (L := L) (Q := Q) (R := R) hv.2
      have f2 := rd_kind (I := I) (L := L) (Q := Q) (R := R) hv.2
      have f3 := rd_base (I := I) (L := L) (Q := Q) (R := R) hv.2
      have f4 := rd_slope (I := I) (L := L) (Q := Q) (R := R) hv.2
      have f5 := rd_steep (I := I) (L := L) (Q := Q) (R := R) hv.2
      have f6 := rd_knee (I := I) (L := L) (Q := Q) (R := R) hv.2
      rw [hd] at f0 f1 f2 f3 f4 f5 f6
      by_cases e0 : k = 0
      · rw [if_pos e0, if_pos e0, f0, ob1_some]; show some (nI _).toInt64 = _; rw [nI_l (by omega)]
      rw [if_neg e0, if_neg e0]
      by_cases e1 : k = 1
      · rw [if_pos e1, if_pos e1, f1, ob1_some]; show some (nI _).toInt64 = _; rw [nI_l (by omega)]
      rw [if_neg e1, if_neg e1]
      by_cases e2 : k = 2
      · rw [if_pos e2, if_pos e2, f2, ob1_some]; show some (nI _).toInt64 = _; rw [nI_l (by omega)]
      rw [if_neg e2, if_neg e2]
      by_cases e3 : k = 3
      · rw [if_pos e3, if_pos e3, f3, ob1_some]; rfl
      rw [if_neg e3, if_neg e3]
      by_cases e4 : k = 4
      · rw [if_pos e4, if_pos e4, f4, ob1_some]; rfl
      rw [if_neg e4, if_neg e4]
      by_cases e5 : k = 5
      · rw [if_pos e5, if_pos e5, f5, ob1_some]; rfl
      rw [if_neg e5, if_neg e5]
      by_cases e6 : k = 6
      · rw [if_pos e6, if_pos e6, f6, ob1_some]; show some (nI _).toInt64 = _; rw [nI_l (by omega)]
      rw [if_neg e6, if_neg e6, if_pos (show k = 7 by omega)]
      simp (disch := first | assumption | omega) only [ob1_some, ob2_some, bnd_eq, gd_true, oc_none, oc_some, ↓reduceIte, g_Wnow, g_Wkept, g_Wpaths, g_Wsteadies, g_Wsfresh, g_Wcheapest, g_WthoughtNet, g_WthoughtPaths, g_WthoughtSteady, g_Wtape, g_Wtrays, g_Wrows, g_WtoldLoads, g_Wsum, g_WisKept, p_WisKept, g_Wpfresh, p_Wpfresh, g_Wcfresh, p_Wcfresh, k_W, a_sfresh, s_sfresh, a_told, s_told, r_steadies, r_trays, r_rows, k_Net, g_towns, p_towns, g_size, p_size, g_roads, g_tolls, g_crowds, a_tolls, s_tolls, r_crowds, a_crowd, s_crowd, q_roads, w_roads, hL]
    · rw [j1]
      have n : ∀ j, j < 8 → (w = nI j) = False := fun j hj => eq_false (j2 j hj)
      rw [if_neg (by rw [show (0 : Int32) = nI 0 from rfl, n 0 (by decide)]; exact id), if_neg (by rw [show (1 : Int32) = nI 1 from rfl, n 1 (by decide)]; exact id), if_neg (by rw [show (2 : Int32) = nI 2 from rfl, n 2 (by decide)]; exact id), if_neg (by rw [show (3 : Int32) = nI 3 from rfl, n 3 (by decide)]; exact id), if_neg (by rw [show (4 : Int32) = nI 4 from rfl, n 4 (by decide)]; exact id), if_neg (by rw [show (5 : Int32) = nI 5 from rfl, n 5 (by decide)]; exact id), if_neg (by rw [show (6 : Int32) = nI 6 from rfl, n 6 (by decide)]; exact id), if_neg (by rw [show (7 : Int32) = nI 7 from rfl, n 7 (by decide)]; exact id)]
  · rw [h1, if_pos (by rw [bzs_none]; trivial)]
/-- a load to ask for: 1 .. 36 -/
def ixL (x : Int32) : Option Nat := match ix x 37 with
  | some k => if k = 0 then none else some k
  | none => none
theorem ixL_cases (x : Int32) : (∃ j, 1 ≤ j ∧ j ≤ 36 ∧ x = nI j ∧ ixL x = some j ∧ fX9_isLoad x = some 1) ∨ (ixL x = none ∧ fX9_isLoad x = some 0) := by
  have h36 : (36 : Int32) = nI 36 := rfl
  unfold ixL fX9_isLoad
  rcases ix_cases x (m := 37) (by decide) with ⟨j, h1, rfl, h3⟩ | ⟨h1, h2⟩
  · rw [h3]
    by_cases c : j = 0
    · subst c
      exact Or.inr ⟨rfl, rfl⟩
    · refine Or.inl ⟨j, by omega, by omega, rfl, if_neg c, ?_⟩
      rw [if_neg (by rw [show (1 : Int32) = nI 1 from rfl, nI_ltI (by omega) (by omega)]; omega), if_neg (by rw [h36, nI_ltI (by omega) (by omega)]; omega)]
  · rw [h1]
    refine Or.inr ⟨rfl, ?_⟩
    by_cases c : x < 1
    · rw [if_pos c]
    · rw [if_neg c]
      have h0 : ¬ x < 0 := fun e => c (by
        have e1 := Int32.lt_iff_toInt_lt.mp e
        rw [Int32.lt_iff_toInt_lt]
        have : (0 : Int32).toInt = 0 := rfl
        have : (1 : Int32).toInt = 1 := rfl
        omega)
      obtain ⟨j, hj, rfl⟩ := nI_of h0
      refine if_pos ?_
      rw [h36, nI_ltI (by omega) (by omega)]
      refine Nat.lt_of_not_le fun e => h2 j (by omega) rfl
def A_cost (s : STT) (x y w : Int32) : Int64 := match ix x (nM (stN s)) with
  | some r => (match ixL y with
    | some k => (match ix w 2 with
      | some z => if z = 0 then lN (rCost (nRd (stN s) r) k) else lN (rLoss (nRd (stN s) r) k)
      | none => NOv)
    | none => NOv)
  | none => NOv
theorem c_cost {B n : Nat} {I : Nat → Nat → Int32} {L : Nat → Nat → Int64} {Q : Nat → Nat → Option Nat} {R : Nat → RDt} {s : STT} (h : IsC B n I L Q R s) (x y w : Int32) : fX9_cost B x y w (MK B n I L Q R) = some (A_cost s x y w) := by
  obtain ⟨fp, fs, fc, hC, hK, hF⟩ := id h
  have hN := hC.2.1
  have hO := hC.2.2.1
  have hm := hC.2.2.2.1
  have hx := isN1
  unfold A_cost fX9_cost
  rw [g_Wnow, ob1_some, k_Net isN1, gd_true, hasRoad_ix isN1 hN (by omega), ob1_some, NO_lit]
  rcases ix_cases x (m := nM (stN s)) (by omega) with ⟨r, h1, rfl, h3⟩ | ⟨h1, h2⟩
  · rw [h3, if_neg (by rw [bzs_some]; exact id)]
    have hv := hN.2.2.1 r (by omega)
    have hd := hN.2.2.2.1 r h1
    have hq1 := q_roads (B := B) (n := n) (I := I) (L := L) (R := R) isN1 (show r < 13 by omega) hv.1
    have hck := rd_ck (I := I) (L := L) (Q := Q) (R := R) hv.2
    have hk := (hO.2.2.2.1 r h1).1
    rcases ixL_cases y with ⟨k, a1, a2, rfl, a3, a4⟩ | ⟨a3, a4⟩
    · rw [a3, a4, ob1_some, if_neg (by decide), show (2 : Int32) = nI 2 from rfl, e_isOneOf_ix, ob1_some]
      have c1 := e_costAt (I := I) (L := L) (Q := Q) (x := k) hv.2 hd hk (by omega)
      have c2 := e_lossAt (I := I) (L := L) (Q := Q) (x := k) hv.2 hd hk (by omega) a1
      rcases ix_cases w (m := 2) (by decide) with ⟨z, j1, rfl, j3⟩ | ⟨j1, j2⟩
      · rw [j3, if_neg (by rw [bzs_some]; exact id)]
        by_cases e : z = 0
        · subst e
          rw [if_pos (show nI 0 = (0 : Int32) from rfl)]
          simp (disch := first | assumption | omega) only [ob1_some, ob2_some, bnd_eq, gd_true, oc_none, oc_some, ↓reduceIte, g_Wnow, g_Wkept, g_Wpaths, g_Wsteadies, g_Wsfresh, g_Wcheapest, g_WthoughtNet, g_WthoughtPaths, g_WthoughtSteady, g_Wtape, g_Wtrays, g_Wrows, g_WtoldLoads, g_Wsum, g_WisKept, p_WisKept, g_Wpfresh, p_Wpfresh, g_Wcfresh, p_Wcfresh, k_W, a_sfresh, s_sfresh, a_told, s_told, r_steadies, r_trays, r_rows, k_Net, g_towns, p_towns, g_size, p_size, g_roads, g_tolls, g_crowds, a_tolls, s_tolls, r_crowds, a_crowd, s_crowd, q_roads, w_roads, hq1, hck, c1]
        · rw [if_neg (by rw [show (0 : Int32) = nI 0 from rfl, nI_eq (by omega) (by omega)]; exact e)]
          have : z = 1 := by omega
          subst this
          simp (disch := first | assumption | omega) only [ob1_some, ob2_some, bnd_eq, gd_true, oc_none, oc_some, ↓reduceIte, g_Wnow, g_Wkept, g_Wpaths, g_Wsteadies, g_Wsfresh, g_Wcheapest, g_WthoughtNet, g_WthoughtPaths, g_WthoughtSteady, g_Wtape, g_Wtrays, g_Wrows, g_WtoldLoads, g_Wsum, g_WisKept, p_WisKept, g_Wpfresh, p_Wpfresh, g_Wcfresh, p_Wcfresh, k_W, a_sfresh, s_sfresh, a_told, s_told, r_steadies, r_trays, r_rows, k_Net, g_towns, p_towns, g_size, p_size, g_roads, g_tolls, g_crowds, a_tolls, s_tolls, r_crowds, a_crowd, s_crowd, q_roads, w_roads, hq1, hck, c2]
          rfl
      · rw [j1, if_pos (by rw [bzs_none]; trivial)]
    · rw [a3, a4, ob1_some, if_pos rfl]
  · rw [h1, if_pos (by rw [bzs_none]; trivial)]
