theorem relax_bnd {N : NET} {fl : Nat → Nat} {π : Nat → Int} {s : BFS} {rk : Nat → Nat} (hf : Feas N fl π) (hc : Chain N fl π s rk) (hu : Up s) : Bnd s := by
  intro t d h
  have h1 := (hc.2.1 t d h).1
  have h2 := hf.2.1 t
  have h3 := hu.1 t d h
  have h4 := metN_le s
  have hLB : LB = 114600000000000000 := rfl
  have h5 : (metN s : Int) * LB ≤ 6 * LB := by rw [hLB]; omega
  rw [hLB] at h3 h5 ⊢
  omega
/-- what holds of all that rounds make -/
def BI (N : NET) (fl : Nat → Nat) (π : Nat → Int) (s : BFS) : Prop := (∃ rk, Chain N fl π s rk) ∧ Up s
theorem BI.relax {N : NET} {fl : Nat → Nat} {π : Nat → Int} {s : BFS} (hO : NetOK N) (hf : Feas N fl π) (hw : OnR N fl) (hb : ∀ r, r < nM N → fl r ≤ 36) (h : BI N fl π s) {u v r : Nat} {l : Int} (he : Edge N fl u v r l) : BI N fl π (relax s u v r l) := by
  obtain ⟨⟨rk, hc⟩, hu⟩ := h
  exact ⟨hc.relax hf hw hu.2 he, hu.relax hO hb he⟩
theorem BI.bnd {N : NET} {fl : Nat → Nat} {π : Nat → Int} {s : BFS} (hf : Feas N fl π) (h : BI N fl π s) : Bnd s := by
  obtain ⟨⟨rk, hc⟩, hu⟩ := h
  exact relax_bnd hf hc hu
/-- the setting of a search for nearest ways -/
def Env0 (B n : Nat) (I : Nat → Nat → Int32) (L : Nat → Nat → Int64) (Q : Nat → Nat → Option Nat) (R : Nat → RDt) (y : Nat) (N : NET) (fl : Nat → Nat) : Prop := isN y ∧ NetIs B n I L Q R y N ∧ NetOK N ∧ (∀ q, q < 13 → I 28 q = nI (fl q)) ∧ ∀ q, q < nM N → fl q ≤ 35
theorem isN_C {y : Nat} (h : isN y) : y + 7 ≤ 26 ∨ 33 ≤ y := by unfold isN at h; omega
theorem Env0.fr {B n : Nat} {I : Nat → Nat → Int32} {L : Nat → Nat → Int64} {Q : Nat → Nat → Option Nat} {R : Nat → RDt} {I' : Nat → Nat → Int32} {L' : Nat → Nat → Int64} {y : Nat} {N : NET} {fl : Nat → Nat} (h : Env0 B n I L Q R y N fl) (hf : CFr I I' L L') : Env0 B n I' L' Q R y N fl := by
  obtain ⟨h1, h2, h3, h4, h5⟩ := h
  have hap := isN_C h1
  exact ⟨h1, h2.same (fun k g1 g2 => hf.1 k (by omega) (by omega) (by omega)) (hf.2 _ (by omega)), h3, fun q hq => by rw [hf.1 28 (by decide) (by decide) (by decide)]; exact h4 q hq, h5⟩
theorem e_reach {B n : Nat} {I : Nat → Nat → Int32} {L : Nat → Nat → Int64} {Q : Nat → Nat → Option Nat} {R : Nat → RDt} {y q : Nat} {N : NET} {fl : Nat → Nat} {π : Nat → Int} {s : BFS} (hE : Env0 B n I L Q R y N fl) (hq : q < nM N) (hf : Feas N fl π) (hw : OnR N fl) (hi : BI N fl π s) (hc : CB I L N s) :
    ∃ (I' : Nat → Nat → Int32) (L' : Nat → Nat → Int64) (b : Bool), fX0_reach (B + 26) (B + y) (nI q) (MK B n I L Q R) = some (bz b, MK B n I' L' Q R) ∧ CB I' L' N (relaxR N fl s q) ∧ CFr I I' L L' ∧ BI N fl π (relaxR N fl s q) ∧ (b = false → relaxR N fl s q = s) := by
  obtain ⟨h1, h2, h3, h4, h5⟩ := id hE
  have h13 := h3.2.2.1
  have hrd := h3.2.2.2.1 q hq
  obtain ⟨⟨k1, k2, k3, k4, k5, k6, k7⟩, kf, kt, kne, ktl⟩ := id hrd
  have hb36 : ∀ r, r < nM N → fl r ≤ 36 := fun r hr => by have := h5 r hr; omega
  have hfq := h5 q hq
  have hv := h2.2.2.1 q (by omega)
  have hd := h2.2.2.2.1 q hq
  have hq1 := q_roads (B := B) (n := n) (I := I) (L := L) (R := R) h1 (show q < 13 by omega) hv.1
  have e1 : Edge N fl (dFrom (nRd N q)) (dTo (nRd N q)) q (upN N q (fl q) : Int) := ⟨hq, Or.inl ⟨rfl, rfl, rfl⟩⟩
  have p1 : prevT N (dTo (nRd N q)) q = dFrom (nRd N q) := if_pos rfl
  have p2 : prevT N (dFrom (nRd N q)) q = dTo (nRd N q) := if_neg (fun e => kne e.symm)
  obtain ⟨I1, L1, r1, r2, r3⟩ := e_come (B := B) (n := n) (Q := Q) (R := R) (r := q) hc (hi.bnd hf) (edge_le h3 hb36 e1) k6 k7 p1
  have hi1 := hi.relax h3 hf hw hb36 e1
  have hE1 := hE.fr r3
  have ck1 := rd_ck (I := I) (L := L) (Q := Q) (R := R) hv.2
  have fr1 := rd_from (I := I) (L := L) (Q := Q) (R := R) hv.2
  have to1 := rd_to (I := I) (L := L) (Q := Q) (R := R) hv.2
  have c1 := e_costAt (I := I) (L := L) (Q := Q) (x := fl q + 1) hv.2 hd hrd.1 (by omega)
  have c2 := e_lossAt (I := I) (L := L) (Q := Q) (x := fl q + 1) hv.2 hd hrd.1 (by omega) (by omega)
  have hup : lN (rCost (nRd N q) (fl q + 1)) + lN (rLoss (nRd N q) (fl q + 1)) = lZ (upN N q (fl q) : Int) := by rw [lN_add, lZ_nat]; rfl
  have hld := h4 q (by omega)
  rw [hd] at fr1 to1
  have fr2 : gI (MK B n I L Q R) (adr Q y q) 3 0 = some (nI (dFrom (nRd N q))) := fr1
  have to2 : gI (MK B n I L Q R) (adr Q y q) 3 1 = some (nI (dTo (nRd N q))) := to1
  unfold fX0_reach relaxR
  by_cases h0 : fl q = 0
  · rw [if_neg (by omega)]
    refine ⟨I1, L1, (betterB s (dFrom (nRd N q)) (dTo (nRd N q)) (upN N q (fl q) : Int)).isSome, ?_, r2, r3, hi1, fun hb => ?_⟩
    · have z0 : (nI (fl q) ≤ (0 : Int32)) = True := by rw [h0]; exact eq_true (by decide)
      simp (disch := first | assumption | omega) only [ob1_some, ob2_some, bnd_eq, gd_true, oc_none, oc_some, ↓reduceIte, k_Net, g_towns, p_towns, g_size, p_size, g_roads, g_tolls, g_crowds, a_tolls, s_tolls, r_crowds, a_crowd, s_crowd, q_roads, w_roads, k_Cheapest, g_csum, g_cloads, g_isMet, g_far, g_cameFrom, g_cameBy, a_cloads, s_cloads, n_cloads, a_isMet, s_isMet, a_far, s_far, a_cameFrom, s_cameFrom, a_cameBy, s_cameBy, hq1, hld, fr2, to2, ck1, nI_1, c1, c2, hup, r1, z0, if_true, bz_zb]
    · refine relax_no ?_
      cases hx : betterB s (dFrom (nRd N q)) (dTo (nRd N q)) (upN N q (fl q) : Int) with
      | none => rfl
      | some d => rw [hx] at hb; cases hb
  · rw [if_pos (by omega)]
    have e2 : Edge N fl (dTo (nRd N q)) (dFrom (nRd N q)) q (-(dnN N q (fl q) : Int)) := ⟨hq, Or.inr ⟨by omega, rfl, rfl, rfl⟩⟩
    obtain ⟨I2, L2, s1, s2, s3⟩ := e_come (B := B) (n := n) (Q := Q) (R := R) (r := q) r2 (hi1.bnd hf) (edge_le h3 hb36 e2) k7 k6 p2
    refine ⟨I2, L2, (betterB s (dFrom (nRd N q)) (dTo (nRd N q)) (upN N q (fl q) : Int)).isSome || (betterB (relax s (dFrom (nRd N q)) (dTo (nRd N q)) q (upN N q (fl q) : Int)) (dTo (nRd N q)) (dFrom (nRd N q)) (-(dnN N q (fl q) : Int))).isSome, ?_, s2, r3.tr s3, hi1.relax h3 hf hw hb36 e2, fun hb => ?_⟩
    · have z0 : (nI (fl q) ≤ (0 : Int32)) = False := eq_false (by rw [l0, nI_leI (by omega) (by omega)]; omega)
      have ck2 := rd_ck (I := I1) (L := L1) (Q := Q) (R := R) hv.2
      have c3 := e_costAt (I := I1) (L := L1) (Q := Q) (x := fl q) hv.2 hd hrd.1 (by omega)
      have c4 := e_lossAt (I := I1) (L := L1) (Q := Q) (x := fl q) hv.2 hd hrd.1 (by omega) (by omega)
      have fr3 : gI (MK B n I1 L1 Q R) (adr Q y q) 3 0 = some (nI (dFrom (nRd N q))) := by rw [rd_from hv.2, hd]; rfl
      have to3 : gI (MK B n I1 L1 Q R) (adr Q y q) 3 1 = some (nI (dTo (nRd N q))) := by rw [rd_to hv.2, hd]; rfl
      have hdn : (-lN (rCost (nRd N q) (fl q))) - lN (rLoss (nRd N q) (fl q)) = lZ (-(dnN N q (fl q) : Int)) := lZ_dn _ _
      simp (disch := first | assumption | omega) only [ob1_some, ob2_some, bnd_eq, gd_true, oc_none, oc_some, ↓reduceIte, k_Net, g_towns, p_towns, g_size, p_size, g_roads, g_tolls, g_crowds, a_tolls, s_tolls, r_crowds, a_crowd, s_crowd, q_roads, w_roads, k_Cheapest, g_csum, g_cloads, g_isMet, g_far, g_cameFrom, g_cameBy, a_cloads, s_cloads, n_cloads, a_isMet, s_isMet, a_far, s_far, a_cameFrom, s_cameFrom, a_cameBy, s_cameBy, hq1, hld, fr2, to2, ck1, nI_1, c1, c2, hup, r1, z0, if_false, bz_zb, fr3, to3, ck2, c3, c4, hdn, s1, bz_or]
    · rw [Bool.or_eq_false_iff] at hb
      have n1 : betterB s (dFrom (nRd N q)) (dTo (nRd N q)) (upN N q (fl q) : Int) = none := by
        cases hx : betterB s (dFrom (nRd N q)) (dTo (nRd N q)) (upN N q (fl q) : Int) with
        | none => rfl
        | some d => rw [hx] at hb; cases hb.1
      rw [relax_no n1] at hb ⊢
      refine relax_no ?_
      cases hx : betterB s (dTo (nRd N q)) (dFrom (nRd N q)) (-(dnN N q (fl q) : Int)) with
      | none => rfl
      | some d => rw [hx] at hb; cases hb.2
theorem e_measure_L55 {B n : Nat} {Q : Nat → Nat → Option Nat} {R : Nat → RDt} {y : Nat} {N : NET} {fl : Nat → Nat} {π : Nat → Int} {s : BFS} {x3 : Int32} (hf : Feas N fl π) (hw : OnR N fl) (k : Int32 → AH → Option AH) {Ia : Nat → Nat → Int32} {La : Nat → Nat → Int64} :
    ∀ (m n' q : Nat) (I : Nat → Nat → Int32) (L : Nat → Nat → Int64) (b : Bool), q + m = nM N → m < n' → Env0 B n I L Q R y N fl → CB I L N (rnd N fl q s) → BI N fl π (rnd N fl q s) → CFr Ia I La L → (b = false → rnd N fl q s = s) →
    ∃ (I' : Nat → Nat → Int32) (L' : Nat → Nat → Int64) (b' : Bool), fX0_measure_L55 (B + 26) (B + y) x3 k n' (bz b) (nI q) (MK B n I L Q R) = k (bz b') (MK B n I' L' Q R) ∧ CB I' L' N (rnd N fl (nM N) s) ∧ BI N fl π (rnd N fl (nM N) s) ∧ CFr Ia I' La L' ∧ Env0 B n I' L' Q R y N fl ∧ (b' = false → rnd N fl (nM N) s = s) := by
  intro m
  induction m with
  | zero =>
    intro n' q I L b hq hn hE hc hi hF hb
    obtain ⟨n1, rfl⟩ := suc_of hn
    rw [show q = nM N by omega] at hc hi hb ⊢
    have hM := hE.2.1.2.1
    have h13 := hE.2.2.1.2.2.1
    have h1 := hE.1
    refine ⟨I, L, b, ?_, hc, hi, hF, hE, hb⟩
    rw [fX0_measure_L55]
    simp (disch := first | assumption | omega) only [ob1_some, ob2_some, bnd_eq, gd_true, oc_none, oc_some, ↓reduceIte, nI_add, nI_1, nI_leI, nI_ltI, nI_eq, l0, l1, l2, l3, L0, if_pos, if_neg, k_Net, g_towns, p_towns, g_size, p_size, g_roads, g_tolls, g_crowds, a_tolls, s_tolls, r_crowds, a_crowd, s_crowd, q_roads, w_roads, u2_eq, u2_ne, hM]
  | succ m ih =>
    intro n' q I L b hq hn hE hc hi hF hb
    obtain ⟨n1, rfl⟩ := suc_of hn
    have hM := hE.2.1.2.1
    have h13 := hE.2.2.1.2.2.1
    have h1 := hE.1
    obtain ⟨I1, L1, b1, r1, r2, r3, r4, r5⟩ := e_reach hE (show q < nM N by omega) hf hw hi hc
    obtain ⟨I', L', b', s1, s2⟩ := ih n1 (q + 1) I1 L1 (b || b1) (by omega) (by omega) (hE.fr r3) r2 r4 (hF.tr r3) (fun h => by
      rw [Bool.or_eq_false_iff] at h
      rw [rnd, r5 h.2, hb h.1])
    refine ⟨I', L', b', ?_, s2⟩
    rw [← s1, fX0_measure_L55]
    simp (disch := first | assumption | omega) only [ob1_some, ob2_some, bnd_eq, gd_true, oc_none, oc_some, ↓reduceIte, nI_add, nI_1, nI_leI, nI_ltI, nI_eq, l0, l1, l2, l3, L0, if_pos, if_neg, k_Net, g_towns, p_towns, g_size, p_size, g_roads, g_tolls, g_crowds, a_tolls, s_tolls, r_crowds, a_crowd, s_crowd, q_roads, w_roads, u2_eq, u2_ne, hM, r1, bz_or]
theorem rnd_stop {N : NET} {fl : Nat → Nat} {k : Nat} (h : rnd N fl (nM N) (bfN N fl k) = bfN N fl k) : ∀ m, bfN N fl (k + m) = bfN N fl k
  | 0 => rfl
  | m + 1 => by
    show rnd N fl (nM N) (bfN N fl (k + m)) = _
    rw [rnd_stop h m, h]
theorem e_measure_L40 {B n : Nat} {Q : Nat → Nat → Option Nat} {R : Nat → RDt} {y : Nat} {N : NET} {fl : Nat → Nat} {π : Nat → Int} (hf : Feas N fl π) (hw : OnR N fl) (k : AH → Option AH) {Ia : Nat → Nat → Int32} {La : Nat → Nat → Int64} :
    ∀ (m n' c : Nat) (I : Nat → Nat → Int32) (L : Nat → Nat → Int64) (b : Bool), c + m = 6 → m < n' → Env0 B n I L Q R y N fl → CB I L N (bfN N fl c) → BI N fl π (bfN N fl c) → CFr Ia I La L → (b = false → rnd N fl (nM N) (bfN N fl c) = bfN N fl c) →
    ∃ (I' : Nat → Nat → Int32) (L' : Nat → Nat → Int64), fX0_measure_L40 (B + 26) (B + y) k n' (bz b) (nI c) (MK B n I L Q R) = k (MK B n I' L' Q R) ∧ CB I' L' N (bfN N fl 6) ∧ CFr Ia I' La L' ∧ Env0 B n I' L' Q R y N fl := by
  intro m
  induction m with
  | zero =>
    intro n' c I L b hc hn hE hcb hi hF hb
    obtain ⟨n1, rfl⟩ := suc_of hn
    rw [show c = 6 by omega] at hcb hi hb ⊢
    refine ⟨I, L, ?_, hcb, hF, hE⟩
    rw [fX0_measure_L40]
    simp (disch := first | assumption | omega) only [ob1_some, ob2_some, bnd_eq, gd_true, oc_none, oc_some, ↓reduceIte, nI_add, nI_1, nI_leI, nI_ltI, nI_eq, l0, l1, l2, l3, L0, if_pos, if_neg, u2_eq, u2_ne, l6]
  | succ m ih =>
    intro n' c I L b hc hn hE hcb hi hF hb
    obtain ⟨n1, rfl⟩ := suc_of hn
    have h13 := hE.2.2.1.2.2.1
    have c6 : ¬ (6 : Int32) ≤ nI c := by rw [l6, nI_leI (by omega) (by omega)]; omega
    rw [fX0_measure_L40, if_neg c6]
    cases b with
    | false =>
      have := rnd_stop (hb rfl) (m + 1)
      rw [hc] at this
      rw [this]
      exact ⟨I, L, if_pos rfl, hcb, hF, hE⟩
    | true =>
      rw [if_neg (by decide)]
      obtain ⟨I1, L1, b1, r1, r2, r3, r4, r5, r6⟩ := e_measure_L55 (s := bfN N fl c) (x3 := nI c) hf hw (fun (y23 : Int32) (g24 : AH) =>
          bnd (nI c + (1 : Int32)) fun y25 =>
          fX0_measure_L40 (B + 26) (B + y) k n1 y23 y25 g24) (nM N) lf 0 I L false (by omega) (by show nM N < 1000; omega) hE hcb hi hF (fun _ => rfl)
      obtain ⟨I', L', s1, s2⟩ := ih n1 (c + 1) I1 L1 b1 (by omega) (by omega) r5 r2 r3 r4 (fun h => by
        show rnd N fl (nM N) (rnd N fl (nM N) (bfN N fl c)) = rnd N fl (nM N) (bfN N fl c)
        rw [r6 h, r6 h])
      refine ⟨I', L', ?_, s2⟩
      refine Eq.trans r1 ?_
      rw [bnd_eq, nI_1]
      exact s1
theorem e_measure_L2 {B n : Nat} {Q : Nat → Nat → Option Nat} {R : Nat → RDt} {y : Nat} (k : AH → Option AH) {Ia : Nat → Nat → Int32} {La : Nat → Nat → Int64} :
    ∀ (m n' c : Nat) (I : Nat → Nat → Int32) (L : Nat → Nat → Int64), c + m = 6 → m < n' → CFr Ia I La L → (∀ t, t < c → I 29 t = bz (bf0.1 t).isSome ∧ L 30 t = lZ ((bf0.1 t).getD 0)) →
    ∃ (I' : Nat → Nat → Int32) (L' : Nat → Nat → Int64), fX0_measure_L2 (B + 26) (B + y) k n' (nI c) (MK B n I L Q R) = k (MK B n I' L' Q R) ∧ CFr Ia I' La L' ∧ (∀ t, t < 6 → I' 29 t = bz (bf0.1 t).isSome ∧ L' 30 t = lZ ((bf0.1 t).getD 0)) := by
  intro m
  induction m with
  | zero =>
    intro n' c I L hc hn hF hV
    obtain ⟨n1, rfl⟩ := suc_of hn
    rw [show c = 6 by omega] at hV ⊢
    refine ⟨I, L, ?_, hF, hV⟩
    rw [fX0_measure_L2]
    simp (disch := first | assumption | omega) only [ob1_some, ob2_some, bnd_eq, gd_true, oc_none, oc_some, ↓reduceIte, nI_add, nI_1, nI_leI, nI_ltI, nI_eq, l0, l1, l2, l3, L0, if_pos, if_neg, u2_eq, u2_ne, l6]
  | succ m ih =>
    intro n' c I L hc hn hF hV
    obtain ⟨n1, rfl⟩ := suc_of hn
    have hb : bz (bf0.1 c).isSome = 0 ∨ bz (bf0.1 c).isSome = 1 := by cases (bf0.1 c).isSome <;> decide
    obtain ⟨I', L', r1, r2⟩ := ih n1 (c + 1) (u2 I 29 c (bz (bf0.1 c).isSome)) (u2 L 30 c (lZ ((bf0.1 c).getD 0))) (by omega) (by omega) (hF.tr ⟨fun a h1 h2 h3 => u2_nk h1, fun a h1 => u2_nk h1⟩) (fun t ht => by
      by_cases e : t = c
      · rw [e, u2_eq, u2_eq]; exact ⟨rfl, rfl⟩
      · rw [u2_ne (Or.inr e), u2_ne (Or.inr e)]; exact hV t (by omega))
    refine ⟨I', L', ?_, r2⟩
    have c6 : ¬ (6 : Int32) ≤ nI c := by rw [l6, nI_leI (by omega) (by omega)]; omega
    rw [← r1, fX0_measure_L2, if_neg c6]
    by_cases e : c = 0
    · subst e
      have z : (nI 0 = (0 : Int32)) = True := eq_true rfl
      simp (disch := first | assumption | omega) only [ob1_some, ob2_some, bnd_eq, gd_true, oc_none, oc_some, ↓reduceIte, k_Cheapest, g_csum, g_cloads, g_isMet, g_far, g_cameFrom, g_cameBy, a_cloads, s_cloads, n_cloads, a_isMet, s_isMet, a_far, s_far, a_cameFrom, s_cameFrom, a_cameBy, s_cameBy, z, if_true, nI_1, s_isMet (v := 1) (i := 0) (by omega) (Or.inr rfl)]
      rfl
    · have z : (nI c = (0 : Int32)) = False := eq_false (by rw [l0, nI_eq (by omega) (by omega)]; exact e)
      have e0 : bf0.1 c = none := if_neg e
      rw [e0]
      simp (disch := first | assumption | omega) only [ob1_some, ob2_some, bnd_eq, gd_true, oc_none, oc_some, ↓reduceIte, k_Cheapest, g_csum, g_cloads, g_isMet, g_far, g_cameFrom, g_cameBy, a_cloads, s_cloads, n_cloads, a_isMet, s_isMet, a_far, s_far, a_cameFrom, s_cameFrom, a_cameBy, s_cameBy, z, if_false, nI_1, s_isMet (v := 0) (i := c) (by omega) (Or.inl rfl)]
      rfl
theorem e_measure {B n : Nat} {I : Nat → Nat → Int32} {L : Nat → Nat → Int64} {Q : Nat → Nat → Option Nat} {R : Nat → RDt} {y : Nat} {N : NET} {fl : Nat → Nat} {π : Nat → Int} (hE : Env0 B n I L Q R y N fl) (hf : Feas N fl π) (hw : OnR N fl) :
    ∃ (I' : Nat → Nat → Int32) (L' : Nat → Nat → Int64), fX0_measure (B + 26) (B + y) (MK B n I L Q R) = some (MK B n I' L' Q R) ∧ CB I' L' N (bfN N fl 6) ∧ CFr I I' L L' ∧ Env0 B n I' L' Q R y N fl := by
  obtain ⟨I1, L1, r1, r2, r3⟩ := e_measure_L2 (B := B) (n := n) (Q := Q) (R := R) (y := y) (fun (g14 : AH) =>
    fX0_measure_L40 (B + 26) (B + y) (fun (g28 : AH) =>
      some g28
    ) lf (1 : Int32) (0 : Int32) g14) 6 lf 0 I L rfl (by decide) CFr.rf (fun t ht => absurd ht (Nat.not_lt_zero t))
  have hE1 := hE.fr r2
  have h3 := hE.2.2.1
  have hi0 : BI N fl π bf0 := ⟨⟨fun _ => 0, rfl, fun t d ht => by
    obtain ⟨rfl, rfl⟩ := bf0_some ht
    exact ⟨Int.le_of_eq hf.1, Rch.zero N⟩, fun v d hv ht => absurd (bf0_some ht).1 hv⟩, fun t d ht => by
    obtain ⟨rfl, rfl⟩ := bf0_some ht
    decide, bf0_in6⟩
  obtain ⟨I2, L2, s1, s2, s3, s4⟩ := e_measure_L40 hf hw (fun (g28 : AH) => some g28) 6 lf 0 I1 L1 true rfl (by decide) hE1 ⟨fun t ht => (r3 t ht).1, fun t ht => (r3 t ht).2, fun t ht h0 hm => absurd (if_neg h0) hm⟩ hi0 r2 (fun h => by cases h)
  refine ⟨I2, L2, ?_, s2, s3, s4⟩
  unfold fX0_measure
  exact r1.trans s1
