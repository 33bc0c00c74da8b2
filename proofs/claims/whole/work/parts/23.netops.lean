def sumN : Nat → (Nat → Nat) → Nat
  | 0, _ => 0
  | k + 1, f => sumN k f + f k
theorem sumN_le {f : Nat → Nat} {b : Nat} : ∀ k : Nat, (∀ j, j < k → f j ≤ b) → sumN k f ≤ k * b
  | 0, _ => by simp [sumN]
  | k + 1, h => by
    have := sumN_le k (fun j hj => h j (by omega))
    have h2 := h k (by omega)
    rw [sumN, Nat.succ_mul]
    omega
theorem sumN_cong {f g : Nat → Nat} : ∀ k : Nat, (∀ j, j < k → f j = g j) → sumN k f = sumN k g
  | 0, _ => rfl
  | k + 1, h => by rw [sumN, sumN, sumN_cong k (fun j hj => h j (by omega)), h k (by omega)]
theorem suc_of {m n : Nat} (h : m < n) : ∃ k, n = k + 1 := ⟨n - 1, by omega⟩
/-- what lies in the list of answers of a question: 1 or 0 -/
theorem e_isOneOf (x y : Int32) : fX9_isOneOf x y = some (bz (decide (¬ x < 0 ∧ ¬ y ≤ x))) := by
  unfold fX9_isOneOf
  by_cases h1 : x < 0
  · rw [if_pos h1]; simp [h1, bz]
  · rw [if_neg h1]
    by_cases h2 : y ≤ x
    · rw [if_pos h2]; simp [h2, bz]
    · rw [if_neg h2]; simp [h1, h2, bz]
/-- of a number and a bound that is a natural number -/
theorem one_of {x : Int32} {m : Nat} (hm : m < 2147483648) : (∃ j, j < m ∧ x = nI j ∧ fX9_isOneOf x (nI m) = some 1) ∨ ((∀ j, j < m → x ≠ nI j) ∧ fX9_isOneOf x (nI m) = some 0) := by
  rcases pk_ix x hm with h | h | ⟨j, hj, rfl⟩
  · refine Or.inr ⟨fun j hj e => ?_, ?_⟩
    · subst e
      exact nI_pos (by omega) h
    · rw [e_isOneOf]
      simp [h, bz]
  · refine Or.inr ⟨fun j hj e => ?_, ?_⟩
    · subst e
      exact nI_ge hj (by omega) h
    · rw [e_isOneOf]
      simp [h, bz]
  · refine Or.inl ⟨j, hj, rfl, ?_⟩
    rw [e_isOneOf]
    have h1 : ¬ nI j < 0 := nI_pos (by omega)
    have h2 : ¬ nI m ≤ nI j := nI_ge hj (by omega)
    simp [h1, h2, bz]
theorem one_yes {j m : Nat} (h : j < m) (hm : m < 2147483648) : fX9_isOneOf (nI j) (nI m) = some 1 := by
  rcases one_of (x := nI j) hm with ⟨_, _, _, h⟩ | ⟨h2, _⟩
  · exact h
  · exact absurd rfl (h2 j h)
theorem zb0 : zb 0 = true := by decide
theorem zb1 : zb 1 = true := by decide
theorem e_hasRoad {B n : Nat} {I : Nat → Nat → Int32} {L : Nat → Nat → Int64} {Q : Nat → Nat → Option Nat} {R : Nat → RDt} {x : Nat} {N : NET} {r : Int32} (hx : isN x) (hN : NetIs B n I L Q R x N) (hm : nM N ≤ 13) : (∃ j, j < nM N ∧ r = nI j ∧ fX1_hasRoad (B + x) r (MK B n I L Q R) = some 1) ∨ ((∀ j, j < nM N → r ≠ nI j) ∧ fX1_hasRoad (B + x) r (MK B n I L Q R) = some 0) := by
  obtain ⟨hT, hM, hQ, hR, hL, hC⟩ := hN
  unfold fX1_hasRoad
  rcases one_of (x := r) (m := nM N) (by omega) with ⟨j, h1, h2, h3⟩ | ⟨h1, h3⟩
  · refine Or.inl ⟨j, h1, h2, ?_⟩
    simp (disch := first | assumption | omega) only [ob1_some, ob2_some, bnd_eq, gd_true, oc_none, oc_some, ↓reduceIte, k_Net, g_towns, p_towns, g_size, p_size, g_roads, g_tolls, g_crowds, a_tolls, s_tolls, r_crowds, a_crowd, s_crowd, q_roads, w_roads, hM, h3, zb1]
  · refine Or.inr ⟨h1, ?_⟩
    simp (disch := first | assumption | omega) only [ob1_some, ob2_some, bnd_eq, gd_true, oc_none, oc_some, ↓reduceIte, k_Net, g_towns, p_towns, g_size, p_size, g_roads, g_tolls, g_crowds, a_tolls, s_tolls, r_crowds, a_crowd, s_crowd, q_roads, w_roads, hM, h3, zb0]
theorem e_joins {B n : Nat} {I : Nat → Nat → Int32} {L : Nat → Nat → Int64} {Q : Nat → Nat → Option Nat} {R : Nat → RDt} {x : Nat} {N : NET} {f t : Int32} (hx : isN x) (hN : NetIs B n I L Q R x N) (hm : nT N ≤ 6) : (∃ j k, j < nT N ∧ k < nT N ∧ j ≠ k ∧ f = nI j ∧ t = nI k ∧ fX1_joins (B + x) f t (MK B n I L Q R) = some 1) ∨ ((∀ j k, j < nT N → k < nT N → j ≠ k → ¬ (f = nI j ∧ t = nI k)) ∧ fX1_joins (B + x) f t (MK B n I L Q R) = some 0) := by
  obtain ⟨hT, hM, hQ, hR, hL, hC⟩ := hN
  unfold fX1_joins
  rcases one_of (x := f) (m := nT N) (by omega) with ⟨j, h1, h2, h3⟩ | ⟨h1, h3⟩
  · rcases one_of (x := t) (m := nT N) (by omega) with ⟨k, k1, k2, k3⟩ | ⟨k1, k3⟩
    · by_cases e : j = k
      · refine Or.inr ⟨fun a b ha hb hab ⟨e1, e2⟩ => ?_, ?_⟩
        · subst h2; subst k2
          rw [nI_eq (by omega) (by omega)] at e1 e2
          omega
        · subst h2; subst k2; subst e
          simp (disch := first | assumption | omega) only [ob1_some, ob2_some, bnd_eq, gd_true, oc_none, oc_some, ↓reduceIte, k_Net, g_towns, p_towns, g_size, p_size, g_roads, g_tolls, g_crowds, a_tolls, s_tolls, r_crowds, a_crowd, s_crowd, q_roads, w_roads, hT, h3, k3, show ((1 : Int32) = 0) = False from by decide]
      · refine Or.inl ⟨j, k, h1, k1, e, h2, k2, ?_⟩
        subst h2; subst k2
        have e2 : (nI j = nI k) = False := by rw [nI_eq (by omega) (by omega)]; exact eq_false e
        simp (disch := first | assumption | omega) only [ob1_some, ob2_some, bnd_eq, gd_true, oc_none, oc_some, ↓reduceIte, k_Net, g_towns, p_towns, g_size, p_size, g_roads, g_tolls, g_crowds, a_tolls, s_tolls, r_crowds, a_crowd, s_crowd, q_roads, w_roads, hT, h3, k3, e2, if_false, show ((1 : Int32) = 0) = False from by decide]
    · refine Or.inr ⟨fun a b ha hb hab ⟨e1, e2⟩ => k1 b hb e2, ?_⟩
      simp (disch := first | assumption | omega) only [ob1_some, ob2_some, bnd_eq, gd_true, oc_none, oc_some, ↓reduceIte, k_Net, g_towns, p_towns, g_size, p_size, g_roads, g_tolls, g_crowds, a_tolls, s_tolls, r_crowds, a_crowd, s_crowd, q_roads, w_roads, hT, h3, k3, show ((1 : Int32) = 0) = False from by decide]
  · refine Or.inr ⟨fun a b ha hb hab ⟨e1, e2⟩ => h1 a ha e1, ?_⟩
    simp (disch := first | assumption | omega) only [ob1_some, ob2_some, bnd_eq, gd_true, oc_none, oc_some, ↓reduceIte, k_Net, g_towns, p_towns, g_size, p_size, g_roads, g_tolls, g_crowds, a_tolls, s_tolls, r_crowds, a_crowd, s_crowd, q_roads, w_roads, hT, h3]
def nDue (N : NET) (t : Nat) : Nat := sumN 3 fun c => if nC N c 0 = t then nC N c 1 else 0
def nAll (N : NET) : Nat := sumN 3 fun c => nC N c 1
def nSum (N : NET) : Nat := sumN (nM N) fun r => nTl N r
theorem e_countDrivers_L4 {B n : Nat} {I : Nat → Nat → Int32} {L : Nat → Nat → Int64} {Q : Nat → Nat → Option Nat} {R : Nat → RDt} {x : Nat} {N : NET} (hx : isN x) (hN : NetIs B n I L Q R x N) (k : Int32 → Option Int32) : ∀ (m n' c : Nat), c + m = 3 → m < n' → fX1_countDrivers_L4 (B + x) (MK B n I L Q R) k n' (nI (sumN c fun c => nC N c 1)) (nI c) = k (nI (nAll N)) := by
  obtain ⟨hT, hM, hQ, hR, hL, hC⟩ := hN
  intro m
  induction m with
  | zero =>
    intro n' c hc hn
    obtain ⟨n1, rfl⟩ := suc_of hn
    rw [fX1_countDrivers_L4, show c = 3 by omega]
    simp (disch := first | assumption | omega) only [ob1_some, ob2_some, bnd_eq, gd_true, oc_none, oc_some, ↓reduceIte, nI_add, nI_1, nI_leI, nI_ltI, nI_eq, l0, l1, l2, l3, L0, if_pos, if_neg, u2_eq, u2_ne]
    rfl
  | succ m ih =>
    intro n' c hc hn
    obtain ⟨n1, rfl⟩ := suc_of hn
    rw [fX1_countDrivers_L4]
    simp (disch := first | assumption | omega) only [ob1_some, ob2_some, bnd_eq, gd_true, oc_none, oc_some, ↓reduceIte, nI_add, nI_1, nI_leI, nI_ltI, nI_eq, l0, l1, l2, l3, L0, if_pos, if_neg, k_Net, g_towns, p_towns, g_size, p_size, g_roads, g_tolls, g_crowds, a_tolls, s_tolls, r_crowds, a_crowd, s_crowd, q_roads, w_roads, u2_eq, u2_ne, hC]
    exact ih n1 (c + 1) (by omega) (by omega)
theorem e_countDrivers {B n : Nat} {I : Nat → Nat → Int32} {L : Nat → Nat → Int64} {Q : Nat → Nat → Option Nat} {R : Nat → RDt} {x : Nat} {N : NET} (hx : isN x) (hN : NetIs B n I L Q R x N) : fX1_countDrivers (B + x) (MK B n I L Q R) = some (nI (nAll N)) := by
  unfold fX1_countDrivers
  exact e_countDrivers_L4 hx hN _ 3 lf 0 rfl (by decide)
theorem e_driversTo_L4 {B n : Nat} {I : Nat → Nat → Int32} {L : Nat → Nat → Int64} {Q : Nat → Nat → Option Nat} {R : Nat → RDt} {x t : Nat} {N : NET} (hx : isN x) (hN : NetIs B n I L Q R x N) (hO : NetOK N) (ht : t < 2147483648) (k : Int32 → Option Int32) : ∀ (m n' c : Nat), c + m = 3 → m < n' → fX1_driversTo_L4 (B + x) (nI t) (MK B n I L Q R) k n' (nI (sumN c fun c => if nC N c 0 = t then nC N c 1 else 0)) (nI c) = k (nI (nDue N t)) := by
  obtain ⟨hT, hM, hQ, hR, hL, hC⟩ := hN
  intro m
  induction m with
  | zero =>
    intro n' c hc hn
    obtain ⟨n1, rfl⟩ := suc_of hn
    rw [fX1_driversTo_L4, show c = 3 by omega]
    simp (disch := first | assumption | omega) only [ob1_some, ob2_some, bnd_eq, gd_true, oc_none, oc_some, ↓reduceIte, nI_add, nI_1, nI_leI, nI_ltI, nI_eq, l0, l1, l2, l3, L0, if_pos, if_neg, u2_eq, u2_ne]
    rfl
  | succ m ih =>
    intro n' c hc hn
    obtain ⟨n1, rfl⟩ := suc_of hn
    rw [fX1_driversTo_L4]
    have hb := (hO.2.2.2.2 c (by omega)).2.1
    have := ih n1 (c + 1) (by omega) (by omega)
    rw [sumN] at this
    by_cases e : nC N c 0 = t
    · rw [if_pos e] at this
      simp (disch := first | assumption | omega) only [ob1_some, ob2_some, bnd_eq, gd_true, oc_none, oc_some, ↓reduceIte, nI_add, nI_1, nI_leI, nI_ltI, nI_eq, l0, l1, l2, l3, L0, if_pos, if_neg, k_Net, g_towns, p_towns, g_size, p_size, g_roads, g_tolls, g_crowds, a_tolls, s_tolls, r_crowds, a_crowd, s_crowd, q_roads, w_roads, u2_eq, u2_ne, hC]
      exact this
    · rw [if_neg e] at this
      simp (disch := first | assumption | omega) only [ob1_some, ob2_some, bnd_eq, gd_true, oc_none, oc_some, ↓reduceIte, nI_add, nI_1, nI_leI, nI_ltI, nI_eq, l0, l1, l2, l3, L0, if_pos, if_neg, k_Net, g_towns, p_towns, g_size, p_size, g_roads, g_tolls, g_crowds, a_tolls, s_tolls, r_crowds, a_crowd, s_crowd, q_roads, w_roads, u2_eq, u2_ne, hC]
      exact this
theorem e_driversTo {B n : Nat} {I : Nat → Nat → Int32} {L : Nat → Nat → Int64} {Q : Nat → Nat → Option Nat} {R : Nat → RDt} {x t : Nat} {N : NET} (hx : isN x) (hN : NetIs B n I L Q R x N) (hO : NetOK N) (ht : t < 2147483648) : fX1_driversTo (B + x) (nI t) (MK B n I L Q R) = some (nI (nDue N t)) := by
  unfold fX1_driversTo
  exact e_driversTo_L4 hx hN hO ht _ 3 lf 0 rfl (by decide)
theorem e_sumOfTolls_L4 {B n : Nat} {I : Nat → Nat → Int32} {L : Nat → Nat → Int64} {Q : Nat → Nat → Option Nat} {R : Nat → RDt} {x : Nat} {N : NET} (hx : isN x) (hN : NetIs B n I L Q R x N) (hm : nM N ≤ 13) (k : Int64 → Option Int64) : ∀ (m n' c : Nat), c + m = nM N → m < n' → fX1_sumOfTolls_L4 (B + x) (MK B n I L Q R) k n' (lN (sumN c fun r => nTl N r)) (nI c) = k (lN (nSum N)) := by
  obtain ⟨hT, hM, hQ, hR, hL, hC⟩ := hN
  intro m
  induction m with
  | zero =>
    intro n' c hc hn
    obtain ⟨n1, rfl⟩ := suc_of hn
    rw [fX1_sumOfTolls_L4, show c = nM N by omega]
    simp (disch := first | assumption | omega) only [ob1_some, ob2_some, bnd_eq, gd_true, oc_none, oc_some, ↓reduceIte, nI_add, nI_1, nI_leI, nI_ltI, nI_eq, l0, l1, l2, l3, L0, if_pos, if_neg, k_Net, g_towns, p_towns, g_size, p_size, g_roads, g_tolls, g_crowds, a_tolls, s_tolls, r_crowds, a_crowd, s_crowd, q_roads, w_roads, u2_eq, u2_ne, hM]
    rfl
  | succ m ih =>
    intro n' c hc hn
    obtain ⟨n1, rfl⟩ := suc_of hn
    rw [fX1_sumOfTolls_L4]
    simp (disch := first | assumption | omega) only [ob1_some, ob2_some, bnd_eq, gd_true, oc_none, oc_some, ↓reduceIte, nI_add, nI_1, nI_leI, nI_ltI, nI_eq, l0, l1, l2, l3, L0, if_pos, if_neg, k_Net, g_towns, p_towns, g_size, p_size, g_roads, g_tolls, g_crowds, a_tolls, s_tolls, r_crowds, a_crowd, s_crowd, q_roads, w_roads, u2_eq, u2_ne, hM, hL, lN_add]
    exact ih n1 (c + 1) (by omega) (by omega)
theorem e_sumOfTolls {B n : Nat} {I : Nat → Nat → Int32} {L : Nat → Nat → Int64} {Q : Nat → Nat → Option Nat} {R : Nat → RDt} {x : Nat} {N : NET} (hx : isN x) (hN : NetIs B n I L Q R x N) (hm : nM N ≤ 13) : fX1_sumOfTolls (B + x) (MK B n I L Q R) = some (lN (nSum N)) := by
  unfold fX1_sumOfTolls
  exact e_sumOfTolls_L4 hx hN hm _ (nM N) lf 0 (by omega) (by show nM N < 1000; omega)
/-- PRICE of a road for one of a class, if x are on it -/
def pAt (N : NET) (mode c r x : Nat) : Nat := nC N c 2 * (rCost (nRd N r) x + (if mode = 2 then rLoss (nRd N r) x else 0)) + (if mode = 1 then nC N c 3 * nTl N r else 0)
theorem e_priceAt {B n : Nat} {I : Nat → Nat → Int32} {L : Nat → Nat → Int64} {Q : Nat → Nat → Option Nat} {R : Nat → RDt} {x mode c r y : Nat} {N : NET} (hx : isN x) (hN : NetIs B n I L Q R x N) (hO : NetOK N) (hm : mode < 3) (hc : c < 3) (hr : r < nM N) (hy : y < 2147483648) (h1 : 1 ≤ y) : fX1_priceAt (B + x) (nI mode) (nI c) (nI r) (nI y) (MK B n I L Q R) = some (lN (pAt N mode c r y)) := by
  obtain ⟨hT, hM, hQ, hR, hL, hC⟩ := hN
  obtain ⟨o1, o2, o3, o4, o5⟩ := hO
  have hv := hQ r (by omega)
  have hk := (o4 r hr).1
  have hrr := hR r hr
  have hcb := o5 c hc
  unfold CrN at hcb
  unfold fX1_priceAt pAt
  have hq := q_roads (B := B) (n := n) (I := I) (L := L) (R := R) hx (show r < 13 by omega) hv.1
  have hcost := e_costAt (I := I) (L := L) (Q := Q) hv.2 hrr hk hy
  have hloss := e_lossAt (I := I) (L := L) (Q := Q) hv.2 hrr hk hy h1
  have hck := rd_ck (I := I) (L := L) (Q := Q) (R := R) hv.2
  obtain h | h | h : mode = 0 ∨ mode = 1 ∨ mode = 2 := by omega
  · subst h
    simp (disch := first | assumption | omega) only [ob1_some, ob2_some, bnd_eq, gd_true, oc_none, oc_some, ↓reduceIte, nI_add, nI_1, nI_leI, nI_ltI, nI_eq, l0, l1, l2, l3, L0, if_pos, if_neg, k_Net, g_towns, p_towns, g_size, p_size, g_roads, g_tolls, g_crowds, a_tolls, s_tolls, r_crowds, a_crowd, s_crowd, q_roads, w_roads, u2_eq, u2_ne, hq, hcost, hck, hC, nI_l, lN_mul, Nat.add_zero]
  · subst h
    simp (disch := first | assumption | omega) only [ob1_some, ob2_some, bnd_eq, gd_true, oc_none, oc_some, ↓reduceIte, nI_add, nI_1, nI_leI, nI_ltI, nI_eq, l0, l1, l2, l3, L0, if_pos, if_neg, k_Net, g_towns, p_towns, g_size, p_size, g_roads, g_tolls, g_crowds, a_tolls, s_tolls, r_crowds, a_crowd, s_crowd, q_roads, w_roads, u2_eq, u2_ne, hq, hcost, hck, hC, hL, nI_l, lN_mul, lN_add, Nat.add_zero]
  · subst h
    simp (disch := first | assumption | omega) only [ob1_some, ob2_some, bnd_eq, gd_true, oc_none, oc_some, ↓reduceIte, nI_add, nI_1, nI_leI, nI_ltI, nI_eq, l0, l1, l2, l3, L0, if_pos, if_neg, k_Net, g_towns, p_towns, g_size, p_size, g_roads, g_tolls, g_crowds, a_tolls, s_tolls, r_crowds, a_crowd, s_crowd, q_roads, w_roads, u2_eq, u2_ne, hq, hcost, hloss, hck, hC, nI_l, lN_mul, lN_add, Nat.add_zero]
