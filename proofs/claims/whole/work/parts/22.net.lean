/-- a road: from, to, kind, base, slope, steep, knee -/
abbrev RD : Type := Nat × Nat × Nat × Nat × Nat × Nat × Nat
def dFrom (r : RD) : Nat := r.1
def dTo (r : RD) : Nat := r.2.1
def dKind (r : RD) : Nat := r.2.2.1
def dBase (r : RD) : Nat := r.2.2.2.1
def dSlope (r : RD) : Nat := r.2.2.2.2.1
def dSteep (r : RD) : Nat := r.2.2.2.2.2.1
def dKnee (r : RD) : Nat := r.2.2.2.2.2.2
def rdI (r : RD) : RDt := (nI (dFrom r), nI (dTo r), nI (dKind r), lN (dBase r), lN (dSlope r), lN (dSteep r), nI (dKnee r))
def rCost (r : RD) (x : Nat) : Nat := dBase r + (if 1 ≤ dKind r then dSlope r * x else 0) + (if 2 ≤ dKind r then dSteep r * (x - dKnee r) else 0)
def rGrow (r : RD) (x : Nat) : Nat := (if 1 ≤ dKind r then dSlope r else 0) + (if 2 ≤ dKind r ∧ dKnee r < x then dSteep r else 0)
def rLoss (r : RD) (x : Nat) : Nat := (x - 1) * rGrow r x
def RDok (r : RD) : Prop := dKind r ≤ 2 ∧ dBase r ≤ 100000000000000000 ∧ dSlope r ≤ 100000000000000 ∧ dSteep r ≤ 100000000000000 ∧ dKnee r ≤ 36 ∧ dFrom r < 6 ∧ dTo r < 6
/-- towns, how many roads, roads, tolls, crowds -/
abbrev NET : Type := Nat × Nat × (Nat → RD) × (Nat → Nat) × (Nat → Nat → Nat)
def nT (N : NET) : Nat := N.1
def nM (N : NET) : Nat := N.2.1
def nRd (N : NET) : Nat → RD := N.2.2.1
def nTl (N : NET) : Nat → Nat := N.2.2.2.1
def nC (N : NET) : Nat → Nat → Nat := N.2.2.2.2
def adr (Q : Nat → Nat → Option Nat) (x r : Nat) : Nat := (Q (x + 1) r).getD 0
def NetIs (B n : Nat) (I : Nat → Nat → Int32) (L : Nat → Nat → Int64) (Q : Nat → Nat → Option Nat) (R : Nat → RDt) (x : Nat) (N : NET) : Prop :=
  I x 0 = nI (nT N) ∧ I x 1 = nI (nM N) ∧ (∀ r, r < 13 → Q (x + 1) r = some (adr Q x r) ∧ VA B n (adr Q x r)) ∧ (∀ r, r < nM N → rda B R (adr Q x r) = rdI (nRd N r)) ∧ (∀ r, r < nM N → L (x + 2) r = lN (nTl N r)) ∧ ∀ c j, c < 3 → j < 4 → I (x + (4 + c)) j = nI (nC N c j)
def RdN (N : NET) (r : Nat) : Prop := RDok (nRd N r) ∧ dFrom (nRd N r) < nT N ∧ dTo (nRd N r) < nT N ∧ dFrom (nRd N r) ≠ dTo (nRd N r) ∧ nTl N r ≤ 1000000000
def CrN (N : NET) (c : Nat) : Prop := 1 ≤ nC N c 0 ∧ nC N c 0 ≤ 5 ∧ nC N c 1 ≤ 12 ∧ 1 ≤ nC N c 2 ∧ nC N c 2 ≤ 9 ∧ nC N c 3 ≤ 9
def NetOK (N : NET) : Prop := 2 ≤ nT N ∧ nT N ≤ 6 ∧ nM N ≤ 13 ∧ (∀ r, r < nM N → RdN N r) ∧ ∀ c, c < 3 → CrN N c
/-- a net's cells are untouched -/
theorem NetIs.same {B n : Nat} {I : Nat → Nat → Int32} {L : Nat → Nat → Int64} {Q : Nat → Nat → Option Nat} {R : Nat → RDt} {I' : Nat → Nat → Int32} {L' : Nat → Nat → Int64} {x : Nat} {N : NET} (h : NetIs B n I L Q R x N) (hI : ∀ k, x ≤ k → k < x + 7 → I' k = I k) (hL : L' (x + 2) = L (x + 2)) : NetIs B n I' L' Q R x N := by
  obtain ⟨h1, h2, h3, h4, h5, h6⟩ := h
  refine ⟨by rw [hI x (Nat.le_refl _) (by omega)]; exact h1, by rw [hI x (Nat.le_refl _) (by omega)]; exact h2, h3, h4, fun r hr => by rw [hL]; exact h5 r hr, fun c j hc hj => by rw [hI (x + (4 + c)) (by omega) (by omega)]; exact h6 c j hc hj⟩
theorem e_costAt {B n : Nat} {I : Nat → Nat → Int32} {L : Nat → Nat → Int64} {Q : Nat → Nat → Option Nat} {R : Nat → RDt} {a x : Nat} {r : RD} (hv : VA B n a) (hr : rda B R a = rdI r) (hk : RDok r) (hx : x < 2147483648) : fX3_costAt a (nI x) (MK B n I L Q R) = some (lN (rCost r x)) := by
  obtain ⟨k1, k2, k3, k4, k5, k6, k7⟩ := hk
  unfold fX3_costAt rCost
  by_cases h1 : dKind r < 1
  · simp (disch := first | assumption | omega) only [ob1_some, ob2_some, bnd_eq, gd_true, oc_none, oc_some, ↓reduceIte, nI_add, nI_1, nI_leI, nI_ltI, nI_eq, l0, l1, l2, l3, L0, if_pos, if_neg, u2_eq, u2_ne, rd_base hv, rd_kind hv, rd_slope hv, rd_steep hv, rd_knee hv, hr, rdI, Nat.add_zero]
  · by_cases h2 : dKind r < 2
    · simp (disch := first | assumption | omega) only [ob1_some, ob2_some, bnd_eq, gd_true, oc_none, oc_some, ↓reduceIte, nI_add, nI_1, nI_leI, nI_ltI, nI_eq, l0, l1, l2, l3, L0, if_pos, if_neg, u2_eq, u2_ne, rd_base hv, rd_kind hv, rd_slope hv, rd_steep hv, rd_knee hv, hr, rdI, nI_l, lN_mul, lN_add, Nat.add_zero]
    · by_cases h3 : x ≤ dKnee r
      · have e : x - dKnee r = 0 := by omega
        simp (disch := first | assumption | omega) only [ob1_some, ob2_some, bnd_eq, gd_true, oc_none, oc_some, ↓reduceIte, nI_add, nI_1, nI_leI, nI_ltI, nI_eq, l0, l1, l2, l3, L0, if_pos, if_neg, u2_eq, u2_ne, rd_base hv, rd_kind hv, rd_slope hv, rd_steep hv, rd_knee hv, hr, rdI, nI_l, lN_mul, lN_add, e, Nat.mul_zero, Nat.add_zero]
      · simp (disch := first | assumption | omega) only [ob1_some, ob2_some, bnd_eq, gd_true, oc_none, oc_some, ↓reduceIte, nI_add, nI_1, nI_leI, nI_ltI, nI_eq, l0, l1, l2, l3, L0, if_pos, if_neg, u2_eq, u2_ne, rd_base hv, rd_kind hv, rd_slope hv, rd_steep hv, rd_knee hv, hr, rdI, nI_l, lN_mul, lN_add, pk_sub]
theorem e_lossAt {B n : Nat} {I : Nat → Nat → Int32} {L : Nat → Nat → Int64} {Q : Nat → Nat → Option Nat} {R : Nat → RDt} {a x : Nat} {r : RD} (hv : VA B n a) (hr : rda B R a = rdI r) (hk : RDok r) (hx : x < 2147483648) (h0 : 1 ≤ x) : fX3_lossAt a (nI x) (MK B n I L Q R) = some (lN (rLoss r x)) := by
  obtain ⟨k1, k2, k3, k4, k5, k6, k7⟩ := hk
  unfold fX3_lossAt rLoss rGrow
  by_cases h1 : dKind r < 1
  · simp (disch := first | assumption | omega) only [ob1_some, ob2_some, bnd_eq, gd_true, oc_none, oc_some, ↓reduceIte, nI_add, nI_1, nI_leI, nI_ltI, nI_eq, l0, l1, l2, l3, L0, if_pos, if_neg, u2_eq, u2_ne, rd_base hv, rd_kind hv, rd_slope hv, rd_steep hv, rd_knee hv, hr, rdI, nI_l, lN_mul, lN_add, pk_sub, Nat.add_zero]
  · by_cases h2 : dKind r < 2
    · simp (disch := first | assumption | omega) only [ob1_some, ob2_some, bnd_eq, gd_true, oc_none, oc_some, ↓reduceIte, nI_add, nI_1, nI_leI, nI_ltI, nI_eq, l0, l1, l2, l3, L0, if_pos, if_neg, u2_eq, u2_ne, rd_base hv, rd_kind hv, rd_slope hv, rd_steep hv, rd_knee hv, hr, rdI, nI_l, lN_mul, lN_add, pk_sub, Nat.add_zero, Nat.zero_add]
    · by_cases h3 : x ≤ dKnee r
      · simp (disch := first | assumption | omega) only [ob1_some, ob2_some, bnd_eq, gd_true, oc_none, oc_some, ↓reduceIte, nI_add, nI_1, nI_leI, nI_ltI, nI_eq, l0, l1, l2, l3, L0, if_pos, if_neg, u2_eq, u2_ne, rd_base hv, rd_kind hv, rd_slope hv, rd_steep hv, rd_knee hv, hr, rdI, nI_l, lN_mul, lN_add, pk_sub, Nat.add_zero, Nat.zero_add]
      · simp (disch := first | assumption | omega) only [ob1_some, ob2_some, bnd_eq, gd_true, oc_none, oc_some, ↓reduceIte, nI_add, nI_1, nI_leI, nI_ltI, nI_eq, l0, l1, l2, l3, L0, if_pos, if_neg, u2_eq, u2_ne, rd_base hv, rd_kind hv, rd_slope hv, rd_steep hv, rd_knee hv, hr, rdI, nI_l, lN_mul, lN_add, pk_sub, Nat.add_zero, Nat.zero_add]
/-- the sum: what it comes to, or that it is over -/
def mxL : Nat := 9223372036854775807
def sAdd (v : Nat × Bool) (t e : Nat) : Nat × Bool := if v.2 = true then v else if v.1 + t * e ≤ mxL then (v.1 + t * e, false) else (v.1, true)
def bz (b : Bool) : Int32 := if b then 1 else 0
def SumIs (I : Nat → Nat → Int32) (L : Nat → Nat → Int64) (x : Nat) (v : Nat × Bool) : Prop := L x 0 = lN v.1 ∧ I x 1 = bz v.2 ∧ v.1 ≤ mxL
theorem bz0 (b : Bool) : (bz b = nI 0) = (b = false) := by cases b <;> decide
theorem bz_t : bz true = nI 1 := rfl
theorem bz_f : bz false = nI 0 := rfl
theorem e_reset {B n : Nat} {I : Nat → Nat → Int32} {L : Nat → Nat → Int64} {Q : Nat → Nat → Option Nat} {R : Nat → RDt} {x : Nat} (hx : isU x) : fX6_reset (B + x) (MK B n I L Q R) = some (MK B n (u2 I x 1 0) (u2 L x 0 0) Q R) := by
  unfold fX6_reset
  simp (disch := first | assumption | omega) only [ob1_some, ob2_some, bnd_eq, gd_true, oc_none, oc_some, ↓reduceIte, k_Sum, g_value, p_value, g_isOver, p_isOver]
theorem reset_is {I : Nat → Nat → Int32} {L : Nat → Nat → Int64} {x : Nat} : SumIs (u2 I x 1 0) (u2 L x 0 0) x (0, false) := ⟨u2_eq, u2_eq, Nat.zero_le _⟩
theorem mxL_eq : mxL = 9223372036854775807 := rfl
theorem sAdd_over (w t e : Nat) : sAdd (w, true) t e = (w, true) := rfl
theorem sAdd_0 {w t e : Nat} {o : Bool} (h : t * e = 0) (hw : w ≤ mxL) : sAdd (w, o) t e = (w, o) := by
  cases o
  · show (if false = true then (w, false) else if w + t * e ≤ mxL then (w + t * e, false) else (w, true)) = _
    rw [if_neg (by decide), h, Nat.add_zero, if_pos hw]
  · rfl
theorem sAdd_in {w t e : Nat} (h : w + t * e ≤ mxL) : sAdd (w, false) t e = (w + t * e, false) := by
  show (if false = true then (w, false) else if w + t * e ≤ mxL then (w + t * e, false) else (w, true)) = _
  rw [if_neg (by decide), if_pos h]
theorem sAdd_out {w t e : Nat} (h : ¬ w + t * e ≤ mxL) : sAdd (w, false) t e = (w, true) := by
  show (if false = true then (w, false) else if w + t * e ≤ mxL then (w + t * e, false) else (w, true)) = _
  rw [if_neg (by decide), if_neg h]
theorem u2_same {α : Type} {I : Nat → Nat → α} {k i : Nat} {v : α} (h : I k i = v) : u2 I k i v = I := by
  funext a j
  by_cases e : a = k ∧ j = i
  · rw [e.1, e.2, u2_eq, h]
  · rw [u2_ne (by omega)]
theorem bzz_t : (bz true = nI 0) = False := eq_false (by decide)
theorem bzz_f : (bz false = nI 0) = True := eq_true (by decide)
theorem lit_mx : (9223372036854775807 : Int64) = lN mxL := rfl
theorem hd_mx {w : Nat} (h : w ≤ mxL) : (9223372036854775807 : Int64) - lN w = lN (mxL - w) := by
  rw [lit_mx]
  exact lN_sub h
theorem mx63 : mxL < 2 ^ 63 := by rw [mxL_eq]; exact Nat.le_of_ble_eq_true rfl
theorem hq_mx {w t e : Nat} (hw : w ≤ mxL) (ht : t ≤ mxL) (h1 : ¬ e = 0) (he : e ≤ mxL) : (lN t ≤ lN (mxL - w) / lN e) = (w + t * e ≤ mxL) := by
  have h63 := mx63
  rw [pk_lDiv (Nat.lt_of_le_of_lt (Nat.sub_le _ _) h63) (Nat.pos_of_ne_zero h1) (Nat.lt_of_le_of_lt he h63), pk_lLE (Nat.lt_of_le_of_lt ht h63) (Nat.lt_of_le_of_lt (Nat.div_le_self _ _) (Nat.lt_of_le_of_lt (Nat.sub_le _ _) h63)), Nat.le_div_iff_mul_le (Nat.pos_of_ne_zero h1)]
  exact propext ⟨fun h => by omega, fun h => by omega⟩
theorem add_t0 {a0 : Nat} {e : Int64} {h : AH} : fX6_add a0 (lN 0) e h = some h := if_pos (by decide)
theorem add_e0 {a0 : Nat} {t : Int64} {h : AH} : fX6_add a0 t (lN 0) h = some h := by
  unfold fX6_add
  by_cases c : t ≤ 0
  · rw [if_pos c]
  · rw [if_neg c, if_neg (by decide)]
theorem z63 : 0 < 2 ^ 63 := Nat.le_of_ble_eq_true rfl
theorem big_c1 {t : Nat} (h0 : ¬ t = 0) (ht : t ≤ mxL) : ¬ lN t ≤ 0 := by
  rw [L0, pk_lLE (Nat.lt_of_le_of_lt ht mx63) z63]
  omega
theorem big_c2 {t : Nat} (h0 : ¬ t = 0) (ht : t ≤ mxL) : 0 < lN t := by
  rw [L0, pk_lLT z63 (Nat.lt_of_le_of_lt ht mx63)]
  omega
theorem big_hz {t : Nat} (h0 : ¬ t = 0) (ht : t ≤ mxL) : ¬ lN t = 0 := by
  rw [L0, pk_lEQ (Nat.lt_of_le_of_lt ht mx63) z63]
  exact h0
def sTail (a0 : Nat) (t e : Int64) (g5 : AH) : Option AH :=
  ob1 (gI g5 a0 6 1) fun v6 =>
  if v6 = (0 : Int32) then
    ob1 (gL g5 a0 6 0) fun v8 =>
    ob1 (pV g5 a0 6 0 (.long (v8 + (t * e)))) fun g10 =>
    some g10
  else
    some g5
theorem add_big {a0 t e : Nat} {h : AH} (h0 : ¬ t = 0) (h1 : ¬ e = 0) (ht : t ≤ mxL) (he : e ≤ mxL) : fX6_add a0 (lN t) (lN e) h = ob1 (gL h a0 6 0) (fun v1 => if lN t ≤ (((9223372036854775807 : Int64) - v1) / lN e) then sTail a0 (lN t) (lN e) h else ob1 (pV h a0 6 1 (.int (1 : Int32))) fun g13 => sTail a0 (lN t) (lN e) g13) := by
  have hz : (decide (¬ lN e = 0)) = true := decide_eq_true (big_hz h1 he)
  unfold fX6_add
  rw [if_neg (big_c1 h0 ht), if_pos (big_c2 h1 he)]
  refine congrArg (ob1 (gL h a0 6 0)) (funext fun v1 => ?_)
  rw [hz, gd_true, bnd_eq]
  rfl
theorem e_add {B n : Nat} {I : Nat → Nat → Int32} {L : Nat → Nat → Int64} {Q : Nat → Nat → Option Nat} {R : Nat → RDt} {x t e : Nat} {v : Nat × Bool} (hx : isU x) (hs : SumIs I L x v) (ht : t ≤ mxL) (he : e ≤ mxL) : ∃ (v' : Int64) (o' : Int32), fX6_add (B + x) (lN t) (lN e) (MK B n I L Q R) = some (MK B n (u2 I x 1 o') (u2 L x 0 v') Q R) ∧ v' = lN (sAdd v t e).1 ∧ o' = bz (sAdd v t e).2 ∧ (sAdd v t e).1 ≤ mxL := by
  obtain ⟨s1, s2, s3⟩ := hs
  obtain ⟨w, o⟩ := v
  have s1 : L x 0 = lN w := s1
  have s2 : I x 1 = bz o := s2
  have s3 : w ≤ mxL := s3
  have hI : u2 I x 1 (bz o) = I := u2_same s2
  have hL : u2 L x 0 (lN w) = L := u2_same s1
  by_cases h0 : t = 0
  · subst h0
    rw [sAdd_0 (Nat.zero_mul e) s3, add_t0]
    exact ⟨lN w, bz o, by rw [hI, hL], rfl, rfl, s3⟩
  · by_cases h1 : e = 0
    · subst h1
      rw [sAdd_0 (Nat.mul_zero t) s3, add_e0]
      exact ⟨lN w, bz o, by rw [hI, hL], rfl, rfl, s3⟩
    · rw [add_big h0 h1 ht he, g_value hx, ob1_some, s1, hd_mx s3]
      by_cases h2 : w + t * e ≤ mxL
      · rw [if_pos (by rw [hq_mx s3 ht h1 he]; exact h2), sTail, g_isOver hx, ob1_some, s2]
        cases o with
        | false =>
          rw [sAdd_in h2, if_pos (show bz false = 0 from rfl), g_value hx, ob1_some, s1, p_value hx, ob1_some, lN_mul, lN_add]
          exact ⟨lN (w + t * e), bz false, by rw [hI], rfl, rfl, h2⟩
        | true =>
          rw [sAdd_over, if_neg (by decide)]
          exact ⟨lN w, bz true, by rw [hI, hL], rfl, rfl, s3⟩
      · have hov : sAdd (w, o) t e = (w, true) := by
          cases o with
          | false => exact sAdd_out h2
          | true => rfl
        rw [hov, if_neg (by rw [hq_mx s3 ht h1 he]; exact h2), p_isOver hx, ob1_some, sTail, g_isOver hx, ob1_some, u2_eq, if_neg (by decide)]
        exact ⟨lN w, bz true, by rw [hL]; rfl, rfl, rfl, s3⟩
theorem add_is {I : Nat → Nat → Int32} {L : Nat → Nat → Int64} {x : Nat} {v : Nat × Bool} {v' : Int64} {o' : Int32} (h1 : v' = lN v.1) (h2 : o' = bz v.2) (h3 : v.1 ≤ mxL) : SumIs (u2 I x 1 o') (u2 L x 0 v') x v := ⟨by rw [u2_eq, h1], by rw [u2_eq, h2], h3⟩
