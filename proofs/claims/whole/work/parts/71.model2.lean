theorem mu2 {α : Type} {I : Nat → Nat → α} {k i j : Nat} {v : α} : u2 I k i v k j = if j = i then v else I k j := by
  by_cases e : j = i
  · rw [e, u2_eq, if_pos rfl]
  · rw [u2_ne (Or.inr e), if_neg e]
theorem l_I (x : Int32) {j : Nat} (h : j < 2147483648) (e : x = nI j) : Int32.toInt64 x = lN j := by rw [e, nI_l h]
/-! towns -/
theorem in_town (x : Int32) : fX10_in (Int32.toInt64 x) 2 6 = some (bz (match ix x 7 with | some t => decide (2 ≤ t) | none => false)) := by
  unfold fX10_in
  have e0 : (Int32.toInt64 x).toInt = x.toInt := Int32.toInt_toInt64 x
  have z2 : (2 : Int64).toInt = 2 := rfl
  have z6 : (6 : Int64).toInt = 6 := rfl
  rcases ix_cases x (m := 7) (by decide) with ⟨j, h1, rfl, h3⟩ | ⟨h1, h2⟩
  · have hj := nI_toInt (n := j) (by omega)
    rw [h3]
    dsimp only
    by_cases c : 2 ≤ j
    · rw [if_neg (by rw [Int64.lt_iff_toInt_lt, e0, hj]; omega), if_neg (by rw [Int64.lt_iff_toInt_lt, e0, hj]; omega), decide_eq_true c]
      rfl
    · rw [if_pos (by rw [Int64.lt_iff_toInt_lt, e0, hj]; omega), decide_eq_false c]
      rfl
  · rw [h1]
    dsimp only
    by_cases c : Int32.toInt64 x < 2
    · rw [if_pos c]; rfl
    · rw [if_neg c]
      have c2 : ¬ x < 0 := fun q => c (by
        have e1 := Int32.lt_iff_toInt_lt.mp q
        have z0 : (0 : Int32).toInt = 0 := rfl
        rw [Int64.lt_iff_toInt_lt, e0]
        omega)
      obtain ⟨u, hu, rfl⟩ := nI_of c2
      have hu2 := nI_toInt (n := u) (by omega)
      have : ¬ u < 7 := fun q => h2 u q rfl
      rw [if_pos (by rw [Int64.lt_iff_toInt_lt, e0, hu2]; omega)]
      rfl
theorem d_towns {B n : Nat} {I : Nat → Nat → Int32} {L : Nat → Nat → Int64} {Q : Nat → Nat → Option Nat} {R : Nat → RDt} {s : STT} (h : IsM I L s) (hs : OkS s) (x : Int32) : RunM B n I L Q R (fX10_towns (B + 108) x (MK B n I L Q R)) (A_towns s x) := by
  have h6 := hs.1.2.1
  unfold fX10_towns A_towns
  rw [in_town, ob1_some]
  rcases ix_cases x (m := 7) (by decide) with ⟨t, h1, rfl, h3⟩ | ⟨h1, h2⟩
  · rw [h3]
    dsimp only
    by_cases c : t < 2
    · have z : bz (decide (2 ≤ t)) = 0 := by rw [decide_eq_false (by omega)]; rfl
      rw [if_pos z]
      show RunM B n I L Q R _ (if t < 2 then (-2, s) else (nI (nT (stN s)), setN s (t, 0, nRd (stN s), nTl (stN s), nC (stN s))))
      rw [if_pos c]
      exact RunM.same h rfl
    · have z : ¬ bz (decide (2 ≤ t)) = 0 := by rw [decide_eq_true (by omega)]; decide
      rw [if_neg z]
      show RunM B n I L Q R _ (if t < 2 then (-2, s) else (nI (nT (stN s)), setN s (t, 0, nRd (stN s), nTl (stN s), nC (stN s))))
      rw [if_neg c, g_Mnow, ob1_some, show (0 : Int32) = nI 0 from rfl, a_Mnow (by decide), ob1_some, h.1.1, l_toI (by omega), bnd_eq, ob1_some, nI_l (by omega), s_Mnow (by decide), ob1_some, g_Mnow, ob1_some, show (1 : Int32) = nI 1 from rfl, s_Mnow (by decide), ob1_some]
      refine ⟨I, _, rfl, h.setNow ⟨?_, u2_eq, fun r j hr => absurd hr (Nat.not_lt_zero r), fun c j hc hj => ?_⟩ (fun a ha => by rw [u2_nk ha, u2_nk ha]), fun a ha => ⟨rfl, by rw [u2_nk (by omega), u2_nk (by omega)]⟩⟩
      · rw [u2_ne (by omega), u2_eq]; rfl
      · rw [u2_ne (by omega), u2_ne (by omega)]; exact h.1.2.2.2 c j hc hj
  · rw [h1]
    dsimp only
    rw [if_pos (by rfl)]
    exact RunM.same h rfl
/-! a toll -/
theorem d_toll {B n : Nat} {I : Nat → Nat → Int32} {L : Nat → Nat → Int64} {Q : Nat → Nat → Option Nat} {R : Nat → RDt} {s : STT} (h : IsM I L s) (hs : OkS s) (x : Int32) (v : Int64) : RunM B n I L Q R (fX10_toll (B + 108) x v (MK B n I L Q R)) (A_toll s x v) := by
  have hm := hs.2.1
  unfold A_toll fX10_toll
  rw [m_isRoad h.1 (by omega), ob1_some]
  rcases ix_cases x (m := nM (stN s)) (by omega) with ⟨r, h1, rfl, h3⟩ | ⟨h1, h2⟩
  · rw [h3, if_neg (bS r), show (1000000000 : Int64) = lN 1000000000 from rfl, in_lx, ob1_some]
    dsimp only
    rcases lx_cases v (m := 1000000000) (by decide) with ⟨w, w1, rfl, w3⟩ | ⟨w1, w2⟩
    · rw [w3, if_neg (bS w), show (7 : Int32) = nI 7 from rfl, m_ofRoad h.1 (by omega) h1 (by decide), ob1_some, g_Mnow, ob1_some, show (2 : Int32) = nI 2 from rfl, show (8 : Int32) = nI 8 from rfl, nI_mulx, nI_add, nI_add, s_Mnow (by omega), ob1_some]
      refine ⟨I, u2 L 109 (2 + 8 * r + 7) (lN w), rfl, h.setNow ⟨?_, ?_, fun q j (hq : q < nM (stN s)) hj => ?_, fun c j hc hj => ?_⟩ (fun a ha => u2_nk ha), fun a ha => ⟨rfl, u2_nk (by omega)⟩⟩
      · rw [u2_ne (by omega)]; exact h.1.1
      · rw [u2_ne (by omega)]; exact h.1.2.1
      · rw [mu2]
        show _ = lN (fld (nRd (stN s) q) (if q = r then w else nTl (stN s) q) j)
        by_cases e : q = r ∧ j = 7
        · rw [if_pos (by omega), e.1, e.2, if_pos rfl]
          rfl
        · rw [if_neg (by omega), h.1.2.2.1 q j hq hj]
          by_cases e2 : q = r
          · have : j < 7 := by omega
            unfold fld
            split <;> (try rfl) <;> split <;> (try rfl) <;> split <;> (try rfl) <;> split <;> (try rfl) <;> split <;> (try rfl) <;> split <;> (try rfl) <;> split <;> (try rfl)
            omega
          · rw [if_neg e2]
      · rw [u2_ne (by omega)]; exact h.1.2.2.2 c j hc hj
    · rw [w1, if_pos bN]
      exact RunM.same h rfl
  · rw [h1, if_pos bN]
    exact RunM.same h rfl
theorem d_of {B n : Nat} {I : Nat → Nat → Int32} {L : Nat → Nat → Int64} {Q : Nat → Nat → Option Nat} {R : Nat → RDt} {s : STT} (h : IsM I L s) (hs : OkS s) (x w : Int32) : fX10_of (B + 108) x w (MK B n I L Q R) = some (A_of s x w) := by
  have hm := hs.2.1
  unfold A_of fX10_of
  rw [m_isRoad h.1 (by omega), ob1_some, NO_lit]
  rcases ix_cases x (m := nM (stN s)) (by omega) with ⟨r, h1, rfl, h3⟩ | ⟨h1, h2⟩
  · rw [h3, if_neg (bS r), in_ix w (m := 8) (by decide) rfl, ob1_some]
    dsimp only
    rcases ix_cases w (m := 8) (by decide) with ⟨k, k1, rfl, k3⟩ | ⟨k1, k2⟩
    · rw [k3, if_neg (bS k), m_ofRoad h.1 (by omega) h1 k1, ob1_some]
      dsimp only
      unfold fld
      refine congrArg some ?_
      split <;> (try rfl) <;> split <;> (try rfl) <;> split <;> (try rfl) <;> split <;> (try rfl) <;> split <;> (try rfl) <;> split <;> (try rfl) <;> split <;> rfl
    · rw [k1, if_pos bN]
  · rw [h1, if_pos bN]
/-! what a road costs -/
theorem m_costBy {B n : Nat} {I : Nat → Nat → Int32} {L : Nat → Nat → Int64} {Q : Nat → Nat → Option Nat} {R : Nat → RDt} {N : NET} {r x : Nat} (h : MNet L 109 N) (hO : NetOK N) (hr : r < nM N) (hx : x < 2147483648) : fX10_costBy (B + 108) (nI r) (nI x) (MK B n I L Q R) = some (lN (rCost (nRd N r) x)) := by
  have h13 := hO.2.2.1
  obtain ⟨k1, k2, k3, k4, k5, k6, k7⟩ := (hO.2.2.2.1 r hr).1
  have f : ∀ j, j < 8 → fX10_ofRoad (B + 108) (nI r) (nI j) (MK B n I L Q R) = some (lN (fld (nRd N r) (nTl N r) j)) := fun j hj => m_ofRoad h h13 hr hj
  have f2 : fX10_ofRoad (B + 108) (nI r) 2 (MK B n I L Q R) = some (lN (dKind (nRd N r))) := f 2 (by decide)
  have f3 : fX10_ofRoad (B + 108) (nI r) 3 (MK B n I L Q R) = some (lN (dBase (nRd N r))) := f 3 (by decide)
  have f4 : fX10_ofRoad (B + 108) (nI r) 4 (MK B n I L Q R) = some (lN (dSlope (nRd N r))) := f 4 (by decide)
  have f5 : fX10_ofRoad (B + 108) (nI r) 5 (MK B n I L Q R) = some (lN (dSteep (nRd N r))) := f 5 (by decide)
  have f6 : fX10_ofRoad (B + 108) (nI r) 6 (MK B n I L Q R) = some (lN (dKnee (nRd N r))) := f 6 (by decide)
  have a0 : ∀ a : Int64, a + 0 = a := Int64.add_zero
  unfold fX10_costBy rCost
  rw [f2, ob1_some, f3, ob1_some, bnd_eq]
  dsimp only
  by_cases c1 : dKind (nRd N r) ≤ 0
  · rw [if_pos (by rw [L0, pk_lLE (by omega) (by omega)]; exact c1), f6, bnd_eq, ob1_some, bnd_eq, if_pos (by rw [show (1 : Int64) = lN 1 from rfl, pk_lLE (by omega) (by omega)]; omega), bnd_eq, if_neg (by omega), if_neg (by omega), a0, a0, Nat.add_zero]
  · rw [if_neg (by rw [L0, pk_lLE (by omega) (by omega)]; exact c1), f4, ob1_some, nI_l hx, lN_mul, f6, bnd_eq, ob1_some, bnd_eq, if_pos (show 1 ≤ dKind (nRd N r) by omega)]
    by_cases c2 : dKind (nRd N r) ≤ 1
    · rw [if_pos (by rw [show (1 : Int64) = lN 1 from rfl, pk_lLE (by omega) (by omega)]; exact c2), bnd_eq, if_neg (by omega), a0, lN_add, Nat.add_zero]
    · have hd : (lN x - lN (dKnee (nRd N r)) ≤ 0) = (x ≤ dKnee (nRd N r)) := by
        have e : (lN x - lN (dKnee (nRd N r))).toInt = (x : Int) - (dKnee (nRd N r) : Int) := by
          rw [Int64.toInt_sub, pk_lT (by omega), pk_lT (by omega)]
          exact Int.bmod_eq_of_le (by omega) (by omega)
        rw [Int64.le_iff_toInt_le, e, show (0 : Int64).toInt = 0 from rfl]
        exact propext ⟨fun h => by omega, fun h => by omega⟩
      rw [if_neg (by rw [show (1 : Int64) = lN 1 from rfl, pk_lLE (by omega) (by omega)]; exact c2), if_pos (show 2 ≤ dKind (nRd N r) by omega)]
      by_cases c3 : x ≤ dKnee (nRd N r)
      · rw [if_pos (by rw [hd]; exact c3), bnd_eq, show x - dKnee (nRd N r) = 0 by omega, Nat.mul_zero, Nat.add_zero, a0, lN_add]
      · rw [if_neg (by rw [hd]; exact c3), f5, ob1_some, lN_sub (by omega), lN_mul, lN_add, lN_add, bnd_eq]
theorem m_lossBy {B n : Nat} {I : Nat → Nat → Int32} {L : Nat → Nat → Int64} {Q : Nat → Nat → Option Nat} {R : Nat → RDt} {N : NET} {r x : Nat} (h : MNet L 109 N) (hO : NetOK N) (hr : r < nM N) (hx : x ≤ 37) : fX10_lossBy (B + 108) (nI r) (nI x) (MK B n I L Q R) = some (lN (rLoss (nRd N r) x)) := by
  obtain ⟨k1, k2, k3, k4, k5, k6, k7⟩ := (hO.2.2.2.1 r hr).1
  unfold fX10_lossBy
  by_cases c : 1 < x
  · obtain ⟨y, rfl⟩ : ∃ y, x = y + 1 := ⟨x - 1, by omega⟩
    have e : nI (y + 1) - 1 = nI y := by rw [l1, pk_sub (by omega)]; rfl
    have hg : rCost (nRd N r) (y + 1) = rCost (nRd N r) y + rGrow (nRd N r) (y + 1) := by
      unfold rCost rGrow
      rw [Nat.mul_add]
      by_cases a : 1 ≤ dKind (nRd N r)
      · rw [if_pos a, if_pos a, if_pos a]
        by_cases b : 2 ≤ dKind (nRd N r)
        · rw [if_pos b, if_pos b]
          by_cases d : dKnee (nRd N r) < y + 1
          · rw [if_pos ⟨b, d⟩, show y + 1 - dKnee (nRd N r) = (y - dKnee (nRd N r)) + 1 by omega, Nat.mul_add]
            omega
          · rw [if_neg (by omega), show y + 1 - dKnee (nRd N r) = 0 by omega, show y - dKnee (nRd N r) = 0 by omega]
            omega
        · rw [if_neg b, if_neg b, if_neg (by omega)]
          omega
      · rw [if_neg a, if_neg a, if_neg a, if_neg (by omega), if_neg (by omega), if_neg (by omega)]
    rw [if_pos (by rw [l1, nI_ltI (by omega) (by omega)]; exact c), m_costBy h hO hr (by omega), ob1_some, e, m_costBy h hO hr (by omega), ob1_some, nI_l (by omega), L1, lN_sub (by omega), lN_sub (by omega), lN_mul, hg]
    unfold rLoss
    rw [show rCost (nRd N r) y + rGrow (nRd N r) (y + 1) - rCost (nRd N r) y = rGrow (nRd N r) (y + 1) by omega]
  · rw [if_neg (by rw [l1, nI_ltI (by omega) (by omega)]; exact c)]
    unfold rLoss
    rw [show x - 1 = 0 by omega, Nat.zero_mul]
    rfl
theorem in_load (x : Int32) : fX10_in (Int32.toInt64 x) 1 36 = some (bz (ixL x).isSome) := by
  unfold fX10_in
  have e0 : (Int32.toInt64 x).toInt = x.toInt := Int32.toInt_toInt64 x
  have z1 : (1 : Int64).toInt = 1 := rfl
  have z6 : (36 : Int64).toInt = 36 := rfl
  have i1 : (1 : Int32).toInt = 1 := rfl
  have i6 : (36 : Int32).toInt = 36 := rfl
  rcases ixL_cases x with ⟨k, a1, a2, rfl, a3, a4⟩ | ⟨a3, a4⟩
  · have hj := nI_toInt (n := k) (by omega)
    rw [a3, if_neg (by rw [Int64.lt_iff_toInt_lt, e0, hj]; omega), if_neg (by rw [Int64.lt_iff_toInt_lt, e0, hj]; omega)]
    rfl
  · rw [a3]
    unfold fX9_isLoad at a4
    by_cases c : x < 1
    · have c' := Int32.lt_iff_toInt_lt.mp c
      rw [if_pos (by rw [Int64.lt_iff_toInt_lt, e0]; omega)]
      rfl
    · rw [if_neg c] at a4
      have c' : ¬ x.toInt < (1 : Int32).toInt := fun q => c (Int32.lt_iff_toInt_lt.mpr q)
      by_cases d : 36 < x
      · have d' := Int32.lt_iff_toInt_lt.mp d
        rw [if_neg (by rw [Int64.lt_iff_toInt_lt, e0]; omega), if_pos (by rw [Int64.lt_iff_toInt_lt, e0]; omega)]
        rfl
      · rw [if_neg d] at a4
        cases a4
theorem d_cost {B n : Nat} {I : Nat → Nat → Int32} {L : Nat → Nat → Int64} {Q : Nat → Nat → Option Nat} {R : Nat → RDt} {s : STT} (h : IsM I L s) (hs : OkS s) (x y w : Int32) : fX10_cost (B + 108) x y w (MK B n I L Q R) = some (A_cost s x y w) := by
  have hm := hs.2.1
  unfold A_cost fX10_cost
  rw [m_isRoad h.1 (by omega), ob1_some, NO_lit]
  rcases ix_cases x (m := nM (stN s)) (by omega) with ⟨r, h1, rfl, h3⟩ | ⟨h1, h2⟩
  · rw [h3, if_neg (bS r), in_load, ob1_some]
    dsimp only
    rcases ixL_cases y with ⟨k, a1, a2, rfl, a3, a4⟩ | ⟨a3, a4⟩
    · rw [a3, if_neg (bS k), in2, ob1_some]
      dsimp only
      rcases ix_cases w (m := 2) (by decide) with ⟨z, j1, rfl, j3⟩ | ⟨j1, j2⟩
      · rw [j3, if_neg (bS z)]
        dsimp only
        by_cases e : z = 0
        · subst e
          rw [if_pos (show nI 0 = (0 : Int32) from rfl), if_pos rfl, m_costBy h.1 hs.1 h1 (by omega), ob1_some]
        · rw [if_neg (by rw [show (0 : Int32) = nI 0 from rfl, nI_eq (by omega) (by omega)]; exact e), if_neg e, m_lossBy h.1 hs.1 h1 (by omega), ob1_some]
      · rw [j1, if_pos bN]
    · rw [a3, if_pos bN]
  · rw [h1, if_pos bN]
