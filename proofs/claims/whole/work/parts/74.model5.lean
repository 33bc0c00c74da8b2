theorem m_puts {B n : Nat} {I : Nat → Nat → Int32} {L : Nat → Nat → Int64} {Q : Nat → Nat → Option Nat} {R : Nat → RDt} {N : NET} {d : RD} (h : MNet L 109 N) (hm : nM N ≤ 12) (hd : RDok d) : ∃ L' : Nat → Nat → Int64, fX10_puts (B + 108) (nI (dFrom d)) (nI (dTo d)) (nI (dKind d)) (lN (dBase d)) (lN (dSlope d)) (lN (dSteep d)) (nI (dKnee d)) (MK B n I L Q R) = some (MK B n I L' Q R) ∧ MNet L' 109 (putRd N d) ∧ (∀ a, a ≠ 109 → L' a = L a) := by
  obtain ⟨k1, k2, k3, k4, k5, k6, k7⟩ := hd
  refine ⟨u2 (u2 (u2 (u2 (u2 (u2 (u2 (u2 (u2 L 109 (2 + 8 * nM N) (lN (dFrom d))) 109 (2 + 8 * nM N + 1) (lN (dTo d))) 109 (2 + 8 * nM N + 2) (lN (dKind d))) 109 (2 + 8 * nM N + 3) (lN (dBase d))) 109 (2 + 8 * nM N + 4) (lN (dSlope d))) 109 (2 + 8 * nM N + 5) (lN (dSteep d))) 109 (2 + 8 * nM N + 6) (lN (dKnee d))) 109 (2 + 8 * nM N + 7) (lN 0)) 109 1 (lN (nM N + 1)), ?_, ⟨?_, u2_eq, fun r j hr hj => ?_, fun c j hc hj => ?_⟩, fun a ha => ?_⟩
  · have h1 := h.2.1
    unfold fX10_puts
    rw [m_roadMany h (by omega), ob1_some, show (2 : Int32) = nI 2 from rfl, show (8 : Int32) = nI 8 from rfl, nI_mulx, nI_add, bnd_eq]
    rw [show (1 : Int32) = nI 1 from rfl, show (3 : Int32) = nI 3 from rfl, show (4 : Int32) = nI 4 from rfl, show (5 : Int32) = nI 5 from rfl, show (6 : Int32) = nI 6 from rfl, show (7 : Int32) = nI 7 from rfl]
    rw [nI_add, nI_add, nI_add, nI_add, nI_add, nI_add, nI_add, nI_l (show dFrom d < 2147483648 by omega), nI_l (show dTo d < 2147483648 by omega), nI_l (show dKind d < 2147483648 by omega), nI_l (show dKnee d < 2147483648 by omega)]
    rw [g_Mnow, ob1_some, s_Mnow (by omega), ob1_some, g_Mnow, ob1_some, s_Mnow (by omega), ob1_some, g_Mnow, ob1_some, s_Mnow (by omega), ob1_some, g_Mnow, ob1_some, s_Mnow (by omega), ob1_some, g_Mnow, ob1_some, s_Mnow (by omega), ob1_some, g_Mnow, ob1_some, s_Mnow (by omega), ob1_some, g_Mnow, ob1_some, s_Mnow (by omega), ob1_some, g_Mnow, ob1_some, s_Mnow (by omega), ob1_some, g_Mnow, ob1_some, a_Mnow (by decide), ob1_some]
    rw [u2_ne (by omega), u2_ne (by omega), u2_ne (by omega), u2_ne (by omega), u2_ne (by omega), u2_ne (by omega), u2_ne (by omega), u2_ne (by omega), h1, L1, lN_add, s_Mnow (by decide), ob1_some]
    rfl
  · rw [u2_ne (by omega), u2_ne (by omega), u2_ne (by omega), u2_ne (by omega), u2_ne (by omega), u2_ne (by omega), u2_ne (by omega), u2_ne (by omega), u2_ne (by omega)]
    exact h.1
  · have hr : r < nM N + 1 := hr
    show _ = lN (fld (if r = nM N then d else nRd N r) (if r = nM N then 0 else nTl N r) j)
    rw [u2_ne (by omega)]
    by_cases e : r = nM N
    · subst e
      rw [if_pos rfl, if_pos rfl]
      obtain e | e | e | e | e | e | e | e : j = 0 ∨ j = 1 ∨ j = 2 ∨ j = 3 ∨ j = 4 ∨ j = 5 ∨ j = 6 ∨ j = 7 := by omega
      all_goals subst e
      · rw [u2_ne (by omega), u2_ne (by omega), u2_ne (by omega), u2_ne (by omega), u2_ne (by omega), u2_ne (by omega), u2_ne (by omega)]; exact (u2_eq : u2 L 109 (2 + 8 * nM N) (lN (dFrom d)) 109 (2 + 8 * nM N) = lN (dFrom d))
      · rw [u2_ne (by omega), u2_ne (by omega), u2_ne (by omega), u2_ne (by omega), u2_ne (by omega), u2_ne (by omega), u2_eq]; rfl
      · rw [u2_ne (by omega), u2_ne (by omega), u2_ne (by omega), u2_ne (by omega), u2_ne (by omega), u2_eq]; rfl
      · rw [u2_ne (by omega), u2_ne (by omega), u2_ne (by omega), u2_ne (by omega), u2_eq]; rfl
      · rw [u2_ne (by omega), u2_ne (by omega), u2_ne (by omega), u2_eq]; rfl
      · rw [u2_ne (by omega), u2_ne (by omega), u2_eq]; rfl
      · rw [u2_ne (by omega), u2_eq]; rfl
      · rw [u2_eq]; rfl
    · rw [if_neg e, if_neg e, u2_ne (by omega), u2_ne (by omega), u2_ne (by omega), u2_ne (by omega), u2_ne (by omega), u2_ne (by omega), u2_ne (by omega), u2_ne (by omega)]
      exact h.2.2.1 r j (by omega) hj
  · rw [u2_ne (by omega), u2_ne (by omega), u2_ne (by omega), u2_ne (by omega), u2_ne (by omega), u2_ne (by omega), u2_ne (by omega), u2_ne (by omega), u2_ne (by omega)]
    exact h.2.2.2 c j hc hj
  · rw [u2_nk ha, u2_nk ha, u2_nk ha, u2_nk ha, u2_nk ha, u2_nk ha, u2_nk ha, u2_nk ha, u2_nk ha]
theorem m_isTown {B n : Nat} {I : Nat → Nat → Int32} {L : Nat → Nat → Int64} {Q : Nat → Nat → Option Nat} {R : Nat → RDt} {N : NET} (h : MNet L 109 N) (h6 : nT N ≤ 6) (x : Int32) : fX10_isTown (B + 108) x (MK B n I L Q R) = some (bz (ix x (nT N)).isSome) := by
  unfold fX10_isTown
  rw [g_Mnow, ob1_some, show (0 : Int32) = nI 0 from rfl, a_Mnow (by decide), ob1_some, h.1, in_ix x (m := nT N) (by omega) (by
    rw [Int64.toInt_sub, pk_lT (by omega), show (1 : Int64).toInt = 1 from rfl]
    exact Int.bmod_eq_of_le (by omega) (by omega)), ob1_some, bz_zb, gd_true]
theorem m_areTowns {B n : Nat} {I : Nat → Nat → Int32} {L : Nat → Nat → Int64} {Q : Nat → Nat → Option Nat} {R : Nat → RDt} {N : NET} (h : MNet L 109 N) (h6 : nT N ≤ 6) (f t : Int32) : fX10_areTowns (B + 108) f t (MK B n I L Q R) = some (bz (jx N f t).isSome) := by
  unfold fX10_areTowns jx
  rw [m_isTown h h6, ob1_some]
  rcases ix_cases f (m := nT N) (by omega) with ⟨j, j1, rfl, j3⟩ | ⟨j1, j2⟩
  · rw [j3, if_neg (bS j), m_isTown h h6, ob1_some]
    dsimp only
    rcases ix_cases t (m := nT N) (by omega) with ⟨k, k1, rfl, k3⟩ | ⟨k1, k2⟩
    · rw [k3, if_neg (bS k)]
      dsimp only
      by_cases e : j = k
      · rw [if_pos e, if_pos (by rw [e])]; rfl
      · rw [if_neg e, if_neg (by rw [nI_eq (by omega) (by omega)]; exact e)]; rfl
    · rw [k1, if_pos bN]; rfl
  · rw [j1, if_pos bN]; rfl
theorem d_road {B n : Nat} {I : Nat → Nat → Int32} {L : Nat → Nat → Int64} {Q : Nat → Nat → Option Nat} {R : Nat → RDt} {s : STT} (h : IsM I L s) (hs : OkS s) (f t k : Int32) (b sl st : Int64) (kn : Int32) : RunM B n I L Q R (fX10_road (B + 108) f t k b sl st kn (MK B n I L Q R)) (A_road s f t k b sl st kn) := by
  have hO := hs.1
  have hm12 := hs.2.1
  have h6 := hO.2.1
  unfold fX10_road A_road
  rw [m_areTowns h.1 h6, ob1_some]
  rcases jx_cases (N := stN s) f t hO.2.1 with ⟨j, i, j1, j2, j3, rfl, rfl, j6⟩ | ⟨j1, j2⟩
  · rw [j6, if_neg (bS2 _), in3, ob1_some]
    dsimp only
    rcases ix_cases k (m := 3) (by decide) with ⟨kd, k1, rfl, k3⟩ | ⟨k1, k2⟩
    · rw [k3, if_neg (bS kd), show (100000000000000000 : Int64) = lN 100000000000000000 from rfl, in_lx, ob1_some]
      dsimp only
      rcases lx_cases b (m := 100000000000000000) (by decide) with ⟨w, w1, rfl, w3⟩ | ⟨w1, w2⟩
      · rw [w3, if_neg (bS w), show (100000000000000 : Int64) = lN 100000000000000 from rfl, in_lx, ob1_some]
        dsimp only
        rcases lx_cases sl (m := 100000000000000) (by decide) with ⟨v, v1, rfl, v3⟩ | ⟨v1, v2⟩
        · rw [v3, if_neg (bS v), in_lx, ob1_some]
          dsimp only
          rcases lx_cases st (m := 100000000000000) (by decide) with ⟨u, u1, rfl, u3⟩ | ⟨u1, u2'⟩
          · rw [u3, if_neg (bS u), in_ix kn (m := 37) (by decide) rfl, ob1_some]
            dsimp only
            rcases ix_cases kn (m := 37) (by decide) with ⟨g, g1, rfl, g3⟩ | ⟨g1, g2⟩
            · rw [g3, if_neg (bS g), g_Mnow, ob1_some, show (1 : Int32) = nI 1 from rfl, a_Mnow (by decide), ob1_some, h.1.2.1]
              dsimp only
              by_cases c : nM (stN s) < 12
              · obtain ⟨L', r1, r2, r3⟩ := m_puts (B := B) (n := n) (I := I) (Q := Q) (R := R) (d := (j, i, kd, w, v, u, g)) h.1 hm12 ⟨by show kd ≤ 2; omega, w1, v1, u1, by show g ≤ 36; omega, by show j < 6; omega, by show i < 6; omega⟩
                have r1 : fX10_puts (B + 108) (nI j) (nI i) (nI kd) (lN w) (lN v) (lN u) (nI g) (MK B n I L Q R) = some (MK B n I L' Q R) := r1
                have z : ¬ lN (nM (stN s)) = 12 := by rw [show (12 : Int64) = lN 12 from rfl, pk_lEQ (by omega) (by omega)]; omega
                have hm' : nM (putRd (stN s) (j, i, kd, w, v, u, g)) = nM (stN s) + 1 := rfl
                rw [if_pos c, if_neg z, r1, ob1_some, m_roadMany r2 (by omega), ob1_some, hm', pk_sub (by omega)]
                exact ⟨I, L', rfl, h.setNow r2 r3, fun a ha => ⟨rfl, r3 a (by omega)⟩⟩
              · have z : lN (nM (stN s)) = 12 := by rw [show nM (stN s) = 12 by omega]; rfl
                rw [if_neg c, if_pos z]
                exact RunM.same h rfl
            · rw [g1, if_pos bN]
              exact RunM.same h rfl
          · rw [u1, if_pos bN]
            exact RunM.same h rfl
        · rw [v1, if_pos bN]
          exact RunM.same h rfl
      · rw [w1, if_pos bN]
        exact RunM.same h rfl
    · rw [k1, if_pos bN]
      exact RunM.same h rfl
  · rw [j1, if_pos bN2]
    exact RunM.same h rfl
