theorem d_laid {B n : Nat} {I : Nat → Nat → Int32} {L : Nat → Nat → Int64} {Q : Nat → Nat → Option Nat} {R : Nat → RDt} {s : STT} (h : IsM I L s) (hs : OkS s) (x i y : Int32) : fX10_laid (B + 108) x i y (MK B n I L Q R) = some (A_laid s x i y) := by
  have a0 : ∀ a : Int64, a + 0 = a := Int64.add_zero
  unfold A_laid fX10_laid
  rw [m_isTray, ob1_some, NO_lit]
  rcases ix_cases x (m := 3) (by decide) with ⟨t, h1, rfl, h3⟩ | ⟨h1, h2⟩
  · rw [h3, if_neg (bS t), in_load, ob1_some]
    dsimp only
    have g := h.2.2.2.2 t h1
    rcases ixL_cases y with ⟨k, b1, b2, rfl, b3, b4⟩ | ⟨b3, b4⟩
    · rw [b3, if_neg (bS k), g_MtrayKind, ob1_some, a_MtrayKind h1, ob1_some]
      dsimp only
      cases hv : stY s t with
      | none =>
        rw [hv] at g
        have g : I 128 t = -1 := g
        rw [g, if_pos (by decide)]
      | some v =>
        obtain ⟨v1, v2, v3⟩ := hs.2.2.2.2.2 t v h1 hv
        rw [hv] at g
        obtain ⟨g1, g2, g3⟩ := g
        have hlen : fX10_in (Int32.toInt64 i) 0 (Int32.toInt64 (nI v.2.1 - 1)) = some (bz (ix i v.2.1).isSome) := m_inLen i (by omega)
        rw [g1, if_neg (nI_pos (by omega)), g_MtrayMany, ob1_some, a_MtrayMany h1, ob1_some, g2, hlen, ob1_some]
        dsimp only
        rcases ix_cases i (m := v.2.1) (by omega) with ⟨j, j1, rfl, j3⟩ | ⟨j1, j2⟩
        · have hp := g3 j (by omega)
          rw [j3, if_neg (bS j), g_MisLaid, ob1_some, show (20 : Int32) = nI 20 from rfl, nI_mulx, nI_add, a_MisLaid (by omega), ob1_some]
          dsimp only
          cases hd : v.2.2 j with
          | none =>
            rw [hd] at hp
            have hp : I 130 (20 * t + j) = 0 := hp
            rw [hp, if_pos rfl]
          | some d =>
            obtain ⟨k1, k2, k3, k4, k5, k6, k7⟩ := v3 j d (by omega) hd
            rw [hd] at hp
            obtain ⟨p0, p1, p2, p3, p4, p5⟩ := hp
            have e0 : (5 : Int32) * nI (20 * t + j) = nI (5 * (20 * t + j)) := by rw [show (5 : Int32) = nI 5 from rfl, nI_mulx]
            rw [p0, if_neg (by decide), e0, bnd_eq, g_Mtrays, ob1_some, show (4 : Int32) = nI 4 from rfl, nI_add, a_Mtrays (by omega), ob1_some, p5, nI_l (by omega), bnd_eq, ob1_some, l1, nI_add, a_Mtrays (by omega), ob1_some, p2, ob1_some, a_Mtrays (by omega), ob1_some, p1, bnd_eq]
            dsimp only
            show _ = some (lN (rCost d k))
            unfold rCost
            by_cases c1 : dKind d ≤ 0
            · rw [if_pos (by rw [L0, pk_lLE (by omega) (by omega)]; exact c1), bnd_eq, ob1_some, a_Mtrays (by omega), ob1_some, p1, if_pos (by rw [L1, pk_lLE (by omega) (by omega)]; omega), if_neg (by omega), if_neg (by omega), a0, a0, Nat.add_zero]
            · rw [if_neg (by rw [L0, pk_lLE (by omega) (by omega)]; exact c1), ob1_some, l2, nI_add, a_Mtrays (by omega), ob1_some, p3, lN_mul, bnd_eq, ob1_some, a_Mtrays (by omega), ob1_some, p1, if_pos (show 1 ≤ dKind d by omega)]
              by_cases c2 : dKind d ≤ 1
              · rw [if_pos (by rw [L1, pk_lLE (by omega) (by omega)]; exact c2), if_neg (by omega), a0, lN_add, Nat.add_zero]
              · have hz : (lN k - lN (dKnee d) ≤ 0) = (k ≤ dKnee d) := by
                  have e : (lN k - lN (dKnee d)).toInt = (k : Int) - (dKnee d : Int) := by
                    rw [Int64.toInt_sub, pk_lT (by omega), pk_lT (by omega)]
                    exact Int.bmod_eq_of_le (by omega) (by omega)
                  rw [Int64.le_iff_toInt_le, e, show (0 : Int64).toInt = 0 from rfl]
                  exact propext ⟨fun h => by omega, fun h => by omega⟩
                rw [if_neg (by rw [L1, pk_lLE (by omega) (by omega)]; exact c2), if_pos (show 2 ≤ dKind d by omega)]
                by_cases c3 : k ≤ dKnee d
                · rw [if_pos (by rw [hz]; exact c3), show k - dKnee d = 0 by omega, Nat.mul_zero, Nat.add_zero, a0, lN_add]
                · rw [if_neg (by rw [hz]; exact c3), ob1_some, l3, nI_add, a_Mtrays (by omega), ob1_some, p4, lN_sub (by omega), lN_mul, lN_add, lN_add]
        · rw [j1, if_pos bN]
    · rw [b3, if_pos bN]
  · rw [h1, if_pos bN]
