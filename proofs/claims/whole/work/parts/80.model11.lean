theorem m_putP {I : Nat → Nat → Int32} {L L' : Nat → Nat → Int64} {s : STT} {t k : Nat} {v : Nat × Nat × (Nat → Option RD)} {d : Option RD} {z : Int32} (h : IsM I L s) (ht : t < 3) (hv : stY s t = some v) (hk : k < 20) (hL : ∀ a, a ≠ 131 → L' a = L a) (hL2 : ∀ i, ¬ (5 * (20 * t + k) ≤ i ∧ i < 5 * (20 * t + k) + 5) → L' 131 i = L 131 i) (hp : MPlace (u2 I 130 (20 * t + k) z) L' (20 * t + k) d) : IsM (u2 I 130 (20 * t + k) z) L' (putP s t v k d) := by
  have g := h.2.2.2.2 t ht
  rw [hv] at g
  obtain ⟨g1, g2, g3⟩ := g
  refine h.setTray (fun a _ _ a3 => u2_nk a3) hL ⟨by rw [u2_nk (by decide)]; exact g1, by rw [u2_nk (by decide)]; exact g2, fun j hj => ?_⟩ (fun q hq h4 => ⟨by rw [u2_nk (by decide)], by rw [u2_nk (by decide)], fun j hj => ⟨u2_ne (by omega), fun i hi => hL2 _ (by omega)⟩⟩)
  show MPlace (u2 I 130 (20 * t + k) z) L' (20 * t + j) (if j = k then d else v.2.2 j)
  by_cases e : j = k
  · rw [if_pos e, e]; exact hp
  · rw [if_neg e]
    have p := g3 j hj
    have o1 : u2 I 130 (20 * t + k) z 130 (20 * t + j) = I 130 (20 * t + j) := u2_ne (by omega)
    cases hd : v.2.2 j with
    | none =>
      rw [hd] at p
      exact o1.trans p
    | some d' =>
      rw [hd] at p
      obtain ⟨p0, p1, p2, p3, p4, p5⟩ := p
      exact ⟨o1.trans p0, (hL2 _ (by omega)).trans p1, (hL2 _ (by omega)).trans p2, (hL2 _ (by omega)).trans p3, (hL2 _ (by omega)).trans p4, (hL2 _ (by omega)).trans p5⟩
theorem d_lays {B n : Nat} {I : Nat → Nat → Int32} {L : Nat → Nat → Int64} {Q : Nat → Nat → Option Nat} {R : Nat → RDt} {s : STT} (h : IsM I L s) (hs : OkS s) (x i r : Int32) : RunM B n I L Q R (fX10_lays (B + 108) x i r (MK B n I L Q R)) (A_lays s x i r) := by
  have hm := hs.2.1
  unfold A_lays fX10_lays
  rw [m_isTray, ob1_some]
  rcases ix_cases x (m := 3) (by decide) with ⟨t, h1, rfl, h3⟩ | ⟨h1, h2⟩
  · rw [h3, if_neg (bS t), bnd_eq]
    dsimp only
    have g := h.2.2.2.2 t h1
    have hj3 : (r = -1 ∨ (ix r (nM (stN s))).isSome = true) → RunM B n I L Q R (
      ob1 (gR (MK B n I L Q R) (B + 108) 10 27) fun b4 =>
      ob1 (aI (MK B n I L Q R) b4 0 (nI t)) fun v6 =>
      if (0 : Int32) ≤ v6 then
        ob1 (gR (MK B n I L Q R) (B + 108) 10 28) fun b8 =>
        ob1 (aI (MK B n I L Q R) b8 0 (nI t)) fun v10 =>
        ob1 (fX10_in (Int32.toInt64 i) (0 : Int64) (Int32.toInt64 (v10 - (1 : Int32)))) fun r12 =>
        if r12 = (0 : Int32) then
          some ((-13 : Int32), (MK B n I L Q R))
        else
          bnd (
            bnd (((20 : Int32) * nI t) + i) fun y15 =>
            ob1 (gR (MK B n I L Q R) (B + 108) 10 29) fun b16 =>
            bnd (fun (v19 : Int32) =>
              ob1 (sZ (MK B n I L Q R) b16 y15 v19) fun g20 =>
              fX10_lays_L106 (B + 108) r y15 (fun (g31 : AH) =>
                some ((1 : Int32), g31)
              ) lf (0 : Int32) g20
            ) fun j18 =>
            if r < (0 : Int32) then
              j18 (0 : Int32)
            else
              j18 (1 : Int32)
          ) fun j14 =>
          if r < (0 : Int32) then
            j14
          else
            ob1 (fX10_ofRoad (B + 108) r (2 : Int32) (MK B n I L Q R)) fun r33 =>
            ob1 (gR (MK B n I L Q R) (B + 108) 10 27) fun b35 =>
            ob1 (aI (MK B n I L Q R) b35 0 (nI t)) fun v37 =>
            if (Int32.toInt64 v37) ≤ r33 then
              j14
            else
              some ((-16 : Int32), (MK B n I L Q R))
      else
        some ((-11 : Int32), (MK B n I L Q R))) (match stY s t with
    | some v => (match ix i v.2.1 with
      | some k => (match ix r (nM (stN s)) with
        | some q => if v.1 ≤ dKind (nRd (stN s) q) then (1, putP s t v k (some (nRd (stN s) q))) else (-16, s)
        | none => (1, putP s t v k none))
      | none => (-13, s))
    | none => (-11, s)) := by
      intro hr
      rw [g_MtrayKind, ob1_some, a_MtrayKind h1, ob1_some]
      cases hv : stY s t with
      | none =>
        rw [hv] at g
        have g : I 128 t = -1 := g
        rw [g, if_neg (by decide)]
        exact RunM.same h rfl
      | some v =>
        obtain ⟨v1, v2, v3⟩ := hs.2.2.2.2.2 t v h1 hv
        rw [hv] at g
        obtain ⟨g1, g2, g3⟩ := g
        have hlen : fX10_in (Int32.toInt64 i) 0 (Int32.toInt64 (nI v.2.1 - 1)) = some (bz (ix i v.2.1).isSome) := m_inLen i (by omega)
        rw [g1, if_pos (nI_pos' (by omega)), g_MtrayMany, ob1_some, a_MtrayMany h1, ob1_some, g2, hlen, ob1_some]
        dsimp only
        rcases ix_cases i (m := v.2.1) (by omega) with ⟨k, k1, rfl, k3⟩ | ⟨k1, k2⟩
        · rw [k3, if_neg (bS k), bnd_eq, bnd_eq, g_MisLaid, ob1_some, bnd_eq, show (20 : Int32) = nI 20 from rfl, nI_mulx, nI_add]
          dsimp only
          rcases ix_cases r (m := nM (stN s)) (by omega) with ⟨q, q1, rfl, q3⟩ | ⟨q1, q2⟩
          · have hrk := (hs.1.2.2.2.1 q q1).1
            have hof : fX10_ofRoad (B + 108) (nI q) 2 (MK B n I L Q R) = some (lN (dKind (nRd (stN s) q))) := m_ofRoad h.1 (by omega) q1 (show 2 < 8 by decide)
            have hneg : ¬ nI q < 0 := nI_pos (by omega)
            rw [q3, if_neg hneg, if_neg hneg, hof, ob1_some, ob1_some, a_MtrayKind h1, ob1_some, g1, nI_l (by omega)]
            dsimp only
            have hk2 := hrk.1
            by_cases c : v.1 ≤ dKind (nRd (stN s) q)
            · rw [if_pos c, if_pos (by rw [pk_lLE (by omega) (by omega)]; exact c), s_MisLaid (v := 1) (by omega) (Or.inr rfl), ob1_some]
              obtain ⟨L', r1, r2, r3⟩ := m_lays_L106 (B := B) (n := n) (I := u2 I 130 (20 * t + k) 1) (Q := Q) (R := R) (y := 20 * t + k) h.1 (by omega) q1 (by omega) (fun (g31 : AH) => some ((1 : Int32), g31)) 5 lf 0 L (by omega) (by decide) (fun _ _ => rfl) (fun i => by rw [if_neg (by omega)])
              have p : ∀ j, j < 5 → L' 131 (5 * (20 * t + k) + j) = lN (fld (nRd (stN s) q) (nTl (stN s) q) (2 + j)) := fun j hj => by rw [r3, if_pos (by omega), show 5 * (20 * t + k) + j - 5 * (20 * t + k) = j by omega]
              exact ⟨_, L', r1, m_putP h h1 hv (by omega) r2 (fun i hi => by rw [r3, if_neg hi]) ⟨u2_eq, p 0 (by decide), p 1 (by decide), p 2 (by decide), p 3 (by decide), p 4 (by decide)⟩, fun a ha => ⟨u2_nk (by omega), r2 a (by omega)⟩⟩
            · rw [if_neg c, if_neg (by rw [pk_lLE (by omega) (by omega)]; exact c)]
              exact RunM.same h rfl
          · have er : r = -1 := hr.elim id (fun e => by rw [q1] at e; cases e)
            subst er
            have hneg : (-1 : Int32) < 0 := by decide
            rw [q1, if_pos hneg, if_pos hneg, s_MisLaid (v := 0) (by omega) (Or.inl rfl), ob1_some]
            dsimp only
            refine ⟨_, L, ?_, m_putP h h1 hv (by omega) (fun _ _ => rfl) (fun _ _ => rfl) (show u2 I 130 (20 * t + k) 0 130 (20 * t + k) = 0 from u2_eq), fun a ha => ⟨u2_nk (by omega), rfl⟩⟩
            show fX10_lays_L106 (B + 108) (-1) (nI (20 * t + k)) _ (999 + 1) 0 _ = _
            rw [fX10_lays_L106, if_neg (by decide), if_pos hneg]
        · rw [k1, if_pos bN]
          exact RunM.same h rfl
    by_cases e : r = -1
    · rw [if_pos e, if_pos (Or.inl e)]
      exact hj3 (Or.inl e)
    · rw [if_neg e, m_isRoad h.1 (by omega), ob1_some]
      by_cases hsm : (ix r (nM (stN s))).isSome = true
      · have z : ¬ bz (ix r (nM (stN s))).isSome = 0 := by rw [hsm]; decide
        rw [if_pos (Or.inr hsm), if_neg z]
        exact hj3 (Or.inr hsm)
      · have z : bz (ix r (nM (stN s))).isSome = 0 := by rw [Bool.eq_false_iff.mpr hsm]; rfl
        rw [if_pos z, if_neg (fun g : r = -1 ∨ (ix r (nM (stN s))).isSome = true => g.elim e hsm)]
        exact RunM.same h rfl
  · rw [h1, if_pos bN]
    exact RunM.same h rfl
