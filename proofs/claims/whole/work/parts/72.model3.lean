/-! ranges with a least number -/
theorem in_rng (x : Int32) {lo hi : Nat} (h1 : hi < 2147483647) {l v : Int64} (hl : l.toInt = (lo : Int)) (hv : v.toInt = (hi : Int)) : (∃ j, lo ≤ j ∧ j ≤ hi ∧ x = nI j ∧ fX10_in (Int32.toInt64 x) l v = some 1) ∨ ((∀ j, lo ≤ j → j ≤ hi → x ≠ nI j) ∧ fX10_in (Int32.toInt64 x) l v = some 0) := by
  unfold fX10_in
  have e0 : (Int32.toInt64 x).toInt = x.toInt := Int32.toInt_toInt64 x
  have z2 : (0 : Int32).toInt = 0 := rfl
  by_cases c : Int32.toInt64 x < l
  · refine Or.inr ⟨fun j a b e => ?_, if_pos c⟩
    rw [Int64.lt_iff_toInt_lt, e0, e, nI_toInt (by omega)] at c
    omega
  · rw [if_neg c]
    have c2 : ¬ x < 0 := fun q => c (by
      have e1 := Int32.lt_iff_toInt_lt.mp q
      rw [Int64.lt_iff_toInt_lt, e0]
      omega)
    obtain ⟨u, hu, rfl⟩ := nI_of c2
    have hu2 := nI_toInt (n := u) (by omega)
    rw [Int64.lt_iff_toInt_lt, e0, hu2] at c
    by_cases d : v < Int32.toInt64 (nI u)
    · rw [if_pos d]
      rw [Int64.lt_iff_toInt_lt, e0, hu2] at d
      refine Or.inr ⟨fun j a b e => ?_, rfl⟩
      rw [nI_eq (by omega) (by omega)] at e
      omega
    · rw [if_neg d]
      rw [Int64.lt_iff_toInt_lt, e0, hu2] at d
      exact Or.inl ⟨u, by omega, by omega, rfl, rfl⟩
theorem m_isGood {w : Nat} (hw : w < 4) (v : Int32) : (∃ u, leastT w ≤ u ∧ u ≤ mostT w ∧ v = nI u ∧ fX10_isGood (nI w) v = some 1) ∨ ((∀ u, leastT w ≤ u → u ≤ mostT w → v ≠ nI u) ∧ fX10_isGood (nI w) v = some 0) := by
  obtain e | e | e | e : w = 0 ∨ w = 1 ∨ w = 2 ∨ w = 3 := by omega
  · subst e
    unfold fX10_isGood
    rw [if_pos (show nI 0 = (0 : Int32) from rfl)]
    rcases in_rng v (lo := 1) (hi := 5) (by decide) (l := 1) (v := 5) rfl rfl with ⟨j, a1, a2, a3, a4⟩ | ⟨a1, a2⟩
    · rw [a4, ob1_some, zb1, gd_true]; exact Or.inl ⟨j, a1, a2, a3, rfl⟩
    · rw [a2, ob1_some, zb0, gd_true]; exact Or.inr ⟨a1, rfl⟩
  · subst e
    unfold fX10_isGood
    rw [if_neg (by decide), if_pos (show nI 1 = (1 : Int32) from rfl)]
    rcases in_rng v (lo := 0) (hi := 12) (by decide) (l := 0) (v := 12) rfl rfl with ⟨j, a1, a2, a3, a4⟩ | ⟨a1, a2⟩
    · rw [a4, ob1_some, zb1, gd_true]; exact Or.inl ⟨j, a1, a2, a3, rfl⟩
    · rw [a2, ob1_some, zb0, gd_true]; exact Or.inr ⟨a1, rfl⟩
  · subst e
    unfold fX10_isGood
    rw [if_neg (by decide), if_neg (by decide), if_pos (show nI 2 = (2 : Int32) from rfl)]
    rcases in_rng v (lo := 1) (hi := 9) (by decide) (l := 1) (v := 9) rfl rfl with ⟨j, a1, a2, a3, a4⟩ | ⟨a1, a2⟩
    · rw [a4, ob1_some, zb1, gd_true]; exact Or.inl ⟨j, a1, a2, a3, rfl⟩
    · rw [a2, ob1_some, zb0, gd_true]; exact Or.inr ⟨a1, rfl⟩
  · subst e
    unfold fX10_isGood
    rw [if_neg (by decide), if_neg (by decide), if_neg (by decide)]
    rcases in_rng v (lo := 0) (hi := 9) (by decide) (l := 0) (v := 9) rfl rfl with ⟨j, a1, a2, a3, a4⟩ | ⟨a1, a2⟩
    · rw [a4, ob1_some, zb1, gd_true]; exact Or.inl ⟨j, a1, a2, a3, rfl⟩
    · rw [a2, ob1_some, zb0, gd_true]; exact Or.inr ⟨a1, rfl⟩
theorem d_drivers {B n : Nat} {I : Nat → Nat → Int32} {L : Nat → Nat → Int64} {Q : Nat → Nat → Option Nat} {R : Nat → RDt} {s : STT} (h : IsM I L s) (hs : OkS s) (c k v : Int32) : RunM B n I L Q R (fX10_drivers (B + 108) c k v (MK B n I L Q R)) (A_drivers s c k v) := by
  unfold A_drivers fX10_drivers
  rw [m_isClass, ob1_some]
  rcases ix_cases c (m := 3) (by decide) with ⟨cl, h1, rfl, h3⟩ | ⟨h1, h2⟩
  · rw [h3, if_neg (bS cl), in4, ob1_some]
    dsimp only
    rcases ix_cases k (m := 4) (by decide) with ⟨w, j1, rfl, j3⟩ | ⟨j1, j2⟩
    · have hmo : mostT w ≤ 12 := by unfold mostT; split <;> (try split) <;> omega
      have hb := (CrN_iff.mp (hs.1.2.2.2.2 cl h1) w j1).2
      rw [j3, if_neg (bS w)]
      dsimp only
      rcases m_isGood j1 v with ⟨u, u1, u2', rfl, u4⟩ | ⟨u1, u2'⟩
      · have hix : ix (nI u) (mostT w + 1) = some u := by
          rcases ix_cases (nI u) (m := mostT w + 1) (by omega) with ⟨i, i1, i2, i3⟩ | ⟨i1, i2⟩
          · rw [nI_eq (by omega) (by omega)] at i2
            rw [i3, i2]
          · exact absurd rfl (i2 u (by omega))
        rw [hix, u4, ob1_some, if_neg (by decide), m_ofClass h.1 h1 j1, ob1_some, l_toI (by omega), bnd_eq, g_Mnow, ob1_some, show (106 : Int32) = nI 106 from rfl, show (4 : Int32) = nI 4 from rfl, nI_mulx, nI_add, nI_add, nI_l (by omega), s_Mnow (by omega), ob1_some]
        show RunM B n I L Q R _ (if u < leastT w then (-2, s) else (nI (nC (stN s) cl w), setN s (setCr (stN s) cl w u)))
        rw [if_neg (by omega)]
        refine ⟨I, u2 L 109 (106 + 4 * cl + w) (lN u), rfl, h.setNow ⟨?_, ?_, fun q j (hq : q < nM (stN s)) hj => ?_, fun a j ha hj => ?_⟩ (fun a ha => u2_nk ha), fun a ha => ⟨rfl, u2_nk (by omega)⟩⟩
        · rw [u2_ne (by omega)]; exact h.1.1
        · rw [u2_ne (by omega)]; exact h.1.2.1
        · rw [u2_ne (by have := hs.2.1; omega)]; exact h.1.2.2.1 q j hq hj
        · rw [mu2]
          show _ = lN (if a = cl ∧ j = w then u else nC (stN s) a j)
          by_cases e : a = cl ∧ j = w
          · rw [if_pos e, if_pos (by omega)]
          · rw [if_neg e, if_neg (by omega)]; exact h.1.2.2.2 a j ha hj
      · rw [u2', ob1_some, if_pos rfl]
        rcases ix_cases v (m := mostT w + 1) (by omega) with ⟨i, i1, rfl, i3⟩ | ⟨i1, i2⟩
        · rw [i3]
          have : i < leastT w := by
            refine Nat.lt_of_not_le fun q => u1 i q (by omega) rfl
          show RunM B n I L Q R _ (if i < leastT w then (-2, s) else (nI (nC (stN s) cl w), setN s (setCr (stN s) cl w i)))
          rw [if_pos this]
          exact RunM.same h rfl
        · rw [i1]
          exact RunM.same h rfl
    · rw [j1, if_pos bN]
      exact RunM.same h rfl
  · rw [h1, if_pos bN]
    exact RunM.same h rfl
/-- lists of the model -/
theorem IsM.setList {I I' : Nat → Nat → Int32} {L L' : Nat → Nat → Int64} {s : STT} {l : Nat} {v : LST} (h : IsM I L s) (hI : ∀ a, a ≠ 126 → I' a = I a) (hL : ∀ a, a ≠ 127 → L' a = L a) (hV : MList I' L' l v) (ho : ∀ q, q ≠ l → q < 4 → I' 126 q = I 126 q ∧ ∀ j, j < 24 → L' 127 (24 * q + j) = L 127 (24 * q + j)) : IsM I' L' (setLs s l v) := by
  obtain ⟨h1, h2, h3, h4, h5⟩ := h
  have net : ∀ x N, x ≠ 127 → MNet L x N → MNet L' x N := fun x N hx g => by unfold MNet at *; rw [hL x hx]; exact g
  refine ⟨net _ _ (by decide) h1, ⟨by rw [hI 108 (by decide)]; exact h2.1, fun M hM => net _ _ (by decide) (h2.2 M hM)⟩, ?_, fun q hq => ?_, fun t ht => ?_⟩
  · show MTape I' (stT s)
    unfold MTape at *; rw [hI 108 (by decide), hI 112 (by decide)]; exact h3
  · show MList I' L' q (if q = l then v else stL s q)
    by_cases e : q = l
    · rw [if_pos e, e]; exact hV
    · rw [if_neg e]
      have g := h4 q hq
      obtain ⟨o1, o2⟩ := ho q e hq
      cases hv : stL s q with
      | none =>
        rw [hv] at g
        exact o1.trans g
      | some w =>
        rw [hv] at g
        exact ⟨o1.trans g.1, fun j hj => (o2 j hj).trans (g.2 j hj)⟩
  · have := h5 t ht
    show MTray I' L' t (stY s t)
    unfold MTray MPlace at *
    rw [hI 128 (by decide), hI 129 (by decide), hI 130 (by decide), hL 131 (by decide)]
    exact this
theorem m_inLen (i : Int32) {k : Nat} (hk : k ≤ 24) : fX10_in (Int32.toInt64 i) 0 (Int32.toInt64 (nI k - 1)) = some (bz (ix i k).isSome) := in_ix i (by omega) (by
  have e : (nI k - 1).toInt = (k : Int) - 1 := by
    rw [Int32.toInt_sub, nI_toInt (by omega), show (1 : Int32).toInt = 1 from rfl]
    exact Int.bmod_eq_of_le (by omega) (by omega)
  rw [Int32.toInt_toInt64, e])
theorem d_set {B n : Nat} {I : Nat → Nat → Int32} {L : Nat → Nat → Int64} {Q : Nat → Nat → Option Nat} {R : Nat → RDt} {s : STT} (h : IsM I L s) (hs : OkS s) (x i : Int32) (v : Int64) : RunM B n I L Q R (fX10_set (B + 108) x i v (MK B n I L Q R)) (A_set s x i v) := by
  unfold A_set fX10_set
  rw [m_isList, ob1_some]
  rcases ix_cases x (m := 4) (by decide) with ⟨l, h1, rfl, h3⟩ | ⟨h1, h2⟩
  · rw [h3, if_neg (bS l), g_MlistMany, ob1_some, a_MlistMany h1, ob1_some]
    dsimp only
    have g := h.2.2.2.1 l h1
    cases hv : stL s l with
    | none =>
      rw [hv] at g
      have g : I 126 l = -1 := g
      rw [g, if_neg (by decide)]
      exact RunM.same h rfl
    | some q =>
      have h24 := hs.2.2.2.2.1 l q h1 hv
      rw [hv] at g
      obtain ⟨g1, g2⟩ := g
      rw [g1, if_pos (nI_pos' (by omega)), ob1_some, a_MlistMany h1, ob1_some, g1, m_inLen i h24, ob1_some]
      dsimp only
      rcases ix_cases i (m := q.1) (by omega) with ⟨k, k1, rfl, k3⟩ | ⟨k1, k2⟩
      · rw [k3, if_neg (bS k), g_Mlists, ob1_some, show (24 : Int32) = nI 24 from rfl, nI_mulx, nI_add, s_Mlists (by omega), ob1_some]
        refine ⟨I, u2 L 127 (24 * l + k) v, rfl, h.setList (fun _ _ => rfl) (fun a ha => u2_nk ha) ⟨g1, fun j hj => ?_⟩ (fun a ha ha4 => ⟨rfl, fun j hj => u2_ne (by omega)⟩), fun a ha => ⟨rfl, u2_nk (by omega)⟩⟩
        rw [mu2]
        show _ = if j = k then v else q.2 j
        by_cases e : j = k
        · rw [if_pos e, if_pos (by omega)]
        · rw [if_neg e, if_neg (by omega)]; exact g2 j hj
      · rw [k1, if_pos bN]
        exact RunM.same h rfl
  · rw [h1, if_pos bN]
    exact RunM.same h rfl
theorem d_get {B n : Nat} {I : Nat → Nat → Int32} {L : Nat → Nat → Int64} {Q : Nat → Nat → Option Nat} {R : Nat → RDt} {s : STT} (h : IsM I L s) (hs : OkS s) (x i : Int32) : fX10_get (B + 108) x i (MK B n I L Q R) = some (A_get s x i) := by
  unfold A_get fX10_get
  rw [m_isList, ob1_some, NO_lit]
  rcases ix_cases x (m := 4) (by decide) with ⟨l, h1, rfl, h3⟩ | ⟨h1, h2⟩
  · rw [h3, if_neg (bS l), g_MlistMany, ob1_some, a_MlistMany h1, ob1_some]
    dsimp only
    have g := h.2.2.2.1 l h1
    cases hv : stL s l with
    | none =>
      rw [hv] at g
      have g : I 126 l = -1 := g
      have e : fX10_in (Int32.toInt64 i) 0 (Int32.toInt64 (-1 - 1)) = some 0 := by
        unfold fX10_in
        by_cases c : Int32.toInt64 i < 0
        · rw [if_pos c]
        · rw [if_neg c, if_pos]
          have e0 : ¬ (Int32.toInt64 i).toInt < (0 : Int64).toInt := fun q => c (Int64.lt_iff_toInt_lt.mpr q)
          rw [Int64.lt_iff_toInt_lt, show (Int32.toInt64 (-1 - 1)).toInt = -2 from rfl]
          have : (0 : Int64).toInt = 0 := rfl
          omega
      rw [g, e, ob1_some, if_pos rfl]
    | some q =>
      have h24 := hs.2.2.2.2.1 l q h1 hv
      rw [hv] at g
      obtain ⟨g1, g2⟩ := g
      rw [g1, m_inLen i h24, ob1_some]
      dsimp only
      rcases ix_cases i (m := q.1) (by omega) with ⟨k, k1, rfl, k3⟩ | ⟨k1, k2⟩
      · rw [k3, if_neg (bS k), g_Mlists, ob1_some, show (24 : Int32) = nI 24 from rfl, nI_mulx, nI_add, a_Mlists (by omega), ob1_some, g2 k (by omega)]
      · rw [k1, if_pos bN]
  · rw [h1, if_pos bN]
