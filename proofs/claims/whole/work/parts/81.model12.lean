/-! one tray like another -/
theorem m_like_L54 {B n : Nat} {Ia : Nat → Nat → Int32} {L : Nat → Nat → Int64} {Q : Nat → Nat → Option Nat} {R : Nat → RDt} {t u : Nat} (ht : t < 3) (hu : u < 3) (h01 : ∀ j, j < 20 → Ia 130 (20 * u + j) = 0 ∨ Ia 130 (20 * u + j) = 1) (k : AH → Option (Int32 × AH)) :
    ∀ (m n' j : Nat) (I : Nat → Nat → Int32), j + m = 20 → m < n' → (∀ a, a ≠ 130 → I a = Ia a) → (∀ i, I 130 i = if 20 * t ≤ i ∧ i < 20 * t + j then Ia 130 (20 * u + (i - 20 * t)) else Ia 130 i) →
    ∃ I' : Nat → Nat → Int32, fX10_like_L54 (B + 108) (nI t) (nI u) k n' (nI j) (MK B n I L Q R) = k (MK B n I' L Q R) ∧ (∀ a, a ≠ 130 → I' a = Ia a) ∧ (∀ i, I' 130 i = if 20 * t ≤ i ∧ i < 20 * t + 20 then Ia 130 (20 * u + (i - 20 * t)) else Ia 130 i) := by
  have h20 : (20 : Int32) = nI 20 := rfl
  intro m
  induction m with
  | zero =>
    intro n' j I hj hn hF hV
    obtain ⟨n1, rfl⟩ := suc_of hn
    rw [show j = 20 by omega] at hV ⊢
    refine ⟨I, ?_, hF, hV⟩
    rw [fX10_like_L54, if_pos (by decide)]
  | succ m ih =>
    intro n' j I hj hn hF hV
    obtain ⟨n1, rfl⟩ := suc_of hn
    have hs : I 130 (20 * u + j) = Ia 130 (20 * u + j) := by
      rw [hV]
      by_cases g : 20 * t ≤ 20 * u + j ∧ 20 * u + j < 20 * t + j
      · omega
      · rw [if_neg g]
    obtain ⟨I', r1, r2⟩ := ih n1 (j + 1) (u2 I 130 (20 * t + j) (Ia 130 (20 * u + j))) (by omega) (by omega) (fun a ha => by rw [u2_nk ha]; exact hF a ha) (fun i => by
      rw [mu2]
      by_cases e : i = 20 * t + j
      · rw [if_pos e, if_pos (by omega), e, show 20 * t + j - 20 * t = j by omega]
      · rw [if_neg e, hV i]
        by_cases g : 20 * t ≤ i ∧ i < 20 * t + j
        · rw [if_pos g, if_pos (by omega)]
        · rw [if_neg g, if_neg (by omega)])
    refine ⟨I', ?_, r2⟩
    rw [← r1, fX10_like_L54, if_neg (by rw [h20, nI_leI (by omega) (by omega)]; omega), g_MisLaid, ob1_some, ob1_some, h20, nI_mulx, nI_add, nI_mulx, nI_add, a_MisLaid (by omega), ob1_some, hs, s_MisLaid (by omega) (h01 j (by omega)), ob1_some, bnd_eq, nI_1]
theorem m_like_L90 {B n : Nat} {I : Nat → Nat → Int32} {La : Nat → Nat → Int64} {Q : Nat → Nat → Option Nat} {R : Nat → RDt} {t u : Nat} (ht : t < 3) (hu : u < 3) (k : AH → Option (Int32 × AH)) :
    ∀ (m n' j : Nat) (L : Nat → Nat → Int64), j + m = 100 → m < n' → (∀ a, a ≠ 131 → L a = La a) → (∀ i, L 131 i = if 100 * t ≤ i ∧ i < 100 * t + j then La 131 (100 * u + (i - 100 * t)) else La 131 i) →
    ∃ L' : Nat → Nat → Int64, fX10_like_L90 (B + 108) (nI t) (nI u) k n' (nI j) (MK B n I L Q R) = k (MK B n I L' Q R) ∧ (∀ a, a ≠ 131 → L' a = La a) ∧ (∀ i, L' 131 i = if 100 * t ≤ i ∧ i < 100 * t + 100 then La 131 (100 * u + (i - 100 * t)) else La 131 i) := by
  intro m
  induction m with
  | zero =>
    intro n' j L hj hn hF hV
    obtain ⟨n1, rfl⟩ := suc_of hn
    rw [show j = 100 by omega] at hV ⊢
    refine ⟨L, ?_, hF, hV⟩
    rw [fX10_like_L90, if_pos (by decide)]
  | succ m ih =>
    intro n' j L hj hn hF hV
    obtain ⟨n1, rfl⟩ := suc_of hn
    have hs : L 131 (100 * u + j) = La 131 (100 * u + j) := by
      rw [hV]
      by_cases g : 100 * t ≤ 100 * u + j ∧ 100 * u + j < 100 * t + j
      · omega
      · rw [if_neg g]
    obtain ⟨L', r1, r2⟩ := ih n1 (j + 1) (u2 L 131 (100 * t + j) (La 131 (100 * u + j))) (by omega) (by omega) (fun a ha => by rw [u2_nk ha]; exact hF a ha) (fun i => by
      rw [mu2]
      by_cases e : i = 100 * t + j
      · rw [if_pos e, if_pos (by omega), e, show 100 * t + j - 100 * t = j by omega]
      · rw [if_neg e, hV i]
        by_cases g : 100 * t ≤ i ∧ i < 100 * t + j
        · rw [if_pos g, if_pos (by omega)]
        · rw [if_neg g, if_neg (by omega)])
    refine ⟨L', ?_, r2⟩
    rw [← r1, fX10_like_L90, if_neg (by rw [l100, nI_leI (by omega) (by omega)]; omega), g_Mtrays, ob1_some, ob1_some, l100, nI_mulx, nI_add, nI_mulx, nI_add, a_Mtrays (by omega), ob1_some, hs, s_Mtrays (by omega), ob1_some, bnd_eq, nI_1]
theorem d_like {B n : Nat} {I : Nat → Nat → Int32} {L : Nat → Nat → Int64} {Q : Nat → Nat → Option Nat} {R : Nat → RDt} {s : STT} (h : IsM I L s) (hs : OkS s) (x y : Int32) : RunM B n I L Q R (fX10_like (B + 108) x y (MK B n I L Q R)) (A_like s x y) := by
  unfold A_like fX10_like
  rw [m_isTray, ob1_some]
  rcases ix_cases x (m := 3) (by decide) with ⟨t, h1, rfl, h3⟩ | ⟨h1, h2⟩
  · rw [h3, if_neg (bS t), m_isTray, ob1_some]
    dsimp only
    rcases ix_cases y (m := 3) (by decide) with ⟨u, u1, rfl, u3⟩ | ⟨u1, u2'⟩
    · rw [u3, if_neg (bS u), g_MtrayKind, ob1_some, a_MtrayKind u1, ob1_some]
      dsimp only
      have g := h.2.2.2.2 u u1
      cases hv : stY s u with
      | none =>
        rw [hv] at g
        have g : I 128 u = -1 := g
        rw [g, if_neg (by decide)]
        exact RunM.same h rfl
      | some v =>
        obtain ⟨v1, v2, v3⟩ := hs.2.2.2.2.2 u v u1 hv
        rw [hv] at g
        obtain ⟨g1, g2, g3⟩ := g
        have h01 : ∀ j, j < 20 → u2 (u2 I 128 t (nI v.1)) 129 t (nI v.2.1) 130 (20 * u + j) = 0 ∨ u2 (u2 I 128 t (nI v.1)) 129 t (nI v.2.1) 130 (20 * u + j) = 1 := fun j hj => by
          rw [u2_nk (by decide), u2_nk (by decide)]
          have p := g3 j hj
          cases hd : v.2.2 j with
          | none => rw [hd] at p; exact Or.inl p
          | some d => rw [hd] at p; exact Or.inr p.1
        have hu2 : u2 I 128 t (nI v.1) 129 u = nI v.2.1 := by rw [u2_nk (by decide)]; exact g2
        obtain ⟨I', r1, r2, r3⟩ := m_like_L54 (B := B) (n := n) (L := L) (Q := Q) (R := R) h1 u1 h01 (fun (g35 : AH) =>
          fX10_like_L90 (B + 108) (nI t) (nI u) (fun (g46 : AH) =>
            ob1 (gR g46 (B + 108) 10 28) fun b47 =>
            ob1 (aI g46 b47 0 (nI t)) fun v49 =>
            some (v49, g46)
          ) lf (0 : Int32) g35) 20 lf 0 _ (by omega) (by decide) (fun _ _ => rfl) (fun i => by rw [if_neg (by omega)])
        obtain ⟨L', q1, q2, q3⟩ := m_like_L90 (B := B) (n := n) (I := I') (Q := Q) (R := R) h1 u1 (fun (g46 : AH) =>
            ob1 (gR g46 (B + 108) 10 28) fun b47 =>
            ob1 (aI g46 b47 0 (nI t)) fun v49 =>
            some (v49, g46)) 100 lf 0 L (by omega) (by decide) (fun _ _ => rfl) (fun i => by rw [if_neg (by omega)])
        have e130 : ∀ i, u2 (u2 I 128 t (nI v.1)) 129 t (nI v.2.1) 130 i = I 130 i := fun i => by rw [u2_nk (by decide), u2_nk (by decide)]
        rw [g1, if_pos (nI_pos' (by omega)), ob1_some, ob1_some, a_MtrayKind u1, ob1_some, g1, s_MtrayKind h1, ob1_some, g_MtrayMany, ob1_some, ob1_some, a_MtrayMany u1, ob1_some, hu2, s_MtrayMany h1, ob1_some]
        refine ⟨I', L', ?_, h.setTray (fun a a1 a2 a3 => by rw [r2 a a3, u2_nk a2, u2_nk a1]) q2 ⟨by rw [r2 128 (by decide), u2_ne (by omega), u2_eq], by rw [r2 129 (by decide), u2_eq], fun j hj => ?_⟩ (fun q hq h4 => ⟨by rw [r2 128 (by decide), u2_ne (by omega), u2_ne (Or.inr hq)], by rw [r2 129 (by decide), u2_ne (Or.inr hq), u2_nk (by decide)], fun j hj => ⟨by rw [r3, if_neg (by omega), e130], fun i hi => by rw [q3, if_neg (by omega)]⟩⟩), fun a ha => ⟨by rw [r2 a (by omega), u2_nk (by omega), u2_nk (by omega)], q2 a (by omega)⟩⟩
        · refine Eq.trans r1 (Eq.trans q1 ?_)
          rw [g_MtrayMany, ob1_some, a_MtrayMany h1, ob1_some, r2 129 (by decide), u2_eq]
        · have p := g3 j hj
          have i1 : I' 130 (20 * t + j) = I 130 (20 * u + j) := by rw [r3, if_pos (by omega), e130, show 20 * t + j - 20 * t = j by omega]
          have l1 : ∀ i, i < 5 → L' 131 (5 * (20 * t + j) + i) = L 131 (5 * (20 * u + j) + i) := fun i hi => by
            rw [q3, if_pos (by omega), show 100 * u + (5 * (20 * t + j) + i - 100 * t) = 5 * (20 * u + j) + i by omega]
          cases hd : v.2.2 j with
          | none => rw [hd] at p; exact i1.trans p
          | some d =>
            rw [hd] at p
            obtain ⟨p0, p1, p2, p3, p4, p5⟩ := p
            exact ⟨i1.trans p0, (l1 0 (by decide)).trans p1, (l1 1 (by decide)).trans p2, (l1 2 (by decide)).trans p3, (l1 3 (by decide)).trans p4, (l1 4 (by decide)).trans p5⟩
    · rw [u1, if_pos bN]
      exact RunM.same h rfl
  · rw [h1, if_pos bN]
    exact RunM.same h rfl
