/-! the model's trays -/
theorem IsM.setTray {I I' : Nat → Nat → Int32} {L L' : Nat → Nat → Int64} {s : STT} {t : Nat} {v : TRAY} (h : IsM I L s) (hI : ∀ a, a ≠ 128 → a ≠ 129 → a ≠ 130 → I' a = I a) (hL : ∀ a, a ≠ 131 → L' a = L a) (hV : MTray I' L' t v) (ho : ∀ q, q ≠ t → q < 3 → I' 128 q = I 128 q ∧ I' 129 q = I 129 q ∧ ∀ j, j < 20 → I' 130 (20 * q + j) = I 130 (20 * q + j) ∧ ∀ i, i < 5 → L' 131 (5 * (20 * q + j) + i) = L 131 (5 * (20 * q + j) + i)) : IsM I' L' (setTr s t v) := by
  obtain ⟨h1, h2, h3, h4, h5⟩ := h
  have net : ∀ x N, x ≠ 131 → MNet L x N → MNet L' x N := fun x N hx g => by unfold MNet at *; rw [hL x hx]; exact g
  refine ⟨net _ _ (by decide) h1, ⟨by rw [hI 108 (by decide) (by decide) (by decide)]; exact h2.1, fun M hM => net _ _ (by decide) (h2.2 M hM)⟩, ?_, fun l hl => ?_, fun q hq => ?_⟩
  · show MTape I' (stT s)
    unfold MTape at *; rw [hI 108 (by decide) (by decide) (by decide), hI 112 (by decide) (by decide) (by decide)]; exact h3
  · have := h4 l hl
    show MList I' L' l (stL s l)
    unfold MList at *
    rw [hI 126 (by decide) (by decide) (by decide), hL 127 (by decide)]
    exact this
  · show MTray I' L' q (if q = t then v else stY s q)
    by_cases e : q = t
    · rw [if_pos e, e]; exact hV
    · rw [if_neg e]
      have g := h5 q hq
      obtain ⟨o1, o2, o3⟩ := ho q e hq
      cases hv : stY s q with
      | none =>
        rw [hv] at g
        exact o1.trans g
      | some w =>
        rw [hv] at g
        refine ⟨o1.trans g.1, o2.trans g.2.1, fun j hj => ?_⟩
        have p := g.2.2 j hj
        obtain ⟨q1, q2⟩ := o3 j hj
        cases hd : w.2.2 j with
        | none =>
          rw [hd] at p
          exact q1.trans p
        | some d =>
          rw [hd] at p
          obtain ⟨p0, p1, p2, p3, p4, p5⟩ := p
          exact ⟨q1.trans p0, (q2 0 (by decide)).trans p1, (q2 1 (by decide)).trans p2, (q2 2 (by decide)).trans p3, (q2 3 (by decide)).trans p4, (q2 4 (by decide)).trans p5⟩
theorem m_isTray (x : Int32) : fX10_isTray x = some (bz (ix x 3).isSome) := by
  unfold fX10_isTray
  rw [in3, ob1_some, bz_zb, gd_true]
theorem m_tray_L60 {B n : Nat} {Ia : Nat → Nat → Int32} {L : Nat → Nat → Int64} {Q : Nat → Nat → Option Nat} {R : Nat → RDt} {t : Nat} (ht : t < 3) (k : AH → Option (Int32 × AH)) :
    ∀ (m n' j : Nat) (I : Nat → Nat → Int32), j + m = 20 → m < n' → (∀ a, a ≠ 130 → I a = Ia a) → (∀ i, I 130 i = if 20 * t ≤ i ∧ i < 20 * t + j then 0 else Ia 130 i) →
    ∃ I' : Nat → Nat → Int32, fX10_tray_L60 (B + 108) (nI t) k n' (nI j) (MK B n I L Q R) = k (MK B n I' L Q R) ∧ (∀ a, a ≠ 130 → I' a = Ia a) ∧ (∀ i, I' 130 i = if 20 * t ≤ i ∧ i < 20 * t + 20 then 0 else Ia 130 i) := by
  have h20 : (20 : Int32) = nI 20 := rfl
  intro m
  induction m with
  | zero =>
    intro n' j I hj hn hF hV
    obtain ⟨n1, rfl⟩ := suc_of hn
    rw [show j = 20 by omega] at hV ⊢
    refine ⟨I, ?_, hF, hV⟩
    rw [fX10_tray_L60, if_pos (by decide)]
  | succ m ih =>
    intro n' j I hj hn hF hV
    obtain ⟨n1, rfl⟩ := suc_of hn
    obtain ⟨I', r1, r2⟩ := ih n1 (j + 1) (u2 I 130 (20 * t + j) 0) (by omega) (by omega) (fun a ha => by rw [u2_nk ha]; exact hF a ha) (fun i => by
      rw [mu2]
      by_cases e : i = 20 * t + j
      · rw [if_pos e, if_pos (by omega)]
      · rw [if_neg e, hV i]
        by_cases g : 20 * t ≤ i ∧ i < 20 * t + j
        · rw [if_pos g, if_pos (by omega)]
        · rw [if_neg g, if_neg (by omega)])
    refine ⟨I', ?_, r2⟩
    rw [← r1, fX10_tray_L60, if_neg (by rw [h20, nI_leI (by omega) (by omega)]; omega), g_MisLaid, ob1_some, h20, nI_mulx, nI_add, s_MisLaid (v := 0) (by omega) (Or.inl rfl), ob1_some, bnd_eq, nI_1]
theorem d_tray {B n : Nat} {I : Nat → Nat → Int32} {L : Nat → Nat → Int64} {Q : Nat → Nat → Option Nat} {R : Nat → RDt} {s : STT} (h : IsM I L s) (x k v : Int32) : RunM B n I L Q R (fX10_tray (B + 108) x k v (MK B n I L Q R)) (A_tray s x k v) := by
  unfold A_tray fX10_tray
  rw [m_isTray, ob1_some]
  rcases ix_cases x (m := 3) (by decide) with ⟨t, h1, rfl, h3⟩ | ⟨h1, h2⟩
  · rw [h3, if_neg (bS t), in3, ob1_some]
    dsimp only
    rcases ix_cases k (m := 3) (by decide) with ⟨kd, k1, rfl, k3⟩ | ⟨k1, k2⟩
    · rw [k3, if_neg (bS kd)]
      dsimp only
      by_cases c : 20 < v
      · have c2 : ¬ v ≤ 20 := by rw [le_iff_not]; exact fun q => q c
        have c3 : (0 : Int32) ≤ v := by
          have := Int32.lt_iff_toInt_lt.mp c
          have z : (20 : Int32).toInt = 20 := rfl
          have z0 : (0 : Int32).toInt = 0 := rfl
          rw [Int32.le_iff_toInt_le]
          omega
        rw [if_pos c, if_pos c3, if_neg c2]
        exact RunM.same h rfl
      · have c2 : v ≤ 20 := by rw [le_iff_not]; exact c
        rw [if_neg c, if_pos c2]
        rcases ix_cases v (m := 21) (by decide) with ⟨mn, m1, rfl, m3⟩ | ⟨m1, m2⟩
        · rw [m3, if_pos (nI_pos' (by omega)), g_MtrayKind, ob1_some, s_MtrayKind h1, ob1_some, g_MtrayMany, ob1_some, s_MtrayMany h1, ob1_some]
          dsimp only
          obtain ⟨I', r1, r2, r3⟩ := m_tray_L60 (B := B) (n := n) (Ia := u2 (u2 I 128 t (nI kd)) 129 t (nI mn)) (L := L) (Q := Q) (R := R) h1 (fun (g20 : AH) => some ((1 : Int32), g20)) 20 lf 0 _ (by omega) (by decide) (fun _ _ => rfl) (fun i => by rw [if_neg (by omega)])
          refine ⟨I', L, r1, h.setTray (fun a a1 a2 a3 => by rw [r2 a a3, u2_nk a2, u2_nk a1]) (fun _ _ => rfl) ⟨by rw [r2 128 (by decide), u2_ne (by omega), u2_eq], by rw [r2 129 (by decide), u2_eq], fun j hj => ?_⟩ (fun q hq h4 => ⟨by rw [r2 128 (by decide), u2_ne (by omega), u2_ne (Or.inr hq)], by rw [r2 129 (by decide), u2_ne (Or.inr hq), u2_nk (by decide)], fun j hj => ⟨by rw [r3, if_neg (by omega), u2_nk (by decide), u2_nk (by decide)], fun _ _ => rfl⟩⟩), fun a ha => ⟨by rw [r2 a (by omega), u2_nk (by omega), u2_nk (by omega)], rfl⟩⟩
          show I' 130 (20 * t + j) = 0
          rw [r3, if_pos (by omega)]
        · rw [m1, if_neg (neg_of (m := 20) (by decide) c2 m2), if_neg (neg_of (m := 20) (by decide) c2 m2)]
          exact RunM.same h rfl
    · rw [k1, if_pos bN]
      exact RunM.same h rfl
  · rw [h1, if_pos bN]
    exact RunM.same h rfl
