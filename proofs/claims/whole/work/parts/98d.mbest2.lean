def duN (N : NET) (t : Nat) (c : Nat) : Nat := sumN c fun b => if nC N b 0 = t then nC N b 1 else 0
theorem du_asks {N : NET} {t : Nat} (h : 1 ≤ t) : ∀ c, asks N t c = (duN N t c : Int)
  | 0 => rfl
  | c + 1 => by
    have e : duN N t (c + 1) = duN N t c + (if nC N c 0 = t then nC N c 1 else 0) := rfl
    have d0 : dl 0 t = 0 := if_neg (by omega)
    rw [asks, du_asks h c, e, d0]
    unfold dl
    by_cases g : nC N c 0 = t
    · rw [if_pos g, if_pos g]; omega
    · rw [if_neg g, if_neg g]; omega
theorem sum_pick {a x : Nat} (h : a < 6) : sumN 6 (fun t => if a = t then x else 0) = x := by
  have := sumN_upd (f := fun t => if a = t then x else 0) (g := fun _ => 0) 6 h (fun j _ hj => if_neg (fun e => hj e.symm))
  rw [sumN_zero] at this
  simp only [if_true] at this
  omega
theorem du_sum {N : NET} : ∀ c, (∀ b, b < c → nC N b 0 < 6) → sumN 6 (fun t => duN N t c) = nD N c
  | 0, _ => sumN_zero 6
  | c + 1, h => by
    have e : ∀ t, duN N t (c + 1) = duN N t c + (if nC N c 0 = t then nC N c 1 else 0) := fun t => rfl
    have e2 : nD N (c + 1) = nD N c + nC N c 1 := rfl
    have := sumN_add2 (f := fun t => duN N t c) (g := fun t => if nC N c 0 = t then nC N c 1 else 0) (h := fun t => duN N t (c + 1)) 6 (fun j _ => (e j).symm)
    rw [du_sum c (fun b hb => h b (by omega)), sum_pick (h c (by omega))] at this
    omega
theorem du_le {N : NET} (t : Nat) : ∀ c, duN N t c ≤ nD N c
  | 0 => Nat.le_refl _
  | c + 1 => by
    have ih := du_le (N := N) t c
    show duN N t c + (if nC N c 0 = t then nC N c 1 else 0) ≤ nD N c + nC N c 1
    split <;> omega
theorem du_pos {N : NET} {t : Nat} : ∀ c, 0 < duN N t c → ∃ b, b < c ∧ nC N b 0 = t ∧ 0 < nC N b 1
  | 0, h => absurd h (Nat.lt_irrefl 0)
  | c + 1, h => by
    have h : 0 < duN N t c + (if nC N c 0 = t then nC N c 1 else 0) := h
    by_cases g : nC N c 0 = t ∧ 0 < nC N c 1
    · exact ⟨c, by omega, g.1, g.2⟩
    · have : 0 < duN N t c := by
        by_cases g2 : nC N c 0 = t
        · rw [if_pos g2] at h; omega
        · rw [if_neg g2] at h; omega
      obtain ⟨b, b1, b2⟩ := du_pos c this
      exact ⟨b, by omega, b2⟩
theorem m_best_L6 {B n : Nat} {L : Nat → Nat → Int64} {Q : Nat → Nat → Option Nat} {R : Nat → RDt} (k : AH → Option (Int64 × AH)) : ∀ (m n' i : Nat) (I : Nat → Nat → Int32), i + m = 6 → m < n' → (∀ q, q < i → I 123 q = 0) → ∃ I' : Nat → Nat → Int32, fX10_bestOf_L6 (B + 108) k n' (nI i) (MK B n I L Q R) = k (MK B n I' L Q R) ∧ (∀ a, a ≠ 123 → I' a = I a) ∧ ∀ q, q < 6 → I' 123 q = 0 := by
  intro m
  induction m with
  | zero =>
    intro n' i I hl hn hz
    obtain ⟨n1, rfl⟩ := suc_of hn
    refine ⟨I, ?_, fun _ _ => rfl, fun q hq => hz q (by omega)⟩
    rw [fX10_bestOf_L6, if_pos (by rw [l6, nI_leI (by omega) (by omega)]; omega)]
  | succ m ih =>
    intro n' i I hl hn hz
    obtain ⟨n1, rfl⟩ := suc_of hn
    obtain ⟨I', r1, r2, r3⟩ := ih n1 (i + 1) (u2 I 123 i 0) (by omega) (by omega) (fun q hq => by
      rw [mu2]
      by_cases e : q = i
      · rw [if_pos e]
      · rw [if_neg e]; exact hz q (by omega))
    refine ⟨I', ?_, fun a ha => by rw [r2 a ha, u2_nk ha], r3⟩
    rw [fX10_bestOf_L6, if_neg (by rw [l6, nI_leI (by omega) (by omega)]; omega), g_Mdue, ob1_some, s_Mdue (by omega), ob1_some, bnd_eq, nI_1]
    exact r1
theorem m_best_L98 {B n : Nat} {L : Nat → Nat → Int64} {Q : Nat → Nat → Option Nat} {R : Nat → RDt} {x1 : Int32} (k : AH → Option (Int64 × AH)) : ∀ (m n' i : Nat) (I : Nat → Nat → Int32), i + m = 13 → m < n' → (∀ q, q < i → I 122 q = 0) → ∃ I' : Nat → Nat → Int32, fX10_bestOf_L98 (B + 108) x1 k n' (nI i) (MK B n I L Q R) = k (MK B n I' L Q R) ∧ (∀ a, a ≠ 122 → I' a = I a) ∧ ∀ q, q < 13 → I' 122 q = 0 := by
  intro m
  induction m with
  | zero =>
    intro n' i I hl hn hz
    obtain ⟨n1, rfl⟩ := suc_of hn
    refine ⟨I, ?_, fun _ _ => rfl, fun q hq => hz q (by omega)⟩
    rw [fX10_bestOf_L98, if_pos (by rw [l13, nI_leI (by omega) (by omega)]; omega)]
  | succ m ih =>
    intro n' i I hl hn hz
    obtain ⟨n1, rfl⟩ := suc_of hn
    obtain ⟨I', r1, r2, r3⟩ := ih n1 (i + 1) (u2 I 122 i 0) (by omega) (by omega) (fun q hq => by
      rw [mu2]
      by_cases e : q = i
      · rw [if_pos e]
      · rw [if_neg e]; exact hz q (by omega))
    refine ⟨I', ?_, fun a ha => by rw [r2 a ha, u2_nk ha], r3⟩
    rw [fX10_bestOf_L98, if_neg (by rw [l13, nI_leI (by omega) (by omega)]; omega), g_Mflow, ob1_some, s_Mflow (by omega), ob1_some, bnd_eq, nI_1]
    exact r1
theorem m_best_L29 {B n : Nat} {L : Nat → Nat → Int64} {Q : Nat → Nat → Option Nat} {R : Nat → RDt} {N : NET} {rows : List ROW} (hO : NetOK N) (hM : MNet L 109 N) (hl : rows.length ≤ 211) (k : Int32 → AH → Option (Int64 × AH)) : ∀ (m n' c : Nat) (I : Nat → Nat → Int32), c + m = 3 → m < n' → (∀ b, b < 3 → I 114 b = nI (cntTo rows (nC N b 0) rows.length)) → (∀ t, t < 6 → I 123 t = nI (duN N t c)) →
    (canF N rows m c = true → ∃ I' : Nat → Nat → Int32, fX10_bestOf_L29 (B + 108) k n' (nI (nD N c)) (nI c) (MK B n I L Q R) = k (nI (nD N 3)) (MK B n I' L Q R) ∧ (∀ a, a ≠ 123 → I' a = I a) ∧ ∀ t, t < 6 → I' 123 t = nI (duN N t 3)) ∧
    (canF N rows m c = false → ∃ I' : Nat → Nat → Int32, fX10_bestOf_L29 (B + 108) k n' (nI (nD N c)) (nI c) (MK B n I L Q R) = some (-3, MK B n I' L Q R) ∧ ∀ a, a ≠ 123 → I' a = I a) := by
  intro m
  induction m with
  | zero =>
    intro n' c I hc hn hw hd
    obtain ⟨n1, rfl⟩ := suc_of hn
    rw [show c = 3 by omega] at hd ⊢
    refine ⟨fun _ => ⟨I, ?_, fun _ _ => rfl, hd⟩, fun h => (by cases h)⟩
    rw [fX10_bestOf_L29, if_pos (by decide)]
  | succ m ih =>
    intro n' c I hc hn hw hd
    obtain ⟨n1, rfl⟩ := suc_of hn
    have hc3 : c < 3 := by omega
    have hcb := hO.2.2.2.2 c hc3
    have hn12 := hcb.2.2.1
    have hcl := cntTo_le rows (nC N c 0) rows.length
    have f0 : ∀ I : Nat → Nat → Int32, fX10_ofClass (B + 108) (nI c) 0 (MK B n I L Q R) = some (lN (nC N c 0)) := fun I => m_ofClass hM hc3 (by decide : 0 < 4)
    have f1 : ∀ I : Nat → Nat → Int32, fX10_ofClass (B + 108) (nI c) 1 (MK B n I L Q R) = some (lN (nC N c 1)) := fun I => m_ofClass hM hc3 (by decide : 1 < 4)
    have h6 : nC N c 0 < 6 := by have := hcb.2.1; omega
    have ed : ∀ t, duN N t (c + 1) = duN N t c + (if nC N c 0 = t then nC N c 1 else 0) := fun t => rfl
    have eD : nD N (c + 1) = nD N c + nC N c 1 := rfl
    obtain ⟨g1, g2⟩ := ih n1 (c + 1) (u2 I 123 (nC N c 0) (nI (duN N (nC N c 0) c + nC N c 1))) (by omega) (by omega) (fun b hb => by rw [u2_nk (by decide)]; exact hw b hb) (fun t ht => by
      rw [mu2, ed]
      by_cases e : t = nC N c 0
      · rw [if_pos e, if_pos e.symm, e]
      · rw [if_neg e, if_neg (fun h => e h.symm), Nat.add_zero]; exact hd t ht)
    rw [eD] at g1 g2
    have hj : ∀ K : Option (Int64 × AH), (ob1 (gR (MK B n I L Q R) (B + 108) 10 22) fun b13 =>
        ob1 (fX10_ofClass (B + 108) (nI c) (0 : Int32) (MK B n I L Q R)) fun r15 =>
        bnd (Int64.toInt32 r15) fun y17 =>
        ob1 (aI (MK B n I L Q R) b13 0 y17) fun v18 =>
        ob1 (fX10_ofClass (B + 108) (nI c) (1 : Int32) (MK B n I L Q R)) fun r20 =>
        ob1 (sI (MK B n I L Q R) b13 y17 (v18 + (Int64.toInt32 r20))) fun g22 =>
        ob1 (fX10_ofClass (B + 108) (nI c) (1 : Int32) g22) fun r24 =>
        bnd (nI (nD N c) + (Int64.toInt32 r24)) fun y26 =>
        bnd (nI c + (1 : Int32)) fun y27 =>
        fX10_bestOf_L29 (B + 108) k n1 y26 y27 g22) = fX10_bestOf_L29 (B + 108) k n1 (nI (nD N c + nC N c 1)) (nI (c + 1)) (MK B n (u2 I 123 (nC N c 0) (nI (duN N (nC N c 0) c + nC N c 1))) L Q R) := fun K => by
      rw [g_Mdue, ob1_some, f0, ob1_some, bnd_eq, l_toI (by omega), a_Mdue h6, ob1_some, f1, ob1_some, hd _ h6, l_toI (by omega), nI_add, s_Mdue h6, ob1_some, f1, ob1_some, l_toI (by omega), nI_add, bnd_eq, bnd_eq, nI_1]
    have hj := hj none
    rw [f1 I] at hj
    rw [fX10_bestOf_L29, if_neg (by rw [l3, nI_leI (by omega) (by omega)]; omega), f1, ob1_some]
    simp only [bnd_eq] at hj ⊢
    by_cases c1 : 0 < nC N c 1
    · rw [if_neg (by rw [L0, lN_leE (by omega) (by omega)]; omega), g_MwayMany, ob1_some, a_MwayMany hc3, ob1_some, hw c hc3]
      by_cases c2 : cntTo rows (nC N c 0) rows.length = 0
      · have e : canF N rows (m + 1) c = false := if_pos ⟨c1, c2⟩
        rw [if_pos (by rw [c2]; rfl), e]
        exact ⟨fun h => (by cases h), fun _ => ⟨I, rfl, fun _ _ => rfl⟩⟩
      · have e : canF N rows (m + 1) c = canF N rows m (c + 1) := if_neg (fun h => c2 h.2)
        rw [if_neg (by rw [l0, nI_eq (by omega) (by omega)]; exact c2), e, hj]
        refine ⟨fun h => ?_, fun h => ?_⟩
        · obtain ⟨I', r1, r2, r3⟩ := g1 h
          exact ⟨I', r1, fun a ha => by rw [r2 a ha, u2_nk ha], r3⟩
        · obtain ⟨I', r1, r2⟩ := g2 h
          exact ⟨I', r1, fun a ha => by rw [r2 a ha, u2_nk ha]⟩
    · have e : canF N rows (m + 1) c = canF N rows m (c + 1) := if_neg (fun h => c1 h.1)
      rw [if_pos (by rw [L0, lN_leE (by omega) (by omega)]; omega), e, hj]
      refine ⟨fun h => ?_, fun h => ?_⟩
      · obtain ⟨I', r1, r2, r3⟩ := g1 h
        exact ⟨I', r1, fun a ha => by rw [r2 a ha, u2_nk ha], r3⟩
      · obtain ⟨I', r1, r2⟩ := g2 h
        exact ⟨I', r1, fun a ha => by rw [r2 a ha, u2_nk ha]⟩
theorem cost_T {N : NET} {F : Nat → Nat} : costF N F = (sumT N F (nM N) : Int) := by
  unfold costF sumT
  exact sumZ_nat _ _
theorem netF_far {N : NET} {F : Nat → Nat} {t : Nat} (hO : NetOK N) (h : 6 ≤ t) : netF N F t = 0 := by
  unfold netF
  rw [sumZ_cong (g := fun _ => 0) _ (fun r hr => ?_), sumZ_0]
  obtain ⟨⟨k1, k2, k3, k4, k5, k6, k7⟩, _⟩ := hO.2.2.2.1 r hr
  unfold inc
  rw [if_neg (by omega), if_neg (by omega)]
  simp
theorem best_eq {N : NET} {fl : Nat → Nat} {c : Nat} (hO : NetOK N) (hw : canAll N (rowsN N) = true) (hC : Cheap N fl (nD N 3)) (hn : ∀ t, 1 ≤ t → t < 6 → netF N fl t = asks N t 3) (hc : costF N fl = (c : Int)) : sumT N (flAll N 3) (nM N) = c := by
  have hr := can_rch (rows_wf N tA) hw
  have ha : ∀ t, 6 ≤ t → asks N t 3 = 0 := fun t ht => by
    rw [← flAll_net hO hr t 3 (by omega), netF_far hO ht]
  have hn2 : ∀ t, 1 ≤ t → netF N fl t = asks N t 3 := fun t ht => by
    by_cases g : t < 6
    · exact hn t ht g
    · rw [netF_far hO (by omega), ha t (by omega)]
  have h1 := best_le (A := tA) hO hw hn2
  obtain ⟨⟨π, hπ⟩, _⟩ := hC
  have h2 := cheap_least (g := flAll N 3) hO hπ (fun t ht => by rw [hn2 t ht, flAll_net hO hr t 3 (by omega)])
  rw [hc, cost_T] at h2
  rw [cost_T] at hc
  omega
theorem vof_tot {N : NET} {v : Nat × Bool} {c : Nat} {ld : Nat → Nat} {m : Nat} (hV : VOf v c) (hl : v.1 ≤ mxL) (hc : sumT N ld m = c) : totV v = totV (totN N ld m) := by
  obtain ⟨t1, t2⟩ := tot_sum N ld m
  have t3 := totN_leM N ld m
  obtain ⟨v1, v2⟩ := hV
  unfold totV
  cases hv : v.2 with
  | true =>
    have := v1 hv
    cases ht : (totN N ld m).2 with
    | true => rfl
    | false => have := t2 ht; omega
  | false =>
    have := v2 hv
    cases ht : (totN N ld m).2 with
    | true => have := t1 ht; omega
    | false =>
      have := t2 ht
      rw [if_neg (by decide), if_neg (by decide), show v.1 = (totN N ld m).1 by omega]
def bestB (N : NET) : Int64 := if canAll N (rowsN N) = true then totV (totN N (flAll N 3) (nM N)) else -3
theorem m_bestOf {B n : Nat} {I : Nat → Nat → Int32} {L : Nat → Nat → Int64} {Q : Nat → Nat → Option Nat} {R : Nat → RDt} {N : NET} (hO : NetOK N) (hM : MNet L 109 N) : ∃ (I' : Nat → Nat → Int32) (L' : Nat → Nat → Int64), fX10_bestOf (B + 108) (MK B n I L Q R) = some (bestB N, MK B n I' L' Q R) ∧ FM I I' L L' := by
  obtain ⟨I1, r1, r2, r3⟩ := m_layAll_L2 (B := B) (n := n) (L := L) (Q := Q) (R := R) hO hM (fun (g5 : AH) => some g5) 3 lf 0 I (by omega) (by decide) (fun b hb => by omega)
  have r1 : fX10_layAllWays_L2 (B + 108) (fun (g5 : AH) => some g5) lf 0 (MK B n I L Q R) = some (MK B n I1 L Q R) := r1
  have hK : ∃ K2 : Int32 → AH → Option (Int64 × AH), K2 = fun (y35 : Int32) (g36 : AH) =>
      fX10_bestOf_L98 (B + 108) y35 (fun (g43 : AH) =>
        ob1 (fX10_begins (B + 108) g43) fun g44 =>
        fX10_bestOf_L121 (B + 108) (fun (g66 : AH) =>
          ob1 (gI g66 (B + 108) 10 19) fun v67 =>
          if v67 = (0 : Int32) then
            ob1 (gL g66 (B + 108) 10 20) fun v69 =>
            some (v69, g66)
          else
            some ((-6 : Int64), g66)
        ) lf y35 g44
      ) lf (0 : Int32) g36 := ⟨_, rfl⟩
  obtain ⟨K2, hK⟩ := hK
  obtain ⟨I2, s1, s2, s3⟩ := m_best_L6 (B := B) (n := n) (L := L) (Q := Q) (R := R) (fun (g9 : AH) => fX10_bestOf_L29 (B + 108) K2 lf (0 : Int32) (0 : Int32) g9) 6 lf 0 I1 (by omega) (by decide) (fun q hq => by omega)
  have s1 : fX10_bestOf_L6 (B + 108) (fun (g9 : AH) => fX10_bestOf_L29 (B + 108) K2 lf (0 : Int32) (0 : Int32) g9) lf 0 (MK B n I1 L Q R) = fX10_bestOf_L29 (B + 108) K2 lf (0 : Int32) (0 : Int32) (MK B n I2 L Q R) := s1
  obtain ⟨g1, g2⟩ := m_best_L29 (B := B) (n := n) (L := L) (Q := Q) (R := R) (rows := rowsN N) hO hM (rows_le hO) K2 3 lf 0 I2 (by omega) (by decide) (fun b hb => by rw [s2 114 (by decide)]; exact (r2 b hb).1) (fun t ht => by rw [s3 t ht]; rfl)
  have hpre : fX10_bestOf (B + 108) (MK B n I L Q R) = fX10_bestOf_L29 (B + 108) K2 lf (0 : Int32) (0 : Int32) (MK B n I2 L Q R) := by
    unfold fX10_bestOf fX10_layAllWays
    rw [r1, ob1_some, ← s1, hK]
  have hfm2 : FM I I2 L L := ⟨fun a h1 h2 => ⟨by rw [s2 a (by omega), r3 a (by omega)], rfl⟩, fun j _ => by rw [s2 108 (by decide), r3 108 (by decide)]⟩
  rw [hpre]
  unfold bestB
  cases hw : canAll N (rowsN N) with
  | false =>
    obtain ⟨I3, t1, t2⟩ := g2 hw
    exact ⟨I3, L, t1, hfm2.tr ⟨fun a h1 h2 => ⟨t2 a (by omega), rfl⟩, fun j _ => by rw [t2 108 (by decide)]⟩⟩
  | true =>
    obtain ⟨I3, t1, t2, t3⟩ := g1 hw
    have hd3 := nD_le hO 3 (by omega)
    have hrc := can_rch (rows_wf N tA) hw
    obtain ⟨I4, u1, u2', u3⟩ := m_best_L98 (B := B) (n := n) (L := L) (Q := Q) (R := R) (x1 := nI (nD N 3)) (fun (g43 : AH) =>
        ob1 (fX10_begins (B + 108) g43) fun g44 =>
        fX10_bestOf_L121 (B + 108) (fun (g66 : AH) =>
          ob1 (gI g66 (B + 108) 10 19) fun v67 =>
          if v67 = (0 : Int32) then
            ob1 (gL g66 (B + 108) 10 20) fun v69 =>
            some (v69, g66)
          else
            some ((-6 : Int64), g66)
        ) lf (nI (nD N 3)) g44) 13 lf 0 I3 (by omega) (by decide) (fun q hq => by omega)
    obtain ⟨b1, b2, b3⟩ := m_begins (B := B) (n := n) (I := I4) (L := L) (Q := Q) (R := R)
    have hfm4 : FM I (u2 I4 108 19 0) L (u2 L 108 20 0) := (hfm2.tr ⟨fun a h1 h2 => ⟨by rw [u2' a (by omega), t2 a (by omega)], rfl⟩, fun j _ => by rw [u2' 108 (by decide), t2 108 (by decide)]⟩).tr b3.fm
    have hM4 : MNet (u2 L 108 20 0) 109 N := by unfold MNet at *; rw [(b3.1 109 (by decide)).2]; exact hM
    have hcb : ∀ b, b < 3 → nC N b 0 < 6 ∧ 1 ≤ nC N b 0 := fun b hb => by have := hO.2.2.2.2 b hb; unfold CrN at this; omega
    obtain ⟨I5, L5, fl', v', c', w1, w2, w3, w4, w5, w6, w7⟩ := m_best_L121 (B := B) (n := n) (Q := Q) (R := R) (D := nD N 3) hO (by omega) (fun (g66 : AH) =>
          ob1 (gI g66 (B + 108) 10 19) fun v67 =>
          if v67 = (0 : Int32) then
            ob1 (gL g66 (B + 108) 10 20) fun v69 =>
            some (v69, g66)
          else
            some ((-6 : Int64), g66)) (nD N 3) lf (u2 I4 108 19 0) (u2 L 108 20 0) (fun _ => 0) (fun t => duN N t 3) (0, false) 0 (by show _ < 1000; omega) (Nat.le_refl _) hM4 (by rw [Nat.sub_self]; exact bf_zero hO) (fun q hq => by rw [(b3.1 122 (by decide)).1]; exact u3 q hq) (fun t ht => by rw [(b3.1 123 (by decide)).1, u2' 123 (by decide)]; exact t3 t ht) (fun t _ => by have := du_le (N := N) t 3; omega) (du_sum 3 (fun b hb => (hcb b hb).1)) (by
            refine Nat.eq_zero_of_not_pos fun g => ?_
            obtain ⟨b, x1, x2, x3⟩ := du_pos 3 g
            have := hcb b x1
            omega) (fun t h1 h2 => by
            rw [du_asks h1]
            have : netF N (fun _ => 0) t = 0 := netF_z1 N t
            rw [this]
            omega) (fun t h1 h2 h3 => by
            obtain ⟨b, x1, x2, x3⟩ := du_pos 3 h3
            rw [← x2]
            exact hrc b x1 x3) b2 ⟨fun q => (by cases q), fun _ => rfl⟩ (by
            rw [cost_T]
            have : sumT N (fun _ => 0) (nM N) = 0 := by
              unfold sumT
              rw [sumN_cong (g := fun _ => 0) _ (fun r _ => by unfold allN; rw [Nat.zero_mul]), sumN_zero]
            rw [this])
    refine ⟨I5, L5, ?_, hfm4.tr w2⟩
    refine t1.trans ?_
    rw [hK]
    refine u1.trans ?_
    rw [b1, ob1_some]
    refine w1.trans ?_
    have hcost := best_eq hO hw w3 w4 w7
    have ht := vof_tot (N := N) w6 w5.2.2 hcost
    obtain ⟨x1, x2, x3⟩ := w5
    rw [if_pos rfl, ← ht, g_MisOver, ob1_some, x1]
    unfold totV
    cases v'.2 with
    | true => rw [if_neg (by decide), if_pos rfl]
    | false => rw [if_pos (by decide), if_neg (by decide), g_Msum0, ob1_some, x2]
