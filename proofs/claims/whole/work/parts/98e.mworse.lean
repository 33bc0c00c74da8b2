/-! best and worse of the model -/
theorem bestB_cases (N : NET) : (∃ a, a ≤ mxL ∧ canAll N (rowsN N) = true ∧ (totN N (flAll N 3) (nM N)).2 = false ∧ (totN N (flAll N 3) (nM N)).1 = a ∧ bestB N = lN a ∧ bestA N = lN a) ∨ (canAll N (rowsN N) = true ∧ (totN N (flAll N 3) (nM N)).2 = true ∧ bestB N = -6 ∧ bestA N = NOv) ∨ (canAll N (rowsN N) = false ∧ bestB N = -3 ∧ bestA N = NOv) := by
  unfold bestB bestA totA totV
  cases hw : canAll N (rowsN N) with
  | false => exact Or.inr (Or.inr ⟨rfl, rfl, rfl⟩)
  | true =>
    have hl := totN_leM N (flAll N 3) (nM N)
    cases ho : (totN N (flAll N 3) (nM N)).2 with
    | true => exact Or.inr (Or.inl ⟨rfl, rfl, rfl, rfl⟩)
    | false => exact Or.inl ⟨_, hl, rfl, rfl, rfl, rfl, rfl⟩
theorem d_best {B n : Nat} {I : Nat → Nat → Int32} {L : Nat → Nat → Int64} {Q : Nat → Nat → Option Nat} {R : Nat → RDt} {s : STT} (h : IsM I L s) (hs : OkS s) : RunM B n I L Q R (fX10_best (B + 108) (MK B n I L Q R)) (A_best (stN s), s) := by
  obtain ⟨I', L', r1, r2⟩ := m_bestOf (B := B) (n := n) (I := I) (Q := Q) (R := R) hs.1 h.1
  unfold A_best fX10_best
  rw [r1, ob2_some, NO_lit]
  rcases bestB_cases (stN s) with ⟨a, a1, a2, a3, a4, a5, a6⟩ | ⟨_, _, a5, a6⟩ | ⟨_, a5, a6⟩
  · rw [a5, a6, if_pos (lN_nn a1)]
    exact RunM.fm h r2 rfl
  · rw [a5, a6, if_neg (by decide)]
    exact RunM.fm h r2 rfl
  · rw [a5, a6, if_neg (by decide)]
    exact RunM.fm h r2 rfl
theorem d_worse {B n : Nat} {I : Nat → Nat → Int32} {L : Nat → Nat → Int64} {Q : Nat → Nat → Option Nat} {R : Nat → RDt} {s : STT} (h : IsM I L s) (hs : OkS s) (m p : Int32) : RunM B n I L Q R (fX10_worse (B + 108) m p (MK B n I L Q R)) (A_worse (stN s) m p, s) := by
  unfold A_worse fX10_worse
  rw [m_isMode, ob1_some, NO_lit]
  rcases ix_cases m (m := 3) (by decide) with ⟨mode, i1, rfl, i3⟩ | ⟨i1, i2⟩
  · rw [i3, if_neg (bS mode), in2, ob1_some]
    dsimp only
    rcases ix_cases p (m := 2) (by decide) with ⟨k, k1, rfl, k3⟩ | ⟨k1, k2⟩
    · obtain ⟨I1, L1, r1, r2⟩ := m_totalBy (B := B) (n := n) (I := I) (L := L) (Q := Q) (R := R) hs.1 h.1 i1
      have hM1 : MNet L1 109 (stN s) := (r2.is h).1
      obtain ⟨I2, L2, t1, t2⟩ := m_bestOf (B := B) (n := n) (I := I1) (Q := Q) (R := R) hs.1 hM1
      rw [k3, if_neg (bS k), r1, ob2_some, t1, ob2_some]
      dsimp only
      refine RunM.fm h (r2.tr t2) ?_
      have hmx := mx63
      rcases totB_cases (stN s) mode (rowsN (stN s)) with ⟨a, a1, a2, a3, a4, a5, a6⟩ | ⟨a2, a3, a5, a6⟩ | ⟨a2, a5, a6⟩
      · rcases bestB_cases (stN s) with ⟨b, b1, b2, b3, b4, b5, b6⟩ | ⟨b2, b3, b5, b6⟩ | ⟨b2, b5, b6⟩
        · have hle : b ≤ a := by
            have h1 := best_le (A := tA) hs.1 a2 (fun t _ => stF_net (A := tA) (mode := mode) hs.1 a2 t)
            have h2 := (tot_sum (stN s) (flAll (stN s) 3) (nM (stN s))).2 b3
            have h3 := (tot_sum (stN s) (stF (stN s) mode (rowsN (stN s))).1.1 (nM (stN s))).2 a3
            have h1 : sumT (stN s) (flAll (stN s) 3) (nM (stN s)) ≤ sumT (stN s) (stF (stN s) mode (rowsN (stN s))).1.1 (nM (stN s)) := h1
            omega
          rw [mxL_eq] at a1 b1
          rw [a5, b5, a2, a3, a4, b3, b4, if_neg (lN_neg (by rw [mxL_eq]; exact a1)), if_neg (lN_neg (by rw [mxL_eq]; exact b1)), if_pos (show true = true from rfl), if_neg (show ¬ false = true by decide), if_neg (show ¬ false = true by decide)]
          simp only [bnd_eq]
          by_cases c0 : b = 0
          · subst c0
            rw [if_pos rfl, if_pos (show lN 0 = 0 from rfl)]
            by_cases c1 : a = 0
            · rw [if_pos c1, if_pos (by rw [c1]; decide), if_pos (show lN 0 = 0 from rfl), nI_l (by omega)]
            · rw [if_neg c1, if_neg (by rw [L0, lN_leE (by omega) (by omega)]; omega)]
          · have hz : ¬ lN b = 0 := by rw [lNz (by omega)]; exact c0
            have hsub : lN a - lN b = lN (a - b) := by
              rw [lZ_nat, lZ_nat, lZ_sub, lZ_nat]
              congr 1
              omega
            rw [if_neg c0, if_neg hz, if_neg hz, hsub, m_partOf (by omega) (by omega) (by omega) k1, ob1_some]
        · rw [a5, b5, a2, a3, b3, if_neg (lN_neg a1), if_pos (by decide), if_pos rfl, if_neg (by decide), if_pos rfl]
        · rw [a2] at b2
          cases b2
      · rw [a5, a2, a3, if_pos (by decide), if_pos rfl, if_pos rfl]
      · rw [a5, a2, if_pos (by decide), if_neg (by decide)]
    · rw [k1, if_pos bN]
      exact RunM.same h rfl
  · rw [i1, if_pos bN]
    exact RunM.same h rfl
/-! loads laid into a list of the model -/
theorem m_lay_L45 {B n : Nat} {I : Nat → Nat → Int32} {La : Nat → Nat → Int64} {Q : Nat → Nat → Option Nat} {R : Nat → RDt} {N : NET} {ld : Nat → Nat} {l u len : Nat} (hl : l < 4) (hM : MNet La 109 N) (hm : nM N ≤ 12) (h24 : len ≤ 24) (hlen : I 126 l = nI len) (hu : u < 2147483648) (hq : ∀ q, q < 13 → I 120 q = nI (ld q)) (hb : ∀ q, q < 13 → ld q ≤ 36) (k : Int32 → AH → Option (Int32 × AH)) :
    ∀ (f n' r : Nat) (L : Nat → Nat → Int64), r + f = nM N → f < n' → (∀ a, a ≠ 127 → L a = La a) → (∀ i, i < 24 * l ∨ 24 * l + 24 ≤ i → L 127 i = La 127 i) → (∀ j, j < 24 → L 127 (24 * l + j) = if u ≤ j ∧ j < u + min r (len - u) then lN (ld (j - u)) else La 127 (24 * l + j)) →
    ∃ L' : Nat → Nat → Int64, fX10_lay_L45 (B + 108) (nI l) (nI u) k n' (nI (min r (len - u))) (nI r) (MK B n I L Q R) = k (nI (min (nM N) (len - u))) (MK B n I L' Q R) ∧ (∀ a, a ≠ 127 → L' a = La a) ∧ (∀ i, i < 24 * l ∨ 24 * l + 24 ≤ i → L' 127 i = La 127 i) ∧ ∀ j, j < 24 → L' 127 (24 * l + j) = if u ≤ j ∧ j < u + min (nM N) (len - u) then lN (ld (j - u)) else La 127 (24 * l + j) := by
  intro f
  induction f with
  | zero =>
    intro n' r L hr hn hF hO2 hV
    obtain ⟨n1, rfl⟩ := suc_of hn
    have hM' : MNet L 109 N := by unfold MNet at *; rw [hF 109 (by decide)]; exact hM
    rw [show r = nM N by omega] at hV ⊢
    refine ⟨L, ?_, hF, hO2, hV⟩
    rw [fX10_lay_L45, m_roadMany hM' (by omega), ob1_some, if_pos (by rw [nI_leI (by omega) (by omega)]; omega)]
  | succ f ih =>
    intro n' r L hr hn hF hO2 hV
    obtain ⟨n1, rfl⟩ := suc_of hn
    have hM' : MNet L 109 N := by unfold MNet at *; rw [hF 109 (by decide)]; exact hM
    rw [fX10_lay_L45, m_roadMany hM' (by omega), ob1_some, if_neg (by rw [nI_leI (by omega) (by omega)]; omega), if_neg (nI_pos (by omega)), g_MlistMany, ob1_some, a_MlistMany hl, ob1_some, hlen, nI_l (by omega), nI_l (by omega), nI_l (by omega), lN_add]
    by_cases c : len ≤ u + r
    · have e : min (r + 1) (len - u) = min r (len - u) := by omega
      obtain ⟨L', r1, r2⟩ := ih n1 (r + 1) L (by omega) (by omega) hF hO2 (by rw [e]; exact hV)
      rw [e] at r1
      refine ⟨L', ?_, r2⟩
      rw [if_pos (by rw [lN_leE (by omega) (by omega)]; exact c), bnd_eq, nI_1]
      exact r1
    · have e : min (r + 1) (len - u) = r + 1 := by omega
      have e2 : min r (len - u) = r := by omega
      rw [e2] at hV ⊢
      have hb1 := hb r (by omega)
      obtain ⟨L', r1, r2⟩ := ih n1 (r + 1) (u2 L 127 (24 * l + (u + r)) (lN (ld r))) (by omega) (by omega) (fun a ha => by rw [u2_nk ha]; exact hF a ha) (fun i hi => by rw [u2_ne (by omega)]; exact hO2 i hi) (fun j hj => by
        rw [mu2, e]
        by_cases g : j = u + r
        · rw [if_pos (by omega), if_pos (by omega), g, Nat.add_sub_cancel_left]
        · rw [if_neg (by omega), hV j hj]
          by_cases g2 : u ≤ j ∧ j < u + r
          · rw [if_pos g2, if_pos (by omega)]
          · rw [if_neg g2, if_neg (by omega)])
      rw [e] at r1
      refine ⟨L', ?_, r2⟩
      rw [if_neg (by rw [lN_leE (by omega) (by omega)]; exact c), g_Mlists, ob1_some, g_Mloads, ob1_some, a_Mloads (by omega), ob1_some, hq r (by omega), nI_l (by omega), l24, nI_mulx, nI_add, nI_add, show 24 * l + u + r = 24 * l + (u + r) by omega, s_Mlists (by omega), ob1_some, bnd_eq, bnd_eq, nI_1]
      exact r1
theorem m_lay_neg {B n : Nat} {I : Nat → Nat → Int32} {L : Nat → Nat → Int64} {Q : Nat → Nat → Option Nat} {R : Nat → RDt} {N : NET} {x1 x2 x4 : Int32} (hM : MNet L 109 N) (hm : nM N ≤ 12) (hx : x2 < 0) (k : Int32 → AH → Option (Int32 × AH)) : ∀ (f n' r : Nat), r + f = nM N → f < n' → fX10_lay_L45 (B + 108) x1 x2 k n' x4 (nI r) (MK B n I L Q R) = k x4 (MK B n I L Q R) := by
  intro f
  induction f with
  | zero =>
    intro n' r hr hn
    obtain ⟨n1, rfl⟩ := suc_of hn
    rw [fX10_lay_L45, m_roadMany hM (by omega), ob1_some, if_pos (by rw [nI_leI (by omega) (by omega)]; omega)]
  | succ f ih =>
    intro n' r hr hn
    obtain ⟨n1, rfl⟩ := suc_of hn
    rw [fX10_lay_L45, m_roadMany hM (by omega), ob1_some, if_neg (by rw [nI_leI (by omega) (by omega)]; omega), if_pos hx, bnd_eq, nI_1]
    exact ih n1 (r + 1) (by omega) (by omega)
theorem d_lay {B n : Nat} {I : Nat → Nat → Int32} {L : Nat → Nat → Int64} {Q : Nat → Nat → Option Nat} {R : Nat → RDt} {s : STT} (h : IsM I L s) (hs : OkS s) (x f m : Int32) : RunM B n I L Q R (fX10_lay (B + 108) x f m (MK B n I L Q R)) (A_lay s x f m) := by
  have hm12 := hs.2.1
  unfold A_lay fX10_lay
  rw [m_isList, ob1_some]
  rcases ix_cases x (m := 4) (by decide) with ⟨l, h1, rfl, h3⟩ | ⟨h1, h2⟩
  · rw [h3, if_neg (bS l), m_isMode, ob1_some]
    dsimp only
    rcases ix_cases m (m := 3) (by decide) with ⟨mode, i1, rfl, i3⟩ | ⟨i1, i2⟩
    · rw [i3, if_neg (bS mode), g_MlistMany, ob1_some, a_MlistMany h1, ob1_some]
      dsimp only
      have g := h.2.2.2.1 l h1
      cases hv : stL s l with
      | none =>
        rw [hv] at g
        have g : I 126 l = -1 := g
        rw [g, if_neg (by decide)]
        exact RunM.same h rfl
      | some q =>
        have h24 := hs.2.2.2.2.1 l q h1 hv
        rw [hv] at g
        obtain ⟨g1, g2⟩ := g
        obtain ⟨I1, s1, s2, s3, s4⟩ := m_steady (B := B) (n := n) (I := I) (L := L) (Q := Q) (R := R) hs.1 h.1 i1
        rw [g1, if_pos (nI_pos' (by omega)), s1, ob2_some]
        dsimp only
        cases hw : canAll (stN s) (rowsN (stN s)) with
        | false =>
          rw [if_pos (show bz false = 0 from rfl), if_neg (show ¬ false = true by decide)]
          exact RunM.fm h (F4.fm s2) rfl
        | true =>
          obtain ⟨w1, w2, w3, w4⟩ := s4 hw
          have hd := nD_le hs.1 3 (by omega)
          have hb : ∀ q, q < 13 → (stF (stN s) mode (rowsN (stN s))).1.1 q ≤ 36 := fun q _ => by have := w3.le q; omega
          have h2 : IsM I1 L s := (F4.fm (L := L) s2).is h
          have hlow : ∀ a, a < 108 → I1 a = I a := fun a ha => s2.1 a (by omega) (by omega)
          rw [if_neg (show ¬ bz true = 0 by decide), if_pos rfl]
          rcases px_cases f with ⟨f1, f2⟩ | ⟨u, u1, rfl, u3⟩
          · have e := m_lay_neg (B := B) (n := n) (I := I1) (Q := Q) (R := R) (x1 := nI l) (x4 := nI 0) h.1 hm12 f1 (fun (y33 : Int32) (g34 : AH) =>
              ob1 (fX10_roadMany (B + 108) g34) fun r35 =>
              if y33 = r35 then
                some (y33, g34)
              else
                some ((-13 : Int32), g34)) (nM (stN s)) lf 0 (by omega) (by show _ < 1000; omega)
            have e : fX10_lay_L45 (B + 108) (nI l) f (fun (y33 : Int32) (g34 : AH) =>
              ob1 (fX10_roadMany (B + 108) g34) fun r35 =>
              if y33 = r35 then
                some (y33, g34)
              else
                some ((-13 : Int32), g34)) lf 0 0 (MK B n I1 L Q R) = _ := e
            rw [e, m_roadMany h.1 (by omega), ob1_some, f2]
            by_cases c0 : nM (stN s) = 0
            · rw [if_pos (by rw [c0]), if_pos c0]
              exact RunM.fm h (F4.fm s2) rfl
            · rw [if_neg (by rw [nI_eq (by omega) (by omega)]; omega), if_neg c0]
              exact RunM.fm h (F4.fm s2) rfl
          · obtain ⟨L', r1, r2, r3, r4⟩ := m_lay_L45 (B := B) (n := n) (I := I1) (Q := Q) (R := R) (ld := (stF (stN s) mode (rowsN (stN s))).1.1) h1 h.1 hm12 h24 (by rw [s2.1 126 (by decide) (by decide)]; exact g1) u1 w1.1 hb (fun (y33 : Int32) (g34 : AH) =>
              ob1 (fX10_roadMany (B + 108) g34) fun r35 =>
              if y33 = r35 then
                some (y33, g34)
              else
                some ((-13 : Int32), g34)) (nM (stN s)) lf 0 L (by omega) (by show _ < 1000; omega) (fun _ _ => rfl) (fun _ _ => rfl) (fun j hj => by rw [Nat.zero_min, if_neg (by omega)])
            rw [Nat.zero_min] at r1
            have r1 : fX10_lay_L45 (B + 108) (nI l) (nI u) (fun (y33 : Int32) (g34 : AH) =>
              ob1 (fX10_roadMany (B + 108) g34) fun r35 =>
              if y33 = r35 then
                some (y33, g34)
              else
                some ((-13 : Int32), g34)) lf 0 0 (MK B n I1 L Q R) = _ := r1
            have hM' : MNet L' 109 (stN s) := by have := h.1; unfold MNet at *; rw [r2 109 (by decide)]; exact this
            have put : ∀ r, r = min (nM (stN s)) (q.1 - u) → IsM I1 L' (setLs s l (some (q.1, laySt q.2 (stF (stN s) mode (rowsN (stN s))).1.1 u r))) := fun r hr => by
              refine h2.setList (fun _ _ => rfl) r2 ⟨by rw [s2.1 126 (by decide) (by decide)]; exact g1, fun j hj => ?_⟩ (fun a ha ha4 => ⟨rfl, fun j hj => r3 _ (by omega)⟩)
              show _ = if u ≤ j ∧ j < u + r then lN ((stF (stN s) mode (rowsN (stN s))).1.1 (j - u)) else q.2 j
              rw [r4 j hj, hr]
              by_cases c : u ≤ j ∧ j < u + min (nM (stN s)) (q.1 - u)
              · rw [if_pos c, if_pos c]
              · rw [if_neg c, if_neg c]; exact g2 j hj
            have hfr : ∀ a, a < 108 → I1 a = I a ∧ L' a = L a := fun a ha => ⟨hlow a ha, r2 a (by omega)⟩
            rw [r1, m_roadMany hM' (by omega), ob1_some, u3]
            dsimp only
            by_cases c0 : nM (stN s) = 0
            · rw [if_pos c0, if_pos (by rw [c0, Nat.zero_min])]
              refine ⟨I1, L', by rw [c0, Nat.zero_min]; rfl, ?_, hfr⟩
              have := put 0 (by omega)
              refine h2.scr2 (fun _ _ _ => rfl) rfl rfl (fun a a1 a2 a3 a4 => ?_) hM'
              by_cases e : a = 127
              · subst e
                funext i
                by_cases g : i < 24 * l ∨ 24 * l + 24 ≤ i
                · exact r3 i g
                · have := r4 (i - 24 * l) (by omega)
                  rw [if_neg (by omega), show 24 * l + (i - 24 * l) = i by omega] at this
                  exact this
              · exact r2 a e
            · rw [if_neg c0]
              by_cases c1 : u + nM (stN s) ≤ q.1
              · have e : min (nM (stN s)) (q.1 - u) = nM (stN s) := by omega
                rw [if_pos c1, e, if_pos rfl]
                exact ⟨I1, L', rfl, put _ e.symm, hfr⟩
              · have e : min (nM (stN s)) (q.1 - u) = q.1 - u := by omega
                rw [if_neg c1, e, if_neg (by rw [nI_eq (by omega) (by omega)]; omega)]
                exact ⟨I1, L', rfl, put _ e.symm, hfr⟩
    · rw [i1, if_pos bN]
      exact RunM.same h rfl
  · rw [h1, if_pos bN]
    exact RunM.same h rfl
