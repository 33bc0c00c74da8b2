def findRow (rows : List ROW) (t v : Nat) : Nat → Option Nat
  | 0 => none
  | j + 1 => match findRow rows t v j with
    | some r => some r
    | none => if 1 ≤ j ∧ wEnd (rowAt rows j) = t ∧ cntTo rows t j = v then some j else none
theorem cnt_lt {rows : List ROW} {t j i : Nat} (h1 : 1 ≤ j) (he : wEnd (rowAt rows j) = t) (hi : j < i) : cntTo rows t j < cntTo rows t i := by
  have h := cntTo_mono rows t (i := j + 1) (i - (j + 1))
  rw [show j + 1 + (i - (j + 1)) = i by omega, cntTo, if_pos ⟨h1, he⟩] at h
  omega
theorem findRow_none {rows : List ROW} {t v j : Nat} (h1 : 1 ≤ j) (he : wEnd (rowAt rows j) = t) (hv : cntTo rows t j = v) : ∀ m, m ≤ j → findRow rows t v m = none
  | 0, _ => rfl
  | m + 1, hm => by
    rw [findRow, findRow_none h1 he hv m (by omega)]
    refine if_neg fun ⟨a, b, c⟩ => ?_
    have := cnt_lt a b (show m < j by omega)
    omega
theorem findRow_is {rows : List ROW} {t v j : Nat} (h1 : 1 ≤ j) (he : wEnd (rowAt rows j) = t) (hv : cntTo rows t j = v) : ∀ m, findRow rows t v (j + 1 + m) = some j
  | 0 => by
    show findRow rows t v (j + 1) = some j
    rw [findRow, findRow_none h1 he hv j (Nat.le_refl _)]
    exact if_pos ⟨h1, he, hv⟩
  | m + 1 => by
    show findRow rows t v (j + 1 + m + 1) = some j
    rw [findRow, findRow_is h1 he hv m]
def nWays (N : NET) (cl : Nat) : Nat := cntTo (rowsN N) (nC N cl 0) (rowsN N).length
def rowA (N : NET) (c w : Int32) : Option (Nat × Nat) := match ix c 3 with
  | some cl => (match ix w (nWays N cl) with
    | some v => (match findRow (rowsN N) (nC N cl 0) v (rowsN N).length with
      | some j => some (cl, j)
      | none => none)
    | none => none)
  | none => none
theorem c_rowOf {B n : Nat} {I : Nat → Nat → Int32} {L : Nat → Nat → Int64} {Q : Nat → Nat → Option Nat} {R : Nat → RDt} {s : STT} {fp : Bool} {fs : Nat → Bool} {fc : Bool} {c w : Int32} (h : RepC B n I L Q R s fp fs fc) :
    ∃ (I' : Nat → Nat → Int32) (fp' : Bool), RepC B n I' L Q R s fp' fs fc ∧ (∀ a, 24 ≤ a → I' a = I a) ∧
    ((∃ cl j, rowA (stN s) c w = some (cl, j) ∧ cl < 3 ∧ c = nI cl ∧ 1 ≤ j ∧ j < (rowsN (stN s)).length ∧ wEnd (rowAt (rowsN (stN s)) j) = nC (stN s) cl 0 ∧ fp' = true ∧ fX9_rowOf B c w (MK B n I L Q R) = some (nI j, MK B n I' L Q R)) ∨
     (rowA (stN s) c w = none ∧ fX9_rowOf B c w (MK B n I L Q R) = some (-1, MK B n I' L Q R))) := by
  obtain ⟨I', fp', r1, r2, r3⟩ := e_rowOf (c := c) (w := w) h
  have hO := h.1.2.2.1
  have hl := rows_le (A := fun _ => true) hO
  refine ⟨I', fp', r1, r2, ?_⟩
  rcases r3 with ⟨cl, v, j, h1, h2, h3, h4, h5, h6, h7, h8, h9⟩ | ⟨h1, h2⟩
  · refine Or.inl ⟨cl, j, ?_, h1, h2, h4, h5, h6, h8, h9⟩
    have hc := cnt_lt h4 h6 h5
    have hcl := cntTo_le (rowsN (stN s)) (nC (stN s) cl 0) (rowsN (stN s)).length
    have hl : (rowsN (stN s)).length ≤ 211 := hl
    have e1 : ix c 3 = some cl := by
      rw [h2]
      rcases ix_cases (nI cl) (m := 3) (by decide) with ⟨i, i1, i2, i3⟩ | ⟨i1, i2⟩
      · rw [nI_eq (by omega) (by omega)] at i2
        rw [i3, i2]
      · exact absurd rfl (i2 cl h1)
    have e2 : ix w (nWays (stN s) cl) = some v := by
      rw [h3]
      unfold nWays
      rcases ix_cases (nI v) (m := cntTo (rowsN (stN s)) (nC (stN s) cl 0) (rowsN (stN s)).length) (by omega) with ⟨i, i1, i2, i3⟩ | ⟨i1, i2⟩
      · rw [nI_eq (by omega) (by omega)] at i2
        rw [i3, i2]
      · exact absurd rfl (i2 v (by omega))
    have e3 := findRow_is h4 h6 h7 ((rowsN (stN s)).length - (j + 1))
    rw [show j + 1 + ((rowsN (stN s)).length - (j + 1)) = (rowsN (stN s)).length by omega] at e3
    unfold rowA
    rw [e1]
    dsimp only
    rw [e2]
    dsimp only
    rw [e3]
  · refine Or.inr ⟨?_, h2⟩
    unfold rowA
    rcases ix_cases c (m := 3) (by decide) with ⟨cl, i1, i2, i3⟩ | ⟨i1, i2⟩
    · rw [i3]
      dsimp only
      have hcl := cntTo_le (rowsN (stN s)) (nC (stN s) cl 0) (rowsN (stN s)).length
      have hl : (rowsN (stN s)).length ≤ 211 := hl
      rcases ix_cases w (m := nWays (stN s) cl) (by unfold nWays; omega) with ⟨v, j1, j2, j3⟩ | ⟨j1, j2⟩
      · exact absurd ⟨i2, j2⟩ (h1 cl v i1 j1)
      · rw [j1]
    · rw [i1]
def A_ways (N : NET) (c : Int32) : Int32 := match ix c 3 with
  | some cl => nI (nWays N cl)
  | none => -1
theorem c_ways {B n : Nat} {I : Nat → Nat → Int32} {L : Nat → Nat → Int64} {Q : Nat → Nat → Option Nat} {R : Nat → RDt} {s : STT} (h : IsC B n I L Q R s) (c : Int32) : RunC B I L (fX9_ways B c (MK B n I L Q R)) (A_ways (stN s) c, s) := by
  obtain ⟨fp, fs, fc, h0⟩ := id h
  unfold A_ways fX9_ways
  rw [ix3, ob1_some]
  rcases ix_cases c (m := 3) (by decide) with ⟨cl, h1, rfl, h3⟩ | ⟨h1, h2⟩
  · rw [h3, if_neg (bS cl)]
    obtain ⟨I', r1, r2, r3⟩ := e_freshPaths h0
    obtain ⟨hC, ⟨c1, c2, c3, c4, c5, c6⟩, hF⟩ := id r2
    have hO := hC.2.2.1
    have hcb := hO.2.2.2.2 cl h1
    unfold CrN at hcb
    have hx := isN1
    have hp := isP17
    have hC0 := hC.2.1.2.2.2.2.2 cl 0 h1 (by decide)
    have hcnt := e_countTo (n := n) (L := L) (Q := Q) (R := R) (B := B) (t := nC (stN s) cl 0) isP17 (c4 rfl) (rows_all _ hO) (rows_pos _ _) (by omega)
    refine ⟨n, I', L, Q, R, ?_, ⟨true, fs, fc, r2⟩, fun a ha => ⟨r3 a (by omega), rfl⟩⟩
    rw [r1, ob2_some]
    have hcr := a_crowd (B := B) (n := n) (I := I') (L := L) (Q := Q) (R := R) isN1 h1 (show 0 < 4 by decide)
    rw [hC0] at hcr
    have hcr : aI (MK B n I' L Q R) (B + (1 + (4 + cl))) 0 0 = some (nI (nC (stN s) cl 0)) := hcr
    simp (disch := first | assumption | omega) only [ob1_some, ob2_some, bnd_eq, gd_true, oc_none, oc_some, ↓reduceIte, g_Wnow, g_Wkept, g_Wpaths, g_Wsteadies, g_Wsfresh, g_Wcheapest, g_WthoughtNet, g_WthoughtPaths, g_WthoughtSteady, g_Wtape, g_Wtrays, g_Wrows, g_WtoldLoads, g_Wsum, g_WisKept, p_WisKept, g_Wpfresh, p_Wpfresh, g_Wcfresh, p_Wcfresh, k_W, a_sfresh, s_sfresh, a_told, s_told, r_steadies, r_trays, r_rows, k_Net, g_towns, p_towns, g_size, p_size, g_roads, g_tolls, g_crowds, a_tolls, s_tolls, r_crowds, a_crowd, s_crowd, q_roads, w_roads, k_Paths, g_count, p_count, g_parents, a_parents, s_parents, g_lastRoads, a_lastRoads, s_lastRoads, g_ends, a_ends, s_ends, g_lengths, a_lengths, s_lengths, g_roadBits, a_roadBits, s_roadBits, g_townBits, a_townBits, s_townBits, hcr, hcnt]
    rfl
  · rw [h1, if_pos bN]
    exact RunC.same h rfl
def A_way (N : NET) (c w k : Int32) : Int32 := match rowA N c w with
  | some q => if k = -1 then nI (wLen (rowAt (rowsN N) q.2)) else (match ix k (wLen (rowAt (rowsN N) q.2)) with
    | some i => nI (((wPath (rowAt (rowsN N) q.2))[i]?).getD 0)
    | none => -1)
  | none => -1
theorem RunC.rep {α : Type} {B n : Nat} {I : Nat → Nat → Int32} {L : Nat → Nat → Int64} {Q : Nat → Nat → Option Nat} {R : Nat → RDt} {I' : Nat → Nat → Int32} {L' : Nat → Nat → Int64} {s : STT} {v : α} {o : Option (α × AH)} {fp : Bool} {fs : Nat → Bool} {fc : Bool} (h : RepC B n I' L' Q R s fp fs fc) (hF : ∀ a, 108 ≤ a → I' a = I a ∧ L' a = L a) (e : o = some (v, MK B n I' L' Q R)) : RunC B I L o (v, s) := ⟨n, I', L', Q, R, e, ⟨fp, fs, fc, h⟩, hF⟩
theorem c_way {B n : Nat} {I : Nat → Nat → Int32} {L : Nat → Nat → Int64} {Q : Nat → Nat → Option Nat} {R : Nat → RDt} {s : STT} (h : IsC B n I L Q R s) (c w k : Int32) : RunC B I L (fX9_way B c w k (MK B n I L Q R)) (A_way (stN s) c w k, s) := by
  obtain ⟨fp, fs, fc, h0⟩ := id h
  obtain ⟨I', fp', r1, r2, r3⟩ := c_rowOf (c := c) (w := w) h0
  have hfr : ∀ a, 108 ≤ a → I' a = I a ∧ L a = L a := fun a ha => ⟨r2 a (by omega), rfl⟩
  have hO := h0.1.2.2.1
  have hl : (rowsN (stN s)).length ≤ 211 := rows_le hO
  unfold A_way fX9_way
  rcases r3 with ⟨cl, j, e1, e2, e3, e4, e5, e6, e7, e8⟩ | ⟨e1, e2⟩
  · rw [e8, e1, ob2_some]
    dsimp only
    subst e7
    obtain ⟨hC, ⟨c1, c2, c3, c4, c5, c6⟩, hF⟩ := id r1
    have hp := isP17
    have hW := rows_wf (stN s) (fun _ => true)
    have hK := rows_all (fun _ => true) hO
    have hr := rowAt_get e5
    have hlen := ((c4 rfl).2 j _ hr).2.2.2.1
    have hwl := (hK.2 j _ hr).1.2.1
    rw [if_neg (nI_pos (by omega))]
    have hm1 : (-1 : Int32) = m1 := rfl
    by_cases g : k = -1
    · subst g
      rw [if_pos rfl, if_neg (by decide)]
      have z1 : ((-1 : Int32) < nI (wLen (rowAt (rowsN (stN s)) j))) = True := by rw [hm1]; exact m1_lt (by omega)
      refine RunC.rep r1 hfr ?_
      simp (disch := first | assumption | omega) only [ob1_some, ob2_some, bnd_eq, gd_true, oc_none, oc_some, ↓reduceIte, g_Wnow, g_Wkept, g_Wpaths, g_Wsteadies, g_Wsfresh, g_Wcheapest, g_WthoughtNet, g_WthoughtPaths, g_WthoughtSteady, g_Wtape, g_Wtrays, g_Wrows, g_WtoldLoads, g_Wsum, g_WisKept, p_WisKept, g_Wpfresh, p_Wpfresh, g_Wcfresh, p_Wcfresh, k_W, a_sfresh, s_sfresh, a_told, s_told, r_steadies, r_trays, r_rows, k_Paths, g_count, p_count, g_parents, a_parents, s_parents, g_lastRoads, a_lastRoads, s_lastRoads, g_ends, a_ends, s_ends, g_lengths, a_lengths, s_lengths, g_roadBits, a_roadBits, s_roadBits, g_townBits, a_townBits, s_townBits, hlen, z1, if_true]
    · rw [if_neg g]
      rcases ix_cases k (m := wLen (rowAt (rowsN (stN s)) j)) (by omega) with ⟨i, i1, rfl, i3⟩ | ⟨i1, i2⟩
      · rw [i3]
        dsimp only
        obtain ⟨q, q1, q2⟩ := e_roadAt (B := B) (n := n) (L := L) (Q := Q) (R := R) isP17 (c4 rfl) hK hW e5 i1
        rw [q1, if_neg (by rw [hm1, lt_m1 (by omega)]; exact id)]
        have z1 : (nI i < nI (wLen (rowAt (rowsN (stN s)) j))) = True := eq_true (by rw [nI_ltI (by omega) (by omega)]; exact i1)
        have z2 : (nI i = -1) = False := eq_false g
        refine RunC.rep r1 hfr ?_
        simp (disch := first | assumption | omega) only [ob1_some, ob2_some, bnd_eq, gd_true, oc_none, oc_some, ↓reduceIte, g_Wnow, g_Wkept, g_Wpaths, g_Wsteadies, g_Wsfresh, g_Wcheapest, g_WthoughtNet, g_WthoughtPaths, g_WthoughtSteady, g_Wtape, g_Wtrays, g_Wrows, g_WtoldLoads, g_Wsum, g_WisKept, p_WisKept, g_Wpfresh, p_Wpfresh, g_Wcfresh, p_Wcfresh, k_W, a_sfresh, s_sfresh, a_told, s_told, r_steadies, r_trays, r_rows, k_Paths, g_count, p_count, g_parents, a_parents, s_parents, g_lastRoads, a_lastRoads, s_lastRoads, g_ends, a_ends, s_ends, g_lengths, a_lengths, s_lengths, g_roadBits, a_roadBits, s_roadBits, g_townBits, a_townBits, s_townBits, hlen, z1, z2, if_true, if_false, q2]
        rfl
      · rw [i1]
        dsimp only
        refine RunC.rep r1 hfr ?_
        by_cases g2 : k < -1
        · rw [if_pos g2, if_neg g]
        · rw [if_neg g2]
          have z3 : (k = -1) = False := eq_false g
          have h3 : ¬ k < 0 := fun q => by
            have e1 := Int32.lt_iff_toInt_lt.mp q
            have e2 : ¬ k.toInt < (-1 : Int32).toInt := fun q => g2 (Int32.lt_iff_toInt_lt.mpr q)
            have e3 : k.toInt ≠ (-1 : Int32).toInt := fun q => g (Int32.toInt_inj.mp q)
            have : (0 : Int32).toInt = 0 := rfl
            have : (-1 : Int32).toInt = -1 := rfl
            omega
          obtain ⟨u, hu, rfl⟩ := nI_of h3
          have z1 : (nI u < nI (wLen (rowAt (rowsN (stN s)) j))) = False := eq_false (by rw [nI_ltI (by omega) (by omega)]; exact fun q => i2 u q rfl)
          simp (disch := first | assumption | omega) only [ob1_some, ob2_some, bnd_eq, gd_true, oc_none, oc_some, ↓reduceIte, g_Wnow, g_Wkept, g_Wpaths, g_Wsteadies, g_Wsfresh, g_Wcheapest, g_WthoughtNet, g_WthoughtPaths, g_WthoughtSteady, g_Wtape, g_Wtrays, g_Wrows, g_WtoldLoads, g_Wsum, g_WisKept, p_WisKept, g_Wpfresh, p_Wpfresh, g_Wcfresh, p_Wcfresh, k_W, a_sfresh, s_sfresh, a_told, s_told, r_steadies, r_trays, r_rows, k_Paths, g_count, p_count, g_parents, a_parents, s_parents, g_lastRoads, a_lastRoads, s_lastRoads, g_ends, a_ends, s_ends, g_lengths, a_lengths, s_lengths, g_roadBits, a_roadBits, s_roadBits, g_townBits, a_townBits, s_townBits, hlen, z1, z3, if_false]
  · rw [e2, e1, ob2_some]
    dsimp only
    rw [if_pos (by decide)]
    exact RunC.rep r1 hfr rfl
/-- what is asked of steady loads: over the answers of a mode -/
def A_is (N : NET) (m : Int32) : Int32 := match ix m 3 with
  | some mode => if canAll N (rowsN N) = true then (if (totN N (stF N mode (rowsN N)).1.1 (nM N)).2 = true then -6 else 1) else -3
  | none => -1
theorem c_is {B n : Nat} {I : Nat → Nat → Int32} {L : Nat → Nat → Int64} {Q : Nat → Nat → Option Nat} {R : Nat → RDt} {s : STT} (h : IsC B n I L Q R s) (m : Int32) : RunC B I L (fX9_is B m (MK B n I L Q R)) (A_is (stN s) m, s) := by
  obtain ⟨fp, fs, fc, h0⟩ := id h
  unfold A_is fX9_is
  rw [ix3, ob1_some]
  rcases ix_cases m (m := 3) (by decide) with ⟨mode, h1, rfl, h3⟩ | ⟨h1, h2⟩
  · rw [h3, if_neg (bS mode)]
    dsimp only
    obtain ⟨I', L', fs', r1, r2, r3, r4, r5⟩ := e_steadyOf h0 h1
    obtain ⟨hC, ⟨c1, c2, c3, c4, c5, c6⟩, hF⟩ := id r2
    obtain ⟨s1, s2⟩ := (c5 mode h1 r3).2
    have hx := isSm h1
    have hU := isU_S hx
    refine RunC.rep r2 (fun a ha => r5 a (by omega)) ?_
    rw [r1, ob2_some, g_stands hx, ob1_some, s1]
    cases hc : canAll (stN s) (rowsN (stN s)) with
    | false => rfl
    | true =>
      obtain ⟨_, _, ⟨t1, t2, t3⟩, _⟩ := s2 hc
      rw [if_neg (by decide), g_ssum hx, ob1_some, g_isOver hU, ob1_some, t2, if_pos rfl]
      cases (totN (stN s) (stF (stN s) mode (rowsN (stN s))).1.1 (nM (stN s))).2 with
      | true => rfl
      | false => rfl
  · rw [h1, if_pos bN]
    exact RunC.same h rfl
def A_load (N : NET) (m r : Int32) : Int32 := match ix m 3 with
  | some mode => (match ix r (nM N) with
    | some q => if canAll N (rowsN N) = true then nI ((stF N mode (rowsN N)).1.1 q) else -3
    | none => -1)
  | none => -1
theorem c_load {B n : Nat} {I : Nat → Nat → Int32} {L : Nat → Nat → Int64} {Q : Nat → Nat → Option Nat} {R : Nat → RDt} {s : STT} (h : IsC B n I L Q R s) (m r : Int32) : RunC B I L (fX9_load B m r (MK B n I L Q R)) (A_load (stN s) m r, s) := by
  obtain ⟨fp, fs, fc, h0⟩ := id h
  have hN := h0.1.2.1
  have hm := h0.1.2.2.2.1
  unfold A_load fX9_load
  rw [ix3, ob1_some]
  rcases ix_cases m (m := 3) (by decide) with ⟨mode, h1, rfl, h3⟩ | ⟨h1, h2⟩
  · rw [h3, if_neg (bS mode), g_Wnow, ob1_some, k_Net isN1, gd_true, hasRoad_ix isN1 hN (by omega), ob1_some]
    dsimp only
    rcases ix_cases r (m := nM (stN s)) (by omega) with ⟨q, q1, rfl, q3⟩ | ⟨q1, q2⟩
    · rw [q3, if_neg (bS q)]
      dsimp only
      obtain ⟨I', L', fs', r1, r2, r3, r4, r5⟩ := e_steadyOf h0 h1
      obtain ⟨hC, ⟨c1, c2, c3, c4, c5, c6⟩, hF⟩ := id r2
      obtain ⟨s1, s2⟩ := (c5 mode h1 r3).2
      have hx := isSm h1
      refine RunC.rep r2 (fun a ha => r5 a (by omega)) ?_
      rw [r1, ob2_some, g_stands hx, ob1_some, s1]
      cases hc : canAll (stN s) (rowsN (stN s)) with
      | false => rfl
      | true =>
        obtain ⟨t1, _⟩ := s2 hc
        have t2 := t1.1 q (by omega)
        rw [if_neg (by decide), g_loads hx, ob1_some, a_loads hx (by omega), ob1_some, t2]
        rfl
    · rw [q1, if_pos bN]
      exact RunC.same h rfl
  · rw [h1, if_pos bN]
    exact RunC.same h rfl
def A_steps (N : NET) (m : Int32) : Int32 := match ix m 3 with
  | some mode => if canAll N (rowsN N) = true then nI (stF N mode (rowsN N)).2 else -3
  | none => -1
theorem c_steps {B n : Nat} {I : Nat → Nat → Int32} {L : Nat → Nat → Int64} {Q : Nat → Nat → Option Nat} {R : Nat → RDt} {s : STT} (h : IsC B n I L Q R s) (m : Int32) : RunC B I L (fX9_steps B m (MK B n I L Q R)) (A_steps (stN s) m, s) := by
  obtain ⟨fp, fs, fc, h0⟩ := id h
  unfold A_steps fX9_steps
  rw [ix3, ob1_some]
  rcases ix_cases m (m := 3) (by decide) with ⟨mode, h1, rfl, h3⟩ | ⟨h1, h2⟩
  · rw [h3, if_neg (bS mode)]
    dsimp only
    obtain ⟨I', L', fs', r1, r2, r3, r4, r5⟩ := e_steadyOf h0 h1
    obtain ⟨hC, ⟨c1, c2, c3, c4, c5, c6⟩, hF⟩ := id r2
    obtain ⟨s1, s2⟩ := (c5 mode h1 r3).2
    have hx := isSm h1
    refine RunC.rep r2 (fun a ha => r5 a (by omega)) ?_
    rw [r1, ob2_some, g_stands hx, ob1_some, s1]
    cases hc : canAll (stN s) (rowsN (stN s)) with
    | false => rfl
    | true =>
      obtain ⟨_, t2, _⟩ := s2 hc
      rw [if_neg (by decide), g_steps hx, ob1_some, t2]
      rfl
  · rw [h1, if_pos bN]
    exact RunC.same h rfl
def A_total (N : NET) (m : Int32) : Int64 := match ix m 3 with
  | some mode => totS N mode (rowsN N)
  | none => NOv
theorem c_total {B n : Nat} {I : Nat → Nat → Int32} {L : Nat → Nat → Int64} {Q : Nat → Nat → Option Nat} {R : Nat → RDt} {s : STT} (h : IsC B n I L Q R s) (m : Int32) : RunC B I L (fX9_total B m (MK B n I L Q R)) (A_total (stN s) m, s) := by
  obtain ⟨fp, fs, fc, h0⟩ := id h
  unfold A_total fX9_total
  rw [ix3, ob1_some]
  rcases ix_cases m (m := 3) (by decide) with ⟨mode, h1, rfl, h3⟩ | ⟨h1, h2⟩
  · rw [h3, if_neg (bS mode)]
    dsimp only
    obtain ⟨I', L', fs', r1, r2, r3, r4, r5⟩ := e_steadyOf h0 h1
    obtain ⟨hC, ⟨c1, c2, c3, c4, c5, c6⟩, hF⟩ := id r2
    refine RunC.rep r2 (fun a ha => r5 a (by omega)) ?_
    rw [r1, ob2_some, k_Steady (isSm h1), gd_true, e_totalOrNo (isSm h1) (c5 mode h1 r3).2, ob1_some]
    rfl
  · rw [h1, if_pos bN]
    exact RunC.same h rfl
def A_on (N : NET) (m c w : Int32) : Int32 := match ix m 3 with
  | some mode => (match rowA N c w with
    | some q => if canAll N (rowsN N) = true then nI ((stF N mode (rowsN N)).1.2 q.1 q.2) else -3
    | none => -1)
  | none => -1
theorem c_on {B n : Nat} {I : Nat → Nat → Int32} {L : Nat → Nat → Int64} {Q : Nat → Nat → Option Nat} {R : Nat → RDt} {s : STT} (h : IsC B n I L Q R s) (m c w : Int32) : RunC B I L (fX9_on B m c w (MK B n I L Q R)) (A_on (stN s) m c w, s) := by
  obtain ⟨fp, fs, fc, h0⟩ := id h
  obtain ⟨I1, fp', r1, r2, r3⟩ := c_rowOf (c := c) (w := w) h0
  have hfr : ∀ a, 108 ≤ a → I1 a = I a ∧ L a = L a := fun a ha => ⟨r2 a (by omega), rfl⟩
  have hO := h0.1.2.2.1
  have hl : (rowsN (stN s)).length ≤ 211 := rows_le hO
  unfold A_on fX9_on
  rcases r3 with ⟨cl, j, e1, e2, e3, e4, e5, e6, e7, e8⟩ | ⟨e1, e2⟩
  · rw [e8, e1, ob2_some, ix3, ob1_some]
    rcases ix_cases m (m := 3) (by decide) with ⟨mode, h1, rfl, h3⟩ | ⟨h1, h2⟩
    · rw [h3, if_neg (bS mode), if_pos (nI_pos' (by omega))]
      dsimp only
      obtain ⟨I', L', fs', t1, t2, t3, t4, t5⟩ := e_steadyOf r1 h1
      obtain ⟨hC, ⟨c1, c2, c3, c4, c5, c6⟩, hF⟩ := id t2
      obtain ⟨s1, s2⟩ := (c5 mode h1 t3).2
      have hx := isSm h1
      refine RunC.rep t2 (fun a ha => ⟨by rw [(t5 a (by omega)).1, r2 a (by omega)], (t5 a (by omega)).2⟩) ?_
      rw [t1, ob2_some, g_stands hx, ob1_some, s1]
      cases hc : canAll (stN s) (rowsN (stN s)) with
      | false => rfl
      | true =>
        obtain ⟨q1, _⟩ := s2 hc
        have q2 := q1.2 cl j e2 (by omega)
        rw [if_neg (by decide), g_riders hx, ob1_some, e3, r_riders hx e2, ob1_some, a_rider hx e2 (by omega), ob1_some, q2]
        rfl
    · rw [h1, if_pos bN]
      exact RunC.rep r1 hfr rfl
  · rw [e2, e1, ob2_some, ix3, ob1_some]
    rcases ix_cases m (m := 3) (by decide) with ⟨mode, h1, rfl, h3⟩ | ⟨h1, h2⟩
    · rw [h3, if_neg (bS mode), if_neg (by decide)]
      exact RunC.rep r1 hfr rfl
    · rw [h1, if_pos bN]
      exact RunC.rep r1 hfr rfl
