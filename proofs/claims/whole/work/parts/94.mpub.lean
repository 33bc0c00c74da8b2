/-! the model's ways, told -/
theorem cnt_ex {rows : List ROW} {t v : Nat} : ∀ m, v < cntTo rows t m → ∃ j, j < m ∧ 1 ≤ j ∧ wEnd (rowAt rows j) = t ∧ cntTo rows t j = v
  | 0, h => absurd h (Nat.not_lt_zero _)
  | m + 1, h => by
    rw [cntTo] at h
    by_cases c : 1 ≤ m ∧ wEnd (rowAt rows m) = t
    · rw [if_pos c] at h
      by_cases e : v = cntTo rows t m
      · exact ⟨m, by omega, c.1, c.2, e.symm⟩
      · obtain ⟨j, j1, j2⟩ := cnt_ex m (show v < cntTo rows t m by omega)
        exact ⟨j, by omega, j2⟩
    · rw [if_neg c] at h
      obtain ⟨j, j1, j2⟩ := cnt_ex m h
      exact ⟨j, by omega, j2⟩
theorem findRow_at {rows : List ROW} {t j : Nat} (h1 : 1 ≤ j) (hj : j < rows.length) (he : wEnd (rowAt rows j) = t) : findRow rows t (cntTo rows t j) rows.length = some j := by
  have := findRow_is h1 he rfl (rows.length - (j + 1))
  rw [show j + 1 + (rows.length - (j + 1)) = rows.length by omega] at this
  exact this
theorem in_cnt (w : Int32) {m : Nat} (hm : m < 1000) : fX10_in (Int32.toInt64 w) 0 (Int32.toInt64 (nI m - 1)) = some (bz (ix w m).isSome) := in_ix w (by omega) (by
  have e : (nI m - 1).toInt = (m : Int) - 1 := by
    rw [Int32.toInt_sub, nI_toInt (by omega), show (1 : Int32).toInt = 1 from rfl]
    exact Int.bmod_eq_of_le (by omega) (by omega)
  rw [Int32.toInt_toInt64, e])
theorem nWays_le {N : NET} {cl : Nat} (hO : NetOK N) : nWays N cl ≤ 211 := by
  have := cntTo_le (rowsN N) (nC N cl 0) (rowsN N).length
  have : (rowsN N).length ≤ 211 := rows_le hO
  unfold nWays
  omega
theorem m_isWay {B n : Nat} {I : Nat → Nat → Int32} {L : Nat → Nat → Int64} {Q : Nat → Nat → Option Nat} {R : Nat → RDt} {N : NET} {c w : Int32} (hO : NetOK N) (hM : MNet L 109 N) : ∃ I' : Nat → Nat → Int32, fX10_isWay (B + 108) c w (MK B n I L Q R) = some (bz (rowA N c w).isSome, MK B n I' L Q R) ∧ F4 I I' ∧ ∀ cl j, rowA N c w = some (cl, j) → cl < 3 ∧ c = nI cl ∧ ValR N (rowsN N) cl j ∧ w = nI (cntTo (rowsN N) (nC N cl 0) j) ∧ WaysR I' cl (nC N cl 0) (rowsN N) := by
  unfold fX10_isWay
  rw [m_isClass, ob1_some]
  rcases ix_cases c (m := 3) (by decide) with ⟨cl, i1, rfl, i3⟩ | ⟨i1, i2⟩
  · obtain ⟨I', r1, r2, r3⟩ := m_layWays2 (B := B) (n := n) (I := I) (Q := Q) (R := R) hO hM i1
    have hle := nWays_le (cl := cl) hO
    have h4 : I' 114 cl = nI (nWays N cl) := r2.1
    rw [i3, if_neg (bS cl), r1, ob1_some, g_MwayMany, ob1_some, a_MwayMany i1, ob1_some, h4, in_cnt w (by omega), ob1_some, bz_zb, gd_true]
    have e1 : rowA N (nI cl) w = (match ix w (nWays N cl) with
      | some v => (match findRow (rowsN N) (nC N cl 0) v (rowsN N).length with
        | some j => some (cl, j)
        | none => none)
      | none => none) := by
      unfold rowA
      rw [i3]
      rfl
    rw [e1]
    refine ⟨I', ?_, r3.f4, ?_⟩
    · rcases ix_cases w (m := nWays N cl) (by omega) with ⟨v, v1, rfl, v3⟩ | ⟨v1, v2⟩
      · obtain ⟨j, j1, j2, j3, j4⟩ := cnt_ex _ v1
        rw [v3]
        dsimp only
        rw [← j4, findRow_at j2 j1 j3]
        rfl
      · rw [v1]
        rfl
    · intro cl' j hj
      rcases ix_cases w (m := nWays N cl) (by omega) with ⟨v, v1, rfl, v3⟩ | ⟨v1, v2⟩
      · obtain ⟨i, k1, k2, k3, k4⟩ := cnt_ex _ v1
        rw [v3] at hj
        dsimp only at hj
        rw [← k4, findRow_at k2 k1 k3] at hj
        cases hj
        exact ⟨i1, rfl, ⟨k2, k1, k3⟩, by rw [k4], r2⟩
      · rw [v1] at hj
        cases hj
  · have e1 : rowA N c w = none := by
      unfold rowA
      rw [i1]
    rw [e1, i1, if_pos bN]
    exact ⟨I, rfl, F4.rf, fun cl j h => by cases h⟩
theorem d_ways {B n : Nat} {I : Nat → Nat → Int32} {L : Nat → Nat → Int64} {Q : Nat → Nat → Option Nat} {R : Nat → RDt} {s : STT} (h : IsM I L s) (hs : OkS s) (c : Int32) : RunM B n I L Q R (fX10_ways (B + 108) c (MK B n I L Q R)) (A_ways (stN s) c, s) := by
  unfold A_ways fX10_ways
  rw [m_isClass, ob1_some]
  rcases ix_cases c (m := 3) (by decide) with ⟨cl, i1, rfl, i3⟩ | ⟨i1, i2⟩
  · obtain ⟨I', r1, r2, r3⟩ := m_layWays2 (B := B) (n := n) (I := I) (Q := Q) (R := R) hs.1 h.1 i1
    have h4 : I' 114 cl = nI (nWays (stN s) cl) := r2.1
    rw [i3, if_neg (bS cl), r1, ob1_some, g_MwayMany, ob1_some, a_MwayMany i1, ob1_some, h4]
    exact RunM.fm h r3.fm rfl
  · rw [i1, if_pos bN]
    exact RunM.same h rfl
theorem in_m1 (x : Int32) {m : Nat} (hm : m < 1000) : fX10_in (Int32.toInt64 x) (-1) (Int32.toInt64 (nI m - 1)) = some (bz (decide (x = -1) || (ix x m).isSome)) := by
  have e : (Int32.toInt64 (nI m - 1)).toInt = (m : Int) - 1 := by
    rw [Int32.toInt_toInt64, Int32.toInt_sub, nI_toInt (by omega), show (1 : Int32).toInt = 1 from rfl]
    exact Int.bmod_eq_of_le (by omega) (by omega)
  have e0 : (Int32.toInt64 x).toInt = x.toInt := Int32.toInt_toInt64 x
  have en : (-1 : Int64).toInt = -1 := rfl
  have en2 : (-1 : Int32).toInt = -1 := rfl
  by_cases c : x = -1
  · rw [decide_eq_true c, Bool.true_or]
    unfold fX10_in
    rw [if_neg (by rw [Int64.lt_iff_toInt_lt, e0, en, c, en2]; omega), if_neg (by rw [Int64.lt_iff_toInt_lt, e0, e, c, en2]; omega)]
    rfl
  · rw [decide_eq_false c, Bool.false_or, ← in_cnt x hm]
    have hne : x.toInt ≠ -1 := fun q => c (Int32.toInt_inj.mp (by rw [q, en2]))
    have z : (0 : Int64).toInt = 0 := rfl
    unfold fX10_in
    by_cases c2 : Int32.toInt64 x < 0
    · rw [if_pos c2, if_pos]
      rw [Int64.lt_iff_toInt_lt, e0, z] at c2
      rw [Int64.lt_iff_toInt_lt, e0, en]
      omega
    · rw [if_neg c2, if_neg]
      rw [Int64.lt_iff_toInt_lt, e0, z] at c2
      rw [Int64.lt_iff_toInt_lt, e0, en]
      omega
theorem d_way {B n : Nat} {I : Nat → Nat → Int32} {L : Nat → Nat → Int64} {Q : Nat → Nat → Option Nat} {R : Nat → RDt} {s : STT} (h : IsM I L s) (hs : OkS s) (c w k : Int32) : RunM B n I L Q R (fX10_way (B + 108) c w k (MK B n I L Q R)) (A_way (stN s) c w k, s) := by
  obtain ⟨I', r1, r2, r3⟩ := m_isWay (B := B) (n := n) (I := I) (L := L) (Q := Q) (R := R) (N := stN s) (c := c) (w := w) hs.1 h.1
  have hO := hs.1
  unfold A_way fX10_way
  rw [r1, ob2_some]
  cases hr : rowA (stN s) c w with
  | none =>
    rw [if_pos (show bz (none : Option (Nat × Nat)).isSome = 0 from rfl)]
    exact RunM.fm h (F4.fm r2) rfl
  | some q =>
    obtain ⟨cl, j⟩ := q
    obtain ⟨c1, rfl, hv, rfl, hW⟩ := r3 cl j hr
    obtain ⟨v1, v2, v3⟩ := id hv
    obtain ⟨g1, g2⟩ := hW.2 j v1 v2 v3
    have hcl := cntTo_le (rowsN (stN s)) (nC (stN s) cl 0) j
    have hl : (rowsN (stN s)).length ≤ 211 := rows_le hO
    have hf := (rows_wf (stN s) tA).fact hO (j + 1) j _ (by omega) (rowAt_get v2)
    have h5 := hf.len
    have hlen := hf.2.2.2.2
    have e5 : rowAt (rowsOf (stN s) tA) j = rowAt (rowsN (stN s)) j := rfl
    rw [e5] at h5 hlen
    rw [if_neg (show ¬ bz (some (cl, j)).isSome = 0 from (show ¬ bz true = 0 by decide)), g_MwayLong, ob1_some, show (256 : Int32) = nI 256 from rfl, nI_mulx, nI_add, a_MwayLong (by omega), ob1_some, g1, in_m1 k (by omega), ob1_some]
    dsimp only
    by_cases ck : k = -1
    · rw [if_neg (by rw [decide_eq_true ck]; exact (show ¬ bz true = 0 by decide)), if_pos ck, if_neg (by rw [ck]; decide), ob1_some, a_MwayLong (by omega), ob1_some, g1]
      exact RunM.fm h (F4.fm r2) rfl
    · rw [if_neg ck, decide_eq_false ck, Bool.false_or]
      rcases ix_cases k (m := wLen (rowAt (rowsN (stN s)) j)) (by omega) with ⟨i, i1, rfl, i3⟩ | ⟨i1, i2⟩
      · rw [i3, if_neg (bS i), if_pos (nI_pos' (by omega)), g_MwayRoads, ob1_some, l5, nI_mulx, nI_add, a_MwayRoads (by omega), ob1_some, g2 i i1, List.getD_eq_getElem?_getD]
        exact RunM.fm h (F4.fm r2) rfl
      · rw [i1, if_pos bN]
        exact RunM.fm h (F4.fm r2) rfl
/-! what a steady load tells -/
theorem d_steps {B n : Nat} {I : Nat → Nat → Int32} {L : Nat → Nat → Int64} {Q : Nat → Nat → Option Nat} {R : Nat → RDt} {s : STT} (h : IsM I L s) (hs : OkS s) (m : Int32) : RunM B n I L Q R (fX10_steps (B + 108) m (MK B n I L Q R)) (A_steps (stN s) m, s) := by
  unfold A_steps fX10_steps
  rw [m_isMode, ob1_some]
  rcases ix_cases m (m := 3) (by decide) with ⟨mode, i1, rfl, i3⟩ | ⟨i1, i2⟩
  · obtain ⟨I', r1, r2, r3, r4⟩ := m_steady (B := B) (n := n) (I := I) (L := L) (Q := Q) (R := R) hs.1 h.1 i1
    rw [i3, if_neg (bS mode), r1, ob2_some]
    dsimp only
    cases hw : canAll (stN s) (rowsN (stN s)) with
    | false =>
      rw [if_pos (show bz false = 0 from rfl), if_neg (show ¬ false = true by decide)]
      exact RunM.fm h (F4.fm r2) rfl
    | true =>
      rw [if_neg (show ¬ bz true = 0 by decide), if_pos rfl, g_MstepMany, ob1_some, (r4 hw).2.1]
      exact RunM.fm h (F4.fm r2) rfl
  · rw [i1, if_pos bN]
    exact RunM.same h rfl
theorem d_load {B n : Nat} {I : Nat → Nat → Int32} {L : Nat → Nat → Int64} {Q : Nat → Nat → Option Nat} {R : Nat → RDt} {s : STT} (h : IsM I L s) (hs : OkS s) (m r : Int32) : RunM B n I L Q R (fX10_load (B + 108) m r (MK B n I L Q R)) (A_load (stN s) m r, s) := by
  have hm12 := hs.2.1
  unfold A_load fX10_load
  rw [m_isMode, ob1_some]
  rcases ix_cases m (m := 3) (by decide) with ⟨mode, i1, rfl, i3⟩ | ⟨i1, i2⟩
  · rw [i3, if_neg (bS mode), m_isRoad h.1 (by omega), ob1_some]
    dsimp only
    rcases ix_cases r (m := nM (stN s)) (by omega) with ⟨q, q1, rfl, q3⟩ | ⟨q1, q2⟩
    · obtain ⟨I', r1, r2, r3, r4⟩ := m_steady (B := B) (n := n) (I := I) (L := L) (Q := Q) (R := R) hs.1 h.1 i1
      rw [q3, if_neg (bS q), r1, ob2_some]
      dsimp only
      cases hw : canAll (stN s) (rowsN (stN s)) with
      | false =>
        rw [if_pos (show bz false = 0 from rfl), if_neg (show ¬ false = true by decide)]
        exact RunM.fm h (F4.fm r2) rfl
      | true =>
        rw [if_neg (show ¬ bz true = 0 by decide), if_pos rfl, g_Mloads, ob1_some, a_Mloads (by omega), ob1_some, (r4 hw).1.1 q (by omega)]
        exact RunM.fm h (F4.fm r2) rfl
    · rw [q1, if_pos bN]
      exact RunM.same h rfl
  · rw [i1, if_pos bN]
    exact RunM.same h rfl
theorem d_on {B n : Nat} {I : Nat → Nat → Int32} {L : Nat → Nat → Int64} {Q : Nat → Nat → Option Nat} {R : Nat → RDt} {s : STT} (h : IsM I L s) (hs : OkS s) (m c w : Int32) : RunM B n I L Q R (fX10_on (B + 108) m c w (MK B n I L Q R)) (A_on (stN s) m c w, s) := by
  unfold A_on fX10_on
  rw [m_isMode, ob1_some]
  rcases ix_cases m (m := 3) (by decide) with ⟨mode, i1, rfl, i3⟩ | ⟨i1, i2⟩
  · obtain ⟨I1, r1, r2, r3⟩ := m_isWay (B := B) (n := n) (I := I) (L := L) (Q := Q) (R := R) (N := stN s) (c := c) (w := w) hs.1 h.1
    rw [i3, if_neg (bS mode), r1, ob2_some]
    dsimp only
    cases hr : rowA (stN s) c w with
    | none =>
      rw [if_pos (show bz (none : Option (Nat × Nat)).isSome = 0 from rfl)]
      exact RunM.fm h (F4.fm r2) rfl
    | some q =>
      obtain ⟨cl, j⟩ := q
      obtain ⟨c1, rfl, hv, rfl, hW⟩ := r3 cl j hr
      obtain ⟨I', s1, s2, s3, s4⟩ := m_steady (B := B) (n := n) (I := I1) (L := L) (Q := Q) (R := R) hs.1 h.1 i1
      have hcl := cntTo_le (rowsN (stN s)) (nC (stN s) cl 0) j
      have hl : (rowsN (stN s)).length ≤ 211 := rows_le hs.1
      have hv2 := hv.2.1
      rw [if_neg (show ¬ bz (some (cl, j)).isSome = 0 from (show ¬ bz true = 0 by decide)), s1, ob2_some]
      dsimp only
      cases hw : canAll (stN s) (rowsN (stN s)) with
      | false =>
        rw [if_pos (show bz false = 0 from rfl), if_neg (show ¬ false = true by decide)]
        exact RunM.fm h (F4.fm (r2.tr s2)) rfl
      | true =>
        rw [if_neg (show ¬ bz true = 0 by decide), if_pos rfl, g_MonWay, ob1_some, show (256 : Int32) = nI 256 from rfl, nI_mulx, nI_add, a_MonWay (by omega), ob1_some, (s4 hw).1.2 cl c1 j hv.1 hv.2.1 hv.2.2]
        exact RunM.fm h (F4.fm (r2.tr s2)) rfl
  · rw [i1, if_pos bN]
    exact RunM.same h rfl
theorem lN_nn {a : Nat} (h : a ≤ mxL) : (0 : Int64) ≤ lN a := by
  have := mx63
  rw [L0, lN_leE (by decide) (by rw [mxL_eq] at *; omega)]
  exact Nat.zero_le _
theorem d_is {B n : Nat} {I : Nat → Nat → Int32} {L : Nat → Nat → Int64} {Q : Nat → Nat → Option Nat} {R : Nat → RDt} {s : STT} (h : IsM I L s) (hs : OkS s) (m : Int32) : RunM B n I L Q R (fX10_is (B + 108) m (MK B n I L Q R)) (A_is (stN s) m, s) := by
  unfold A_is fX10_is
  rw [m_isMode, ob1_some]
  rcases ix_cases m (m := 3) (by decide) with ⟨mode, i1, rfl, i3⟩ | ⟨i1, i2⟩
  · obtain ⟨I', L', r1, r2⟩ := m_totalBy (B := B) (n := n) (I := I) (L := L) (Q := Q) (R := R) hs.1 h.1 i1
    rw [i3, if_neg (bS mode), r1, ob2_some]
    dsimp only
    unfold totB
    by_cases hw : canAll (stN s) (rowsN (stN s)) = true
    · rw [if_pos hw, if_pos hw]
      unfold totV
      by_cases ho : (totN (stN s) (stF (stN s) mode (rowsN (stN s))).1.1 (nM (stN s))).2 = true
      · rw [if_pos ho, if_pos ho, if_neg (by decide)]
        exact RunM.fm h r2 rfl
      · rw [if_neg ho, if_neg ho, if_pos (lN_nn (totN_leM _ _ _))]
        exact RunM.fm h r2 rfl
    · rw [if_neg hw, if_neg hw, if_neg (by decide)]
      exact RunM.fm h r2 rfl
  · rw [i1, if_pos bN]
    exact RunM.same h rfl
theorem totB_S {N : NET} {mode : Nat} {rows : List ROW} : (if (0 : Int64) ≤ totB N mode rows then totB N mode rows else NOv) = totS N mode rows := by
  unfold totB totS totA
  by_cases hw : canAll N rows = true
  · rw [if_pos hw, if_pos hw]
    unfold totV
    by_cases ho : (totN N (stF N mode rows).1.1 (nM N)).2 = true
    · rw [if_pos ho, if_pos ho, if_neg (by decide)]
    · rw [if_neg ho, if_neg ho, if_pos (lN_nn (totN_leM _ _ _))]
  · rw [if_neg hw, if_neg hw, if_neg (by decide)]
theorem d_total {B n : Nat} {I : Nat → Nat → Int32} {L : Nat → Nat → Int64} {Q : Nat → Nat → Option Nat} {R : Nat → RDt} {s : STT} (h : IsM I L s) (hs : OkS s) (m : Int32) : RunM B n I L Q R (fX10_total (B + 108) m (MK B n I L Q R)) (A_total (stN s) m, s) := by
  unfold A_total fX10_total
  rw [m_isMode, ob1_some]
  simp only [bnd_eq]
  rcases ix_cases m (m := 3) (by decide) with ⟨mode, i1, rfl, i3⟩ | ⟨i1, i2⟩
  · obtain ⟨I', L', r1, r2⟩ := m_totalBy (B := B) (n := n) (I := I) (L := L) (Q := Q) (R := R) hs.1 h.1 i1
    rw [i3, if_neg (bS mode), r1, ob2_some]
    dsimp only
    rw [← totB_S]
    by_cases c : (0 : Int64) ≤ totB (stN s) mode (rowsN (stN s))
    · rw [if_pos c, if_pos c]
      exact RunM.fm h r2 rfl
    · rw [if_neg c, if_neg c]
      exact RunM.fm h r2 rfl
  · rw [i1, if_pos bN, if_neg (by decide)]
    exact RunM.same h rfl
theorem d_price {B n : Nat} {I : Nat → Nat → Int32} {L : Nat → Nat → Int64} {Q : Nat → Nat → Option Nat} {R : Nat → RDt} {s : STT} (h : IsM I L s) (hs : OkS s) (m c w y : Int32) : RunM B n I L Q R (fX10_price (B + 108) m c w y (MK B n I L Q R)) (A_price (stN s) m c w y, s) := by
  unfold A_price fX10_price
  rw [m_isMode, ob1_some, NO_lit]
  rcases ix_cases m (m := 3) (by decide) with ⟨mode, i1, rfl, i3⟩ | ⟨i1, i2⟩
  · obtain ⟨I1, r1, r2, r3⟩ := m_isWay (B := B) (n := n) (I := I) (L := L) (Q := Q) (R := R) (N := stN s) (c := c) (w := w) hs.1 h.1
    rw [i3, if_neg (bS mode), r1, ob2_some]
    cases hr : rowA (stN s) c w with
    | none =>
      rw [if_pos (show bz (none : Option (Nat × Nat)).isSome = 0 from rfl)]
      exact RunM.fm h (F4.fm r2) rfl
    | some q =>
      obtain ⟨cl, j⟩ := q
      obtain ⟨c1, rfl, hv, rfl, hW⟩ := r3 cl j hr
      rw [if_neg (show ¬ bz (some (cl, j)).isSome = 0 from (show ¬ bz true = 0 by decide)), in2, ob1_some]
      dsimp only
      rcases ix_cases y (m := 2) (by decide) with ⟨k, k1, rfl, k3⟩ | ⟨k1, k2⟩
      · obtain ⟨I', s1, s2, s3, s4⟩ := m_steady (B := B) (n := n) (I := I1) (L := L) (Q := Q) (R := R) hs.1 h.1 i1
        rw [k3, if_neg (bS k), s1, ob2_some]
        dsimp only
        cases hw : canAll (stN s) (rowsN (stN s)) with
        | false =>
          rw [if_pos (show bz false = 0 from rfl), if_neg (show ¬ false = true by decide)]
          exact RunM.fm h (F4.fm (r2.tr s2)) rfl
        | true =>
          obtain ⟨w1, w2, w3, w4⟩ := s4 hw
          have hd := nD_le hs.1 3 (by omega)
          have hb : ∀ q, q < 13 → (stF (stN s) mode (rowsN (stN s))).1.1 q ≤ 36 := fun q _ => by have := w3.le q; omega
          rw [if_neg (show ¬ bz true = 0 by decide), if_pos rfl]
          by_cases ck : k = 0
          · subst ck
            rw [if_pos (show nI 0 = 0 from rfl), m_priceNow s3 i1 c1 hv w1.1 hb, ob1_some]
            exact RunM.fm h (F4.fm (r2.tr s2)) rfl
          · have e1 : k = 1 := by omega
            subst e1
            rw [if_neg (show ¬ nI 1 = 0 by decide), m_priceMore s3 i1 c1 hv w1.1 hb, ob1_some]
            refine RunM.fm h (F4.fm (r2.tr s2)) ?_
            have ef : fareP (stN s) mode cl (stF (stN s) mode (rowsN (stN s))).1.1 1 = moreP (stN s) mode cl (stF (stN s) mode (rowsN (stN s))).1.1 := by
              funext q
              unfold fareP moreP
              rw [Nat.max_eq_right (by omega)]
            rw [ef]
      · rw [k1, if_pos bN]
        exact RunM.fm h (F4.fm r2) rfl
  · rw [i1, if_pos bN]
    cases rowA (stN s) c w with
    | none => exact RunM.same h rfl
    | some q => exact RunM.same h rfl
