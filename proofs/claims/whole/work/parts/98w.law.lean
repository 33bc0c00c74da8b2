/-! the law's cases -/
theorem sc_at {len j k : Nat} {xs : Nat → Int32} (h : j + k < len) (hl : len ≤ 5632) : sc len xs (nI j + nI k) = some (xs (j + k)) := by
  unfold sc
  rw [nI_add, nI_clamp (by omega)]
  refine if_neg fun q => ?_
  rcases q with q | q
  · exact nI_pos (by omega) q
  · omega
theorem sc_j {len j : Nat} {xs : Nat → Int32} (h : j + 11 ≤ len) (hl : len ≤ 5632) : sc len xs (nI j) = some (xs j) := by
  unfold sc
  rw [nI_clamp (by omega)]
  refine if_neg fun q => ?_
  rcases q with q | q
  · exact nI_pos (by omega) q
  · omega
theorem sc1 {len j : Nat} {xs : Nat → Int32} (h : j + 11 ≤ len) (hl : len ≤ 5632) : sc len xs (nI j + 1) = some (xs (j + 1)) := sc_at (k := 1) (by omega) hl
theorem sc2 {len j : Nat} {xs : Nat → Int32} (h : j + 11 ≤ len) (hl : len ≤ 5632) : sc len xs (nI j + 2) = some (xs (j + 2)) := sc_at (k := 2) (by omega) hl
theorem sc3 {len j : Nat} {xs : Nat → Int32} (h : j + 11 ≤ len) (hl : len ≤ 5632) : sc len xs (nI j + 3) = some (xs (j + 3)) := sc_at (k := 3) (by omega) hl
theorem sc4 {len j : Nat} {xs : Nat → Int32} (h : j + 11 ≤ len) (hl : len ≤ 5632) : sc len xs (nI j + 4) = some (xs (j + 4)) := sc_at (k := 4) (by omega) hl
theorem sc5 {len j : Nat} {xs : Nat → Int32} (h : j + 11 ≤ len) (hl : len ≤ 5632) : sc len xs (nI j + 5) = some (xs (j + 5)) := sc_at (k := 5) (by omega) hl
theorem sc6 {len j : Nat} {xs : Nat → Int32} (h : j + 11 ≤ len) (hl : len ≤ 5632) : sc len xs (nI j + 6) = some (xs (j + 6)) := sc_at (k := 6) (by omega) hl
theorem sc7 {len j : Nat} {xs : Nat → Int32} (h : j + 11 ≤ len) (hl : len ≤ 5632) : sc len xs (nI j + 7) = some (xs (j + 7)) := sc_at (k := 7) (by omega) hl
theorem sc8 {len j : Nat} {xs : Nat → Int32} (h : j + 11 ≤ len) (hl : len ≤ 5632) : sc len xs (nI j + 8) = some (xs (j + 8)) := sc_at (k := 8) (by omega) hl
theorem sc9 {len j : Nat} {xs : Nat → Int32} (h : j + 11 ≤ len) (hl : len ≤ 5632) : sc len xs (nI j + 9) = some (xs (j + 9)) := sc_at (k := 9) (by omega) hl
theorem sc10 {len j : Nat} {xs : Nat → Int32} (h : j + 11 ≤ len) (hl : len ≤ 5632) : sc len xs (nI j + 10) = some (xs (j + 10)) := sc_at (k := 10) (by omega) hl
def GoOn (B : Nat) (k : AH → Option Int32) : Prop := ∀ (n : Nat) (I : Nat → Nat → Int32) (L : Nat → Nat → Int64) (Q : Nat → Nat → Option Nat) (R : Nat → RDt) (s : STT), IsC B n I L Q R s → IsM I L s → k (MK B n I L Q R) = some 1
theorem law_c0 {B n : Nat} {I : Nat → Nat → Int32} {L : Nat → Nat → Int64} {Q : Nat → Nat → Option Nat} {R : Nat → RDt} {len j : Nat} {xs : Nat → Int32} {s : STT} {k : AH → Option Int32} (h : IsC B n I L Q R s) (hM : IsM I L s) (hj : j + 11 ≤ len) (hl : len ≤ 5632) (hk : GoOn B k) : fL_c0 len xs (nI j) B (B + 108) k (MK B n I L Q R) = some 1 := by
  obtain ⟨n1, I1, L1, Q1, R1, e1, p1, p2⟩ := c_towns h (xs (j + 1))
  have m1 : IsM I1 L1 s := hM.same p2
  obtain ⟨I2, L2, e2, q1, q2⟩ := d_towns (B := B) (n := n1) (Q := Q1) (R := R1) m1 h.okS (xs (j + 1))
  unfold fL_c0
  rw [sc1 hj hl, ob1_some, k_W, gd_true, e1, ob2_some, ob1_some, k_M, gd_true, e2, ob2_some, if_pos rfl]
  exact hk _ _ _ _ _ _ (IsC.same2 p1 q2) q1
theorem law_c1 {B n : Nat} {I : Nat → Nat → Int32} {L : Nat → Nat → Int64} {Q : Nat → Nat → Option Nat} {R : Nat → RDt} {len j : Nat} {xs : Nat → Int32} {s : STT} {k : AH → Option Int32} (h : IsC B n I L Q R s) (hM : IsM I L s) (hj : j + 11 ≤ len) (hl : len ≤ 5632) (hk : GoOn B k) : fL_c1 len xs (nI j) B (B + 108) k (MK B n I L Q R) = some 1 := by
  obtain ⟨n1, I1, L1, Q1, R1, e1, p1, p2⟩ := c_road h (xs (j + 1)) (xs (j + 2)) (xs (j + 3)) (((Int32.toInt64 (xs (j + 4))) <<< (Int32.toInt64 (32 : Int32) &&& 63)) ||| ((Int32.toInt64 (xs (j + 5))) &&& (4294967295 : Int64))) (((Int32.toInt64 (xs (j + 6))) <<< (Int32.toInt64 (32 : Int32) &&& 63)) ||| ((Int32.toInt64 (xs (j + 7))) &&& (4294967295 : Int64))) (((Int32.toInt64 (xs (j + 8))) <<< (Int32.toInt64 (32 : Int32) &&& 63)) ||| ((Int32.toInt64 (xs (j + 9))) &&& (4294967295 : Int64))) (xs (j + 10))
  have m1 : IsM I1 L1 s := hM.same p2
  obtain ⟨I2, L2, e2, q1, q2⟩ := d_road (B := B) (n := n1) (Q := Q1) (R := R1) m1 h.okS (xs (j + 1)) (xs (j + 2)) (xs (j + 3)) (((Int32.toInt64 (xs (j + 4))) <<< (Int32.toInt64 (32 : Int32) &&& 63)) ||| ((Int32.toInt64 (xs (j + 5))) &&& (4294967295 : Int64))) (((Int32.toInt64 (xs (j + 6))) <<< (Int32.toInt64 (32 : Int32) &&& 63)) ||| ((Int32.toInt64 (xs (j + 7))) &&& (4294967295 : Int64))) (((Int32.toInt64 (xs (j + 8))) <<< (Int32.toInt64 (32 : Int32) &&& 63)) ||| ((Int32.toInt64 (xs (j + 9))) &&& (4294967295 : Int64))) (xs (j + 10))
  unfold fL_c1
  rw [sc1 hj hl, ob1_some, sc2 hj hl, ob1_some, sc3 hj hl, ob1_some, sc4 hj hl, ob1_some, sc5 hj hl, ob1_some, sc6 hj hl, ob1_some, sc7 hj hl, ob1_some, sc8 hj hl, ob1_some, sc9 hj hl, ob1_some, sc10 hj hl, ob1_some, k_W, gd_true, e1, ob2_some, ob1_some, ob1_some, ob1_some, ob1_some, ob1_some, ob1_some, ob1_some, ob1_some, ob1_some, ob1_some, k_M, gd_true, e2, ob2_some, if_pos rfl]
  exact hk _ _ _ _ _ _ (IsC.same2 p1 q2) q1
theorem law_c2 {B n : Nat} {I : Nat → Nat → Int32} {L : Nat → Nat → Int64} {Q : Nat → Nat → Option Nat} {R : Nat → RDt} {len j : Nat} {xs : Nat → Int32} {s : STT} {k : AH → Option Int32} (h : IsC B n I L Q R s) (hM : IsM I L s) (hj : j + 11 ≤ len) (hl : len ≤ 5632) (hk : GoOn B k) : fL_c2 len xs (nI j) B (B + 108) k (MK B n I L Q R) = some 1 := by
  obtain ⟨n1, I1, L1, Q1, R1, e1, p1, p2⟩ := c_close h (xs (j + 1))
  have m1 : IsM I1 L1 s := hM.same p2
  obtain ⟨I2, L2, e2, q1, q2⟩ := d_close (B := B) (n := n1) (Q := Q1) (R := R1) m1 h.okS (xs (j + 1))
  unfold fL_c2
  rw [sc1 hj hl, ob1_some, k_W, gd_true, e1, ob2_some, ob1_some, k_M, gd_true, e2, ob2_some, if_pos rfl]
  exact hk _ _ _ _ _ _ (IsC.same2 p1 q2) q1
theorem law_c3 {B n : Nat} {I : Nat → Nat → Int32} {L : Nat → Nat → Int64} {Q : Nat → Nat → Option Nat} {R : Nat → RDt} {len j : Nat} {xs : Nat → Int32} {s : STT} {k : AH → Option Int32} (h : IsC B n I L Q R s) (hM : IsM I L s) (hj : j + 11 ≤ len) (hl : len ≤ 5632) (hk : GoOn B k) : fL_c3 len xs (nI j) B (B + 108) k (MK B n I L Q R) = some 1 := by
  obtain ⟨n1, I1, L1, Q1, R1, e1, p1, p2⟩ := c_toll h (xs (j + 1)) (((Int32.toInt64 (xs (j + 2))) <<< (Int32.toInt64 (32 : Int32) &&& 63)) ||| ((Int32.toInt64 (xs (j + 3))) &&& (4294967295 : Int64)))
  have m1 : IsM I1 L1 s := hM.same p2
  obtain ⟨I2, L2, e2, q1, q2⟩ := d_toll (B := B) (n := n1) (Q := Q1) (R := R1) m1 h.okS (xs (j + 1)) (((Int32.toInt64 (xs (j + 2))) <<< (Int32.toInt64 (32 : Int32) &&& 63)) ||| ((Int32.toInt64 (xs (j + 3))) &&& (4294967295 : Int64)))
  unfold fL_c3
  rw [sc1 hj hl, ob1_some, sc2 hj hl, ob1_some, sc3 hj hl, ob1_some, k_W, gd_true, e1, ob2_some, ob1_some, ob1_some, ob1_some, k_M, gd_true, e2, ob2_some, if_pos rfl]
  exact hk _ _ _ _ _ _ (IsC.same2 p1 q2) q1
theorem law_c4 {B n : Nat} {I : Nat → Nat → Int32} {L : Nat → Nat → Int64} {Q : Nat → Nat → Option Nat} {R : Nat → RDt} {len j : Nat} {xs : Nat → Int32} {s : STT} {k : AH → Option Int32} (h : IsC B n I L Q R s) (hM : IsM I L s) (hj : j + 11 ≤ len) (hl : len ≤ 5632) (hk : GoOn B k) : fL_c4 len xs (nI j) B (B + 108) k (MK B n I L Q R) = some 1 := by
  have e1 := c_of h (xs (j + 1)) (xs (j + 2))
  have e2 := d_of (B := B) (n := n) (Q := Q) (R := R) hM h.okS (xs (j + 1)) (xs (j + 2))
  unfold fL_c4
  rw [sc1 hj hl, ob1_some, sc2 hj hl, ob1_some, k_W, gd_true, e1, ob1_some, ob1_some, ob1_some, k_M, gd_true, e2, ob1_some, if_pos rfl]
  exact hk _ _ _ _ _ _ h hM
theorem law_c5 {B n : Nat} {I : Nat → Nat → Int32} {L : Nat → Nat → Int64} {Q : Nat → Nat → Option Nat} {R : Nat → RDt} {len j : Nat} {xs : Nat → Int32} {s : STT} {k : AH → Option Int32} (h : IsC B n I L Q R s) (hM : IsM I L s) (hj : j + 11 ≤ len) (hl : len ≤ 5632) (hk : GoOn B k) : fL_c5 len xs (nI j) B (B + 108) k (MK B n I L Q R) = some 1 := by
  have e1 := c_cost h (xs (j + 1)) (xs (j + 2)) (xs (j + 3))
  have e2 := d_cost (B := B) (n := n) (Q := Q) (R := R) hM h.okS (xs (j + 1)) (xs (j + 2)) (xs (j + 3))
  unfold fL_c5
  rw [sc1 hj hl, ob1_some, sc2 hj hl, ob1_some, sc3 hj hl, ob1_some, k_W, gd_true, e1, ob1_some, ob1_some, ob1_some, ob1_some, k_M, gd_true, e2, ob1_some, if_pos rfl]
  exact hk _ _ _ _ _ _ h hM
theorem law_c6 {B n : Nat} {I : Nat → Nat → Int32} {L : Nat → Nat → Int64} {Q : Nat → Nat → Option Nat} {R : Nat → RDt} {len j : Nat} {xs : Nat → Int32} {s : STT} {k : AH → Option Int32} (h : IsC B n I L Q R s) (hM : IsM I L s) (hj : j + 11 ≤ len) (hl : len ≤ 5632) (hk : GoOn B k) : fL_c6 len xs (nI j) B (B + 108) k (MK B n I L Q R) = some 1 := by
  obtain ⟨n1, I1, L1, Q1, R1, e1, p1, p2⟩ := c_drivers h (xs (j + 1)) (xs (j + 2)) (xs (j + 3))
  have m1 : IsM I1 L1 s := hM.same p2
  obtain ⟨I2, L2, e2, q1, q2⟩ := d_drivers (B := B) (n := n1) (Q := Q1) (R := R1) m1 h.okS (xs (j + 1)) (xs (j + 2)) (xs (j + 3))
  unfold fL_c6
  rw [sc1 hj hl, ob1_some, sc2 hj hl, ob1_some, sc3 hj hl, ob1_some, k_W, gd_true, e1, ob2_some, ob1_some, ob1_some, ob1_some, k_M, gd_true, e2, ob2_some, if_pos rfl]
  exact hk _ _ _ _ _ _ (IsC.same2 p1 q2) q1
theorem law_c7 {B n : Nat} {I : Nat → Nat → Int32} {L : Nat → Nat → Int64} {Q : Nat → Nat → Option Nat} {R : Nat → RDt} {len j : Nat} {xs : Nat → Int32} {s : STT} {k : AH → Option Int32} (h : IsC B n I L Q R s) (hM : IsM I L s) (hj : j + 11 ≤ len) (hl : len ≤ 5632) (hk : GoOn B k) : fL_c7 len xs (nI j) B (B + 108) k (MK B n I L Q R) = some 1 := by
  have e1 := c_driversOf h (xs (j + 1)) (xs (j + 2))
  have e2 := d_driversOf (B := B) (n := n) (Q := Q) (R := R) hM h.okS (xs (j + 1)) (xs (j + 2))
  unfold fL_c7
  rw [sc1 hj hl, ob1_some, sc2 hj hl, ob1_some, k_W, gd_true, e1, ob1_some, ob1_some, ob1_some, k_M, gd_true, e2, ob1_some, if_pos rfl]
  exact hk _ _ _ _ _ _ h hM
theorem law_c8 {B n : Nat} {I : Nat → Nat → Int32} {L : Nat → Nat → Int64} {Q : Nat → Nat → Option Nat} {R : Nat → RDt} {len j : Nat} {xs : Nat → Int32} {s : STT} {k : AH → Option Int32} (h : IsC B n I L Q R s) (hM : IsM I L s) (hj : j + 11 ≤ len) (hl : len ≤ 5632) (hk : GoOn B k) : fL_c8 len xs (nI j) B (B + 108) k (MK B n I L Q R) = some 1 := by
  obtain ⟨n1, I1, L1, Q1, R1, e1, p1, p2⟩ := c_feed h (xs (j + 1))
  have m1 : IsM I1 L1 s := hM.same p2
  obtain ⟨I2, L2, e2, q1, q2⟩ := d_feed (B := B) (n := n1) (Q := Q1) (R := R1) m1 h.okS (xs (j + 1))
  unfold fL_c8
  rw [sc1 hj hl, ob1_some, k_W, gd_true, e1, ob2_some, ob1_some, k_M, gd_true, e2, ob2_some, if_pos rfl]
  exact hk _ _ _ _ _ _ (IsC.same2 p1 q2) q1
theorem law_c9 {B n : Nat} {I : Nat → Nat → Int32} {L : Nat → Nat → Int64} {Q : Nat → Nat → Option Nat} {R : Nat → RDt} {len j : Nat} {xs : Nat → Int32} {s : STT} {k : AH → Option Int32} (h : IsC B n I L Q R s) (hM : IsM I L s) (hj : j + 11 ≤ len) (hl : len ≤ 5632) (hk : GoOn B k) : fL_c9 len xs (nI j) B (B + 108) k (MK B n I L Q R) = some 1 := by
  obtain ⟨n1, I1, L1, Q1, R1, e1, p1, p2⟩ := c_clear h 
  have m1 : IsM I1 L1 s := hM.same p2
  obtain ⟨I2, L2, e2, q1, q2⟩ := d_clear (B := B) (n := n1) (Q := Q1) (R := R1) m1 
  unfold fL_c9
  rw [k_W, gd_true, e1, ob2_some, k_M, gd_true, e2, ob2_some, if_pos rfl]
  exact hk _ _ _ _ _ _ (IsC.same2 p1 q2) q1
theorem law_c10 {B n : Nat} {I : Nat → Nat → Int32} {L : Nat → Nat → Int64} {Q : Nat → Nat → Option Nat} {R : Nat → RDt} {len j : Nat} {xs : Nat → Int32} {s : STT} {k : AH → Option Int32} (h : IsC B n I L Q R s) (hM : IsM I L s) (hj : j + 11 ≤ len) (hl : len ≤ 5632) (hk : GoOn B k) : fL_c10 len xs (nI j) B (B + 108) k (MK B n I L Q R) = some 1 := by
  obtain ⟨n1, I1, L1, Q1, R1, e1, p1, p2⟩ := c_roads h 
  have m1 : IsM I1 L1 s := hM.same p2
  obtain ⟨I2, L2, e2, q1, q2⟩ := d_roads (B := B) (n := n1) (Q := Q1) (R := R1) m1 h.okS 
  unfold fL_c10
  rw [k_W, gd_true, e1, ob2_some, k_M, gd_true, e2, ob2_some, if_pos rfl]
  exact hk _ _ _ _ _ _ (IsC.same2 p1 q2) q1
theorem law_c11 {B n : Nat} {I : Nat → Nat → Int32} {L : Nat → Nat → Int64} {Q : Nat → Nat → Option Nat} {R : Nat → RDt} {len j : Nat} {xs : Nat → Int32} {s : STT} {k : AH → Option Int32} (h : IsC B n I L Q R s) (hM : IsM I L s) (hj : j + 11 ≤ len) (hl : len ≤ 5632) (hk : GoOn B k) : fL_c11 len xs (nI j) B (B + 108) k (MK B n I L Q R) = some 1 := by
  obtain ⟨n1, I1, L1, Q1, R1, e1, p1, p2⟩ := c_ways h (xs (j + 1))
  have m1 : IsM I1 L1 s := hM.same p2
  obtain ⟨I2, L2, e2, q1, q2⟩ := d_ways (B := B) (n := n1) (Q := Q1) (R := R1) m1 h.okS (xs (j + 1))
  unfold fL_c11
  rw [sc1 hj hl, ob1_some, k_W, gd_true, e1, ob2_some, ob1_some, k_M, gd_true, e2, ob2_some, if_pos rfl]
  exact hk _ _ _ _ _ _ (IsC.same2 p1 q2) q1
theorem law_c12 {B n : Nat} {I : Nat → Nat → Int32} {L : Nat → Nat → Int64} {Q : Nat → Nat → Option Nat} {R : Nat → RDt} {len j : Nat} {xs : Nat → Int32} {s : STT} {k : AH → Option Int32} (h : IsC B n I L Q R s) (hM : IsM I L s) (hj : j + 11 ≤ len) (hl : len ≤ 5632) (hk : GoOn B k) : fL_c12 len xs (nI j) B (B + 108) k (MK B n I L Q R) = some 1 := by
  obtain ⟨n1, I1, L1, Q1, R1, e1, p1, p2⟩ := c_way h (xs (j + 1)) (xs (j + 2)) (xs (j + 3))
  have m1 : IsM I1 L1 s := hM.same p2
  obtain ⟨I2, L2, e2, q1, q2⟩ := d_way (B := B) (n := n1) (Q := Q1) (R := R1) m1 h.okS (xs (j + 1)) (xs (j + 2)) (xs (j + 3))
  unfold fL_c12
  rw [sc1 hj hl, ob1_some, sc2 hj hl, ob1_some, sc3 hj hl, ob1_some, k_W, gd_true, e1, ob2_some, ob1_some, ob1_some, ob1_some, k_M, gd_true, e2, ob2_some, if_pos rfl]
  exact hk _ _ _ _ _ _ (IsC.same2 p1 q2) q1
theorem law_c13 {B n : Nat} {I : Nat → Nat → Int32} {L : Nat → Nat → Int64} {Q : Nat → Nat → Option Nat} {R : Nat → RDt} {len j : Nat} {xs : Nat → Int32} {s : STT} {k : AH → Option Int32} (h : IsC B n I L Q R s) (hM : IsM I L s) (hj : j + 11 ≤ len) (hl : len ≤ 5632) (hk : GoOn B k) : fL_c13 len xs (nI j) B (B + 108) k (MK B n I L Q R) = some 1 := by
  obtain ⟨n1, I1, L1, Q1, R1, e1, p1, p2⟩ := c_is h (xs (j + 1))
  have m1 : IsM I1 L1 s := hM.same p2
  obtain ⟨I2, L2, e2, q1, q2⟩ := d_is (B := B) (n := n1) (Q := Q1) (R := R1) m1 h.okS (xs (j + 1))
  unfold fL_c13
  rw [sc1 hj hl, ob1_some, k_W, gd_true, e1, ob2_some, ob1_some, k_M, gd_true, e2, ob2_some, if_pos rfl]
  exact hk _ _ _ _ _ _ (IsC.same2 p1 q2) q1
theorem law_c14 {B n : Nat} {I : Nat → Nat → Int32} {L : Nat → Nat → Int64} {Q : Nat → Nat → Option Nat} {R : Nat → RDt} {len j : Nat} {xs : Nat → Int32} {s : STT} {k : AH → Option Int32} (h : IsC B n I L Q R s) (hM : IsM I L s) (hj : j + 11 ≤ len) (hl : len ≤ 5632) (hk : GoOn B k) : fL_c14 len xs (nI j) B (B + 108) k (MK B n I L Q R) = some 1 := by
  obtain ⟨n1, I1, L1, Q1, R1, e1, p1, p2⟩ := c_load h (xs (j + 1)) (xs (j + 2))
  have m1 : IsM I1 L1 s := hM.same p2
  obtain ⟨I2, L2, e2, q1, q2⟩ := d_load (B := B) (n := n1) (Q := Q1) (R := R1) m1 h.okS (xs (j + 1)) (xs (j + 2))
  unfold fL_c14
  rw [sc1 hj hl, ob1_some, sc2 hj hl, ob1_some, k_W, gd_true, e1, ob2_some, ob1_some, ob1_some, k_M, gd_true, e2, ob2_some, if_pos rfl]
  exact hk _ _ _ _ _ _ (IsC.same2 p1 q2) q1
theorem law_c15 {B n : Nat} {I : Nat → Nat → Int32} {L : Nat → Nat → Int64} {Q : Nat → Nat → Option Nat} {R : Nat → RDt} {len j : Nat} {xs : Nat → Int32} {s : STT} {k : AH → Option Int32} (h : IsC B n I L Q R s) (hM : IsM I L s) (hj : j + 11 ≤ len) (hl : len ≤ 5632) (hk : GoOn B k) : fL_c15 len xs (nI j) B (B + 108) k (MK B n I L Q R) = some 1 := by
  obtain ⟨n1, I1, L1, Q1, R1, e1, p1, p2⟩ := c_on h (xs (j + 1)) (xs (j + 2)) (xs (j + 3))
  have m1 : IsM I1 L1 s := hM.same p2
  obtain ⟨I2, L2, e2, q1, q2⟩ := d_on (B := B) (n := n1) (Q := Q1) (R := R1) m1 h.okS (xs (j + 1)) (xs (j + 2)) (xs (j + 3))
  unfold fL_c15
  rw [sc1 hj hl, ob1_some, sc2 hj hl, ob1_some, sc3 hj hl, ob1_some, k_W, gd_true, e1, ob2_some, ob1_some, ob1_some, ob1_some, k_M, gd_true, e2, ob2_some, if_pos rfl]
  exact hk _ _ _ _ _ _ (IsC.same2 p1 q2) q1
theorem law_c16 {B n : Nat} {I : Nat → Nat → Int32} {L : Nat → Nat → Int64} {Q : Nat → Nat → Option Nat} {R : Nat → RDt} {len j : Nat} {xs : Nat → Int32} {s : STT} {k : AH → Option Int32} (h : IsC B n I L Q R s) (hM : IsM I L s) (hj : j + 11 ≤ len) (hl : len ≤ 5632) (hk : GoOn B k) : fL_c16 len xs (nI j) B (B + 108) k (MK B n I L Q R) = some 1 := by
  obtain ⟨n1, I1, L1, Q1, R1, e1, p1, p2⟩ := c_steps h (xs (j + 1))
  have m1 : IsM I1 L1 s := hM.same p2
  obtain ⟨I2, L2, e2, q1, q2⟩ := d_steps (B := B) (n := n1) (Q := Q1) (R := R1) m1 h.okS (xs (j + 1))
  unfold fL_c16
  rw [sc1 hj hl, ob1_some, k_W, gd_true, e1, ob2_some, ob1_some, k_M, gd_true, e2, ob2_some, if_pos rfl]
  exact hk _ _ _ _ _ _ (IsC.same2 p1 q2) q1
theorem law_c17 {B n : Nat} {I : Nat → Nat → Int32} {L : Nat → Nat → Int64} {Q : Nat → Nat → Option Nat} {R : Nat → RDt} {len j : Nat} {xs : Nat → Int32} {s : STT} {k : AH → Option Int32} (h : IsC B n I L Q R s) (hM : IsM I L s) (hj : j + 11 ≤ len) (hl : len ≤ 5632) (hk : GoOn B k) : fL_c17 len xs (nI j) B (B + 108) k (MK B n I L Q R) = some 1 := by
  obtain ⟨n1, I1, L1, Q1, R1, e1, p1, p2⟩ := c_total h (xs (j + 1))
  have m1 : IsM I1 L1 s := hM.same p2
  obtain ⟨I2, L2, e2, q1, q2⟩ := d_total (B := B) (n := n1) (Q := Q1) (R := R1) m1 h.okS (xs (j + 1))
  unfold fL_c17
  rw [sc1 hj hl, ob1_some, k_W, gd_true, e1, ob2_some, ob1_some, k_M, gd_true, e2, ob2_some, if_pos rfl]
  exact hk _ _ _ _ _ _ (IsC.same2 p1 q2) q1
theorem law_c18 {B n : Nat} {I : Nat → Nat → Int32} {L : Nat → Nat → Int64} {Q : Nat → Nat → Option Nat} {R : Nat → RDt} {len j : Nat} {xs : Nat → Int32} {s : STT} {k : AH → Option Int32} (h : IsC B n I L Q R s) (hM : IsM I L s) (hj : j + 11 ≤ len) (hl : len ≤ 5632) (hk : GoOn B k) : fL_c18 len xs (nI j) B (B + 108) k (MK B n I L Q R) = some 1 := by
  obtain ⟨n1, I1, L1, Q1, R1, e1, p1, p2⟩ := c_price h (xs (j + 1)) (xs (j + 2)) (xs (j + 3)) (xs (j + 4))
  have m1 : IsM I1 L1 s := hM.same p2
  obtain ⟨I2, L2, e2, q1, q2⟩ := d_price (B := B) (n := n1) (Q := Q1) (R := R1) m1 h.okS (xs (j + 1)) (xs (j + 2)) (xs (j + 3)) (xs (j + 4))
  unfold fL_c18
  rw [sc1 hj hl, ob1_some, sc2 hj hl, ob1_some, sc3 hj hl, ob1_some, sc4 hj hl, ob1_some, k_W, gd_true, e1, ob2_some, ob1_some, ob1_some, ob1_some, ob1_some, k_M, gd_true, e2, ob2_some, if_pos rfl]
  exact hk _ _ _ _ _ _ (IsC.same2 p1 q2) q1
theorem law_c19 {B n : Nat} {I : Nat → Nat → Int32} {L : Nat → Nat → Int64} {Q : Nat → Nat → Option Nat} {R : Nat → RDt} {len j : Nat} {xs : Nat → Int32} {s : STT} {k : AH → Option Int32} (h : IsC B n I L Q R s) (hM : IsM I L s) (hj : j + 11 ≤ len) (hl : len ≤ 5632) (hk : GoOn B k) : fL_c19 len xs (nI j) B (B + 108) k (MK B n I L Q R) = some 1 := by
  obtain ⟨n1, I1, L1, Q1, R1, e1, p1, p2⟩ := c_mean h (xs (j + 1)) (xs (j + 2)) (xs (j + 3))
  have m1 : IsM I1 L1 s := hM.same p2
  obtain ⟨I2, L2, e2, q1, q2⟩ := d_mean (B := B) (n := n1) (Q := Q1) (R := R1) m1 h.okS (xs (j + 1)) (xs (j + 2)) (xs (j + 3))
  unfold fL_c19
  rw [sc1 hj hl, ob1_some, sc2 hj hl, ob1_some, sc3 hj hl, ob1_some, k_W, gd_true, e1, ob2_some, ob1_some, ob1_some, ob1_some, k_M, gd_true, e2, ob2_some, if_pos rfl]
  exact hk _ _ _ _ _ _ (IsC.same2 p1 q2) q1
theorem law_c20 {B n : Nat} {I : Nat → Nat → Int32} {L : Nat → Nat → Int64} {Q : Nat → Nat → Option Nat} {R : Nat → RDt} {len j : Nat} {xs : Nat → Int32} {s : STT} {k : AH → Option Int32} (h : IsC B n I L Q R s) (hM : IsM I L s) (hj : j + 11 ≤ len) (hl : len ≤ 5632) (hk : GoOn B k) : fL_c20 len xs (nI j) B (B + 108) k (MK B n I L Q R) = some 1 := by
  obtain ⟨n1, I1, L1, Q1, R1, e1, p1, p2⟩ := c_shown h (xs (j + 1)) (xs (j + 2))
  have m1 : IsM I1 L1 s := hM.same p2
  obtain ⟨I2, L2, e2, q1, q2⟩ := d_shown (B := B) (n := n1) (Q := Q1) (R := R1) m1 h.okS (xs (j + 1)) (xs (j + 2))
  unfold fL_c20
  rw [sc1 hj hl, ob1_some, sc2 hj hl, ob1_some, k_W, gd_true, e1, ob2_some, ob1_some, ob1_some, k_M, gd_true, e2, ob2_some, if_pos rfl]
  exact hk _ _ _ _ _ _ (IsC.same2 p1 q2) q1
theorem law_c21 {B n : Nat} {I : Nat → Nat → Int32} {L : Nat → Nat → Int64} {Q : Nat → Nat → Option Nat} {R : Nat → RDt} {len j : Nat} {xs : Nat → Int32} {s : STT} {k : AH → Option Int32} (h : IsC B n I L Q R s) (hM : IsM I L s) (hj : j + 11 ≤ len) (hl : len ≤ 5632) (hk : GoOn B k) : fL_c21 len xs (nI j) B (B + 108) k (MK B n I L Q R) = some 1 := by
  obtain ⟨n1, I1, L1, Q1, R1, e1, p1, p2⟩ := c_taken h (xs (j + 1))
  have m1 : IsM I1 L1 s := hM.same p2
  obtain ⟨I2, L2, e2, q1, q2⟩ := d_taken (B := B) (n := n1) (Q := Q1) (R := R1) m1 h.okS (xs (j + 1))
  unfold fL_c21
  rw [sc1 hj hl, ob1_some, k_W, gd_true, e1, ob2_some, ob1_some, k_M, gd_true, e2, ob2_some, if_pos rfl]
  exact hk _ _ _ _ _ _ (IsC.same2 p1 q2) q1
theorem law_c22 {B n : Nat} {I : Nat → Nat → Int32} {L : Nat → Nat → Int64} {Q : Nat → Nat → Option Nat} {R : Nat → RDt} {len j : Nat} {xs : Nat → Int32} {s : STT} {k : AH → Option Int32} (h : IsC B n I L Q R s) (hM : IsM I L s) (hj : j + 11 ≤ len) (hl : len ≤ 5632) (hk : GoOn B k) : fL_c22 len xs (nI j) B (B + 108) k (MK B n I L Q R) = some 1 := by
  obtain ⟨n1, I1, L1, Q1, R1, e1, p1, p2⟩ := c_busy h (xs (j + 1)) (xs (j + 2))
  have m1 : IsM I1 L1 s := hM.same p2
  obtain ⟨I2, L2, e2, q1, q2⟩ := d_busy (B := B) (n := n1) (Q := Q1) (R := R1) m1 h.okS (xs (j + 1)) (xs (j + 2))
  unfold fL_c22
  rw [sc1 hj hl, ob1_some, sc2 hj hl, ob1_some, k_W, gd_true, e1, ob2_some, ob1_some, ob1_some, k_M, gd_true, e2, ob2_some, if_pos rfl]
  exact hk _ _ _ _ _ _ (IsC.same2 p1 q2) q1
theorem law_c23 {B n : Nat} {I : Nat → Nat → Int32} {L : Nat → Nat → Int64} {Q : Nat → Nat → Option Nat} {R : Nat → RDt} {len j : Nat} {xs : Nat → Int32} {s : STT} {k : AH → Option Int32} (h : IsC B n I L Q R s) (hM : IsM I L s) (hj : j + 11 ≤ len) (hl : len ≤ 5632) (hk : GoOn B k) : fL_c23 len xs (nI j) B (B + 108) k (MK B n I L Q R) = some 1 := by
  obtain ⟨n1, I1, L1, Q1, R1, e1, p1, p2⟩ := c_best h 
  have m1 : IsM I1 L1 s := hM.same p2
  obtain ⟨I2, L2, e2, q1, q2⟩ := d_best (B := B) (n := n1) (Q := Q1) (R := R1) m1 h.okS 
  unfold fL_c23
  rw [k_W, gd_true, e1, ob2_some, k_M, gd_true, e2, ob2_some, if_pos rfl]
  exact hk _ _ _ _ _ _ (IsC.same2 p1 q2) q1
theorem law_c24 {B n : Nat} {I : Nat → Nat → Int32} {L : Nat → Nat → Int64} {Q : Nat → Nat → Option Nat} {R : Nat → RDt} {len j : Nat} {xs : Nat → Int32} {s : STT} {k : AH → Option Int32} (h : IsC B n I L Q R s) (hM : IsM I L s) (hj : j + 11 ≤ len) (hl : len ≤ 5632) (hk : GoOn B k) : fL_c24 len xs (nI j) B (B + 108) k (MK B n I L Q R) = some 1 := by
  obtain ⟨n1, I1, L1, Q1, R1, e1, p1, p2⟩ := c_worse h (xs (j + 1)) (xs (j + 2))
  have m1 : IsM I1 L1 s := hM.same p2
  obtain ⟨I2, L2, e2, q1, q2⟩ := d_worse (B := B) (n := n1) (Q := Q1) (R := R1) m1 h.okS (xs (j + 1)) (xs (j + 2))
  unfold fL_c24
  rw [sc1 hj hl, ob1_some, sc2 hj hl, ob1_some, k_W, gd_true, e1, ob2_some, ob1_some, ob1_some, k_M, gd_true, e2, ob2_some, if_pos rfl]
  exact hk _ _ _ _ _ _ (IsC.same2 p1 q2) q1
theorem law_c25 {B n : Nat} {I : Nat → Nat → Int32} {L : Nat → Nat → Int64} {Q : Nat → Nat → Option Nat} {R : Nat → RDt} {len j : Nat} {xs : Nat → Int32} {s : STT} {k : AH → Option Int32} (h : IsC B n I L Q R s) (hM : IsM I L s) (hj : j + 11 ≤ len) (hl : len ≤ 5632) (hk : GoOn B k) : fL_c25 len xs (nI j) B (B + 108) k (MK B n I L Q R) = some 1 := by
  obtain ⟨n1, I1, L1, Q1, R1, e1, p1, p2⟩ := c_without h (xs (j + 1)) (xs (j + 2))
  have m1 : IsM I1 L1 s := hM.same p2
  obtain ⟨I2, L2, e2, q1, q2⟩ := d_without (B := B) (n := n1) (Q := Q1) (R := R1) m1 h.okS (xs (j + 1)) (xs (j + 2))
  unfold fL_c25
  rw [sc1 hj hl, ob1_some, sc2 hj hl, ob1_some, k_W, gd_true, e1, ob2_some, ob1_some, ob1_some, k_M, gd_true, e2, ob2_some, if_pos rfl]
  exact hk _ _ _ _ _ _ (IsC.same2 p1 q2) q1
theorem law_c26 {B n : Nat} {I : Nat → Nat → Int32} {L : Nat → Nat → Int64} {Q : Nat → Nat → Option Nat} {R : Nat → RDt} {len j : Nat} {xs : Nat → Int32} {s : STT} {k : AH → Option Int32} (h : IsC B n I L Q R s) (hM : IsM I L s) (hj : j + 11 ≤ len) (hl : len ≤ 5632) (hk : GoOn B k) : fL_c26 len xs (nI j) B (B + 108) k (MK B n I L Q R) = some 1 := by
  obtain ⟨n1, I1, L1, Q1, R1, e1, p1, p2⟩ := c_paradox h (xs (j + 1)) (xs (j + 2))
  have m1 : IsM I1 L1 s := hM.same p2
  obtain ⟨I2, L2, e2, q1, q2⟩ := d_paradox (B := B) (n := n1) (Q := Q1) (R := R1) m1 h.okS (xs (j + 1)) (xs (j + 2))
  unfold fL_c26
  rw [sc1 hj hl, ob1_some, sc2 hj hl, ob1_some, k_W, gd_true, e1, ob2_some, ob1_some, ob1_some, k_M, gd_true, e2, ob2_some, if_pos rfl]
  exact hk _ _ _ _ _ _ (IsC.same2 p1 q2) q1
theorem law_c27 {B n : Nat} {I : Nat → Nat → Int32} {L : Nat → Nat → Int64} {Q : Nat → Nat → Option Nat} {R : Nat → RDt} {len j : Nat} {xs : Nat → Int32} {s : STT} {k : AH → Option Int32} (h : IsC B n I L Q R s) (hM : IsM I L s) (hj : j + 11 ≤ len) (hl : len ≤ 5632) (hk : GoOn B k) : fL_c27 len xs (nI j) B (B + 108) k (MK B n I L Q R) = some 1 := by
  obtain ⟨n1, I1, L1, Q1, R1, e1, p1, p2⟩ := c_paradoxes h (xs (j + 1))
  have m1 : IsM I1 L1 s := hM.same p2
  obtain ⟨I2, L2, e2, q1, q2⟩ := d_paradoxes (B := B) (n := n1) (Q := Q1) (R := R1) m1 h.okS (xs (j + 1))
  unfold fL_c27
  rw [sc1 hj hl, ob1_some, k_W, gd_true, e1, ob2_some, ob1_some, k_M, gd_true, e2, ob2_some, if_pos rfl]
  exact hk _ _ _ _ _ _ (IsC.same2 p1 q2) q1
theorem law_c28 {B n : Nat} {I : Nat → Nat → Int32} {L : Nat → Nat → Int64} {Q : Nat → Nat → Option Nat} {R : Nat → RDt} {len j : Nat} {xs : Nat → Int32} {s : STT} {k : AH → Option Int32} (h : IsC B n I L Q R s) (hM : IsM I L s) (hj : j + 11 ≤ len) (hl : len ≤ 5632) (hk : GoOn B k) : fL_c28 len xs (nI j) B (B + 108) k (MK B n I L Q R) = some 1 := by
  obtain ⟨n1, I1, L1, Q1, R1, e1, p1, p2⟩ := c_adding h (xs (j + 1)) (xs (j + 2)) (xs (j + 3)) (((Int32.toInt64 (xs (j + 4))) <<< (Int32.toInt64 (32 : Int32) &&& 63)) ||| ((Int32.toInt64 (xs (j + 5))) &&& (4294967295 : Int64))) (((Int32.toInt64 (xs (j + 6))) <<< (Int32.toInt64 (32 : Int32) &&& 63)) ||| ((Int32.toInt64 (xs (j + 7))) &&& (4294967295 : Int64)))
  have m1 : IsM I1 L1 s := hM.same p2
  obtain ⟨I2, L2, e2, q1, q2⟩ := d_adding (B := B) (n := n1) (Q := Q1) (R := R1) m1 h.okS (xs (j + 1)) (xs (j + 2)) (xs (j + 3)) (((Int32.toInt64 (xs (j + 4))) <<< (Int32.toInt64 (32 : Int32) &&& 63)) ||| ((Int32.toInt64 (xs (j + 5))) &&& (4294967295 : Int64))) (((Int32.toInt64 (xs (j + 6))) <<< (Int32.toInt64 (32 : Int32) &&& 63)) ||| ((Int32.toInt64 (xs (j + 7))) &&& (4294967295 : Int64)))
  unfold fL_c28
  rw [sc1 hj hl, ob1_some, sc2 hj hl, ob1_some, sc3 hj hl, ob1_some, sc4 hj hl, ob1_some, sc5 hj hl, ob1_some, sc6 hj hl, ob1_some, sc7 hj hl, ob1_some, k_W, gd_true, e1, ob2_some, ob1_some, ob1_some, ob1_some, ob1_some, ob1_some, ob1_some, ob1_some, k_M, gd_true, e2, ob2_some, if_pos rfl]
  exact hk _ _ _ _ _ _ (IsC.same2 p1 q2) q1
theorem law_c29 {B n : Nat} {I : Nat → Nat → Int32} {L : Nat → Nat → Int64} {Q : Nat → Nat → Option Nat} {R : Nat → RDt} {len j : Nat} {xs : Nat → Int32} {s : STT} {k : AH → Option Int32} (h : IsC B n I L Q R s) (hM : IsM I L s) (hj : j + 11 ≤ len) (hl : len ≤ 5632) (hk : GoOn B k) : fL_c29 len xs (nI j) B (B + 108) k (MK B n I L Q R) = some 1 := by
  obtain ⟨n1, I1, L1, Q1, R1, e1, p1, p2⟩ := c_fix h 
  have m1 : IsM I1 L1 s := hM.same p2
  obtain ⟨I2, L2, e2, q1, q2⟩ := d_fix (B := B) (n := n1) (Q := Q1) (R := R1) m1 h.okS 
  unfold fL_c29
  rw [k_W, gd_true, e1, ob2_some, k_M, gd_true, e2, ob2_some, if_pos rfl]
  exact hk _ _ _ _ _ _ (IsC.same2 p1 q2) q1
theorem law_c30 {B n : Nat} {I : Nat → Nat → Int32} {L : Nat → Nat → Int64} {Q : Nat → Nat → Option Nat} {R : Nat → RDt} {len j : Nat} {xs : Nat → Int32} {s : STT} {k : AH → Option Int32} (h : IsC B n I L Q R s) (hM : IsM I L s) (hj : j + 11 ≤ len) (hl : len ≤ 5632) (hk : GoOn B k) : fL_c30 len xs (nI j) B (B + 108) k (MK B n I L Q R) = some 1 := by
  obtain ⟨n1, I1, L1, Q1, R1, e1, p1, p2⟩ := c_free h 
  have m1 : IsM I1 L1 s := hM.same p2
  obtain ⟨I2, L2, e2, q1, q2⟩ := d_free (B := B) (n := n1) (Q := Q1) (R := R1) m1 h.okS 
  unfold fL_c30
  rw [k_W, gd_true, e1, ob2_some, k_M, gd_true, e2, ob2_some, if_pos rfl]
  exact hk _ _ _ _ _ _ (IsC.same2 p1 q2) q1
theorem law_c31 {B n : Nat} {I : Nat → Nat → Int32} {L : Nat → Nat → Int64} {Q : Nat → Nat → Option Nat} {R : Nat → RDt} {len j : Nat} {xs : Nat → Int32} {s : STT} {k : AH → Option Int32} (h : IsC B n I L Q R s) (hM : IsM I L s) (hj : j + 11 ≤ len) (hl : len ≤ 5632) (hk : GoOn B k) : fL_c31 len xs (nI j) B (B + 108) k (MK B n I L Q R) = some 1 := by
  obtain ⟨n1, I1, L1, Q1, R1, e1, p1, p2⟩ := c_lay h (xs (j + 1)) (xs (j + 2)) (xs (j + 3))
  have m1 : IsM I1 L1 s := hM.same p2
  obtain ⟨I2, L2, e2, q1, q2⟩ := d_lay (B := B) (n := n1) (Q := Q1) (R := R1) m1 h.okS (xs (j + 1)) (xs (j + 2)) (xs (j + 3))
  unfold fL_c31
  rw [sc1 hj hl, ob1_some, sc2 hj hl, ob1_some, sc3 hj hl, ob1_some, k_W, gd_true, e1, ob2_some, ob1_some, ob1_some, ob1_some, k_M, gd_true, e2, ob2_some, if_pos rfl]
  exact hk _ _ _ _ _ _ (IsC.same2 p1 q2) q1
theorem law_c32 {B n : Nat} {I : Nat → Nat → Int32} {L : Nat → Nat → Int64} {Q : Nat → Nat → Option Nat} {R : Nat → RDt} {len j : Nat} {xs : Nat → Int32} {s : STT} {k : AH → Option Int32} (h : IsC B n I L Q R s) (hM : IsM I L s) (hj : j + 11 ≤ len) (hl : len ≤ 5632) (hk : GoOn B k) : fL_c32 len xs (nI j) B (B + 108) k (MK B n I L Q R) = some 1 := by
  obtain ⟨n1, I1, L1, Q1, R1, e1, p1, p2⟩ := c_judge h (xs (j + 1)) (xs (j + 2))
  have m1 : IsM I1 L1 s := hM.same p2
  obtain ⟨I2, L2, e2, q1, q2⟩ := d_judge (B := B) (n := n1) (Q := Q1) (R := R1) m1 h.okS (xs (j + 1)) (xs (j + 2))
  unfold fL_c32
  rw [sc1 hj hl, ob1_some, sc2 hj hl, ob1_some, k_W, gd_true, e1, ob2_some, ob1_some, ob1_some, k_M, gd_true, e2, ob2_some, if_pos rfl]
  exact hk _ _ _ _ _ _ (IsC.same2 p1 q2) q1
theorem law_c33 {B n : Nat} {I : Nat → Nat → Int32} {L : Nat → Nat → Int64} {Q : Nat → Nat → Option Nat} {R : Nat → RDt} {len j : Nat} {xs : Nat → Int32} {s : STT} {k : AH → Option Int32} (h : IsC B n I L Q R s) (hM : IsM I L s) (hj : j + 11 ≤ len) (hl : len ≤ 5632) (hk : GoOn B k) : fL_c33 len xs (nI j) B (B + 108) k (MK B n I L Q R) = some 1 := by
  obtain ⟨n1, I1, L1, Q1, R1, e1, p1, p2⟩ := c_tray h (xs (j + 1)) (xs (j + 2)) (xs (j + 3))
  have m1 : IsM I1 L1 s := hM.same p2
  obtain ⟨I2, L2, e2, q1, q2⟩ := d_tray (B := B) (n := n1) (Q := Q1) (R := R1) m1 (xs (j + 1)) (xs (j + 2)) (xs (j + 3))
  unfold fL_c33
  rw [sc1 hj hl, ob1_some, sc2 hj hl, ob1_some, sc3 hj hl, ob1_some, k_W, gd_true, e1, ob2_some, ob1_some, ob1_some, ob1_some, k_M, gd_true, e2, ob2_some, if_pos rfl]
  exact hk _ _ _ _ _ _ (IsC.same2 p1 q2) q1
theorem law_c34 {B n : Nat} {I : Nat → Nat → Int32} {L : Nat → Nat → Int64} {Q : Nat → Nat → Option Nat} {R : Nat → RDt} {len j : Nat} {xs : Nat → Int32} {s : STT} {k : AH → Option Int32} (h : IsC B n I L Q R s) (hM : IsM I L s) (hj : j + 11 ≤ len) (hl : len ≤ 5632) (hk : GoOn B k) : fL_c34 len xs (nI j) B (B + 108) k (MK B n I L Q R) = some 1 := by
  obtain ⟨n1, I1, L1, Q1, R1, e1, p1, p2⟩ := c_lays h (xs (j + 1)) (xs (j + 2)) (xs (j + 3))
  have m1 : IsM I1 L1 s := hM.same p2
  obtain ⟨I2, L2, e2, q1, q2⟩ := d_lays (B := B) (n := n1) (Q := Q1) (R := R1) m1 h.okS (xs (j + 1)) (xs (j + 2)) (xs (j + 3))
  unfold fL_c34
  rw [sc1 hj hl, ob1_some, sc2 hj hl, ob1_some, sc3 hj hl, ob1_some, k_W, gd_true, e1, ob2_some, ob1_some, ob1_some, ob1_some, k_M, gd_true, e2, ob2_some, if_pos rfl]
  exact hk _ _ _ _ _ _ (IsC.same2 p1 q2) q1
theorem law_c35 {B n : Nat} {I : Nat → Nat → Int32} {L : Nat → Nat → Int64} {Q : Nat → Nat → Option Nat} {R : Nat → RDt} {len j : Nat} {xs : Nat → Int32} {s : STT} {k : AH → Option Int32} (h : IsC B n I L Q R s) (hM : IsM I L s) (hj : j + 11 ≤ len) (hl : len ≤ 5632) (hk : GoOn B k) : fL_c35 len xs (nI j) B (B + 108) k (MK B n I L Q R) = some 1 := by
  have e1 := c_laid h (xs (j + 1)) (xs (j + 2)) (xs (j + 3))
  have e2 := d_laid (B := B) (n := n) (Q := Q) (R := R) hM h.okS (xs (j + 1)) (xs (j + 2)) (xs (j + 3))
  unfold fL_c35
  rw [sc1 hj hl, ob1_some, sc2 hj hl, ob1_some, sc3 hj hl, ob1_some, k_W, gd_true, e1, ob1_some, ob1_some, ob1_some, ob1_some, k_M, gd_true, e2, ob1_some, if_pos rfl]
  exact hk _ _ _ _ _ _ h hM
theorem law_c36 {B n : Nat} {I : Nat → Nat → Int32} {L : Nat → Nat → Int64} {Q : Nat → Nat → Option Nat} {R : Nat → RDt} {len j : Nat} {xs : Nat → Int32} {s : STT} {k : AH → Option Int32} (h : IsC B n I L Q R s) (hM : IsM I L s) (hj : j + 11 ≤ len) (hl : len ≤ 5632) (hk : GoOn B k) : fL_c36 len xs (nI j) B (B + 108) k (MK B n I L Q R) = some 1 := by
  obtain ⟨n1, I1, L1, Q1, R1, e1, p1, p2⟩ := c_like h (xs (j + 1)) (xs (j + 2))
  have m1 : IsM I1 L1 s := hM.same p2
  obtain ⟨I2, L2, e2, q1, q2⟩ := d_like (B := B) (n := n1) (Q := Q1) (R := R1) m1 h.okS (xs (j + 1)) (xs (j + 2))
  unfold fL_c36
  rw [sc1 hj hl, ob1_some, sc2 hj hl, ob1_some, k_W, gd_true, e1, ob2_some, ob1_some, ob1_some, k_M, gd_true, e2, ob2_some, if_pos rfl]
  exact hk _ _ _ _ _ _ (IsC.same2 p1 q2) q1
theorem law_c37 {B n : Nat} {I : Nat → Nat → Int32} {L : Nat → Nat → Int64} {Q : Nat → Nat → Option Nat} {R : Nat → RDt} {len j : Nat} {xs : Nat → Int32} {s : STT} {k : AH → Option Int32} (h : IsC B n I L Q R s) (hM : IsM I L s) (hj : j + 11 ≤ len) (hl : len ≤ 5632) (hk : GoOn B k) : fL_c37 len xs (nI j) B (B + 108) k (MK B n I L Q R) = some 1 := by
  have e1 := c_told h (xs (j + 1))
  have e2 := d_told (B := B) (n := n) (Q := Q) (R := R) hM h.okS (xs (j + 1))
  unfold fL_c37
  rw [sc1 hj hl, ob1_some, k_W, gd_true, e1, ob1_some, ob1_some, k_M, gd_true, e2, ob1_some, if_pos rfl]
  exact hk _ _ _ _ _ _ h hM
theorem law_c38 {B n : Nat} {I : Nat → Nat → Int32} {L : Nat → Nat → Int64} {Q : Nat → Nat → Option Nat} {R : Nat → RDt} {len j : Nat} {xs : Nat → Int32} {s : STT} {k : AH → Option Int32} (h : IsC B n I L Q R s) (hM : IsM I L s) (hj : j + 11 ≤ len) (hl : len ≤ 5632) (hk : GoOn B k) : fL_c38 len xs (nI j) B (B + 108) k (MK B n I L Q R) = some 1 := by
  obtain ⟨n1, I1, L1, Q1, R1, e1, p1, p2⟩ := c_list h (xs (j + 1)) (xs (j + 2))
  have m1 : IsM I1 L1 s := hM.same p2
  obtain ⟨I2, L2, e2, q1, q2⟩ := d_list (B := B) (n := n1) (Q := Q1) (R := R1) m1 (xs (j + 1)) (xs (j + 2))
  unfold fL_c38
  rw [sc1 hj hl, ob1_some, sc2 hj hl, ob1_some, k_W, gd_true, e1, ob2_some, ob1_some, ob1_some, k_M, gd_true, e2, ob2_some, if_pos rfl]
  exact hk _ _ _ _ _ _ (IsC.same2 p1 q2) q1
theorem law_c39 {B n : Nat} {I : Nat → Nat → Int32} {L : Nat → Nat → Int64} {Q : Nat → Nat → Option Nat} {R : Nat → RDt} {len j : Nat} {xs : Nat → Int32} {s : STT} {k : AH → Option Int32} (h : IsC B n I L Q R s) (hM : IsM I L s) (hj : j + 11 ≤ len) (hl : len ≤ 5632) (hk : GoOn B k) : fL_c39 len xs (nI j) B (B + 108) k (MK B n I L Q R) = some 1 := by
  obtain ⟨n1, I1, L1, Q1, R1, e1, p1, p2⟩ := c_set h (xs (j + 1)) (xs (j + 2)) (((Int32.toInt64 (xs (j + 3))) <<< (Int32.toInt64 (32 : Int32) &&& 63)) ||| ((Int32.toInt64 (xs (j + 4))) &&& (4294967295 : Int64)))
  have m1 : IsM I1 L1 s := hM.same p2
  obtain ⟨I2, L2, e2, q1, q2⟩ := d_set (B := B) (n := n1) (Q := Q1) (R := R1) m1 h.okS (xs (j + 1)) (xs (j + 2)) (((Int32.toInt64 (xs (j + 3))) <<< (Int32.toInt64 (32 : Int32) &&& 63)) ||| ((Int32.toInt64 (xs (j + 4))) &&& (4294967295 : Int64)))
  unfold fL_c39
  rw [sc1 hj hl, ob1_some, sc2 hj hl, ob1_some, sc3 hj hl, ob1_some, sc4 hj hl, ob1_some, k_W, gd_true, e1, ob2_some, ob1_some, ob1_some, ob1_some, ob1_some, k_M, gd_true, e2, ob2_some, if_pos rfl]
  exact hk _ _ _ _ _ _ (IsC.same2 p1 q2) q1
theorem law_c40 {B n : Nat} {I : Nat → Nat → Int32} {L : Nat → Nat → Int64} {Q : Nat → Nat → Option Nat} {R : Nat → RDt} {len j : Nat} {xs : Nat → Int32} {s : STT} {k : AH → Option Int32} (h : IsC B n I L Q R s) (hM : IsM I L s) (hj : j + 11 ≤ len) (hl : len ≤ 5632) (hk : GoOn B k) : fL_c40 len xs (nI j) B (B + 108) k (MK B n I L Q R) = some 1 := by
  have e1 := c_get h (xs (j + 1)) (xs (j + 2))
  have e2 := d_get (B := B) (n := n) (Q := Q) (R := R) hM h.okS (xs (j + 1)) (xs (j + 2))
  unfold fL_c40
  rw [sc1 hj hl, ob1_some, sc2 hj hl, ob1_some, k_W, gd_true, e1, ob1_some, ob1_some, ob1_some, k_M, gd_true, e2, ob1_some, if_pos rfl]
  exact hk _ _ _ _ _ _ h hM
theorem law_c41 {B n : Nat} {I : Nat → Nat → Int32} {L : Nat → Nat → Int64} {Q : Nat → Nat → Option Nat} {R : Nat → RDt} {len j : Nat} {xs : Nat → Int32} {s : STT} {k : AH → Option Int32} (h : IsC B n I L Q R s) (hM : IsM I L s) (hj : j + 11 ≤ len) (hl : len ≤ 5632) (hk : GoOn B k) : fL_c41 len xs (nI j) B (B + 108) k (MK B n I L Q R) = some 1 := by
  obtain ⟨n1, I1, L1, Q1, R1, e1, p1, p2⟩ := c_image h 
  have m1 : IsM I1 L1 s := hM.same p2
  obtain ⟨I2, L2, e2, q1, q2⟩ := d_image (B := B) (n := n1) (Q := Q1) (R := R1) m1 h.okS 
  unfold fL_c41
  rw [k_W, gd_true, e1, ob2_some, k_M, gd_true, e2, ob2_some, if_pos rfl]
  exact hk _ _ _ _ _ _ (IsC.same2 p1 q2) q1
theorem law_c42 {B n : Nat} {I : Nat → Nat → Int32} {L : Nat → Nat → Int64} {Q : Nat → Nat → Option Nat} {R : Nat → RDt} {len j : Nat} {xs : Nat → Int32} {s : STT} {k : AH → Option Int32} (h : IsC B n I L Q R s) (hM : IsM I L s) (hj : j + 11 ≤ len) (hl : len ≤ 5632) (hk : GoOn B k) : fL_c42 len xs (nI j) B (B + 108) k (MK B n I L Q R) = some 1 := by
  obtain ⟨n1, I1, L1, Q1, R1, e1, p1, p2⟩ := c_undo h 
  have m1 : IsM I1 L1 s := hM.same p2
  obtain ⟨I2, L2, e2, q1, q2⟩ := d_undo (B := B) (n := n1) (Q := Q1) (R := R1) m1 h.okS 
  unfold fL_c42
  rw [k_W, gd_true, e1, ob2_some, k_M, gd_true, e2, ob2_some, if_pos rfl]
  exact hk _ _ _ _ _ _ (IsC.same2 p1 q2) q1
theorem law_end {len j : Nat} (hl : len ≤ 5632) (hj : j < 100000) : (Int32.ofNat len - (11 : Int32) < nI j) = (len < j + 11) := by
  have e : (nI len - nI 11).toInt = (len : Int) - 11 := by
    rw [Int32.toInt_sub, nI_toInt (by omega), nI_toInt (by omega)]
    exact Int.bmod_eq_of_le (by omega) (by omega)
  have e2 : Int32.ofNat len - (11 : Int32) = nI len - nI 11 := rfl
  rw [e2, Int32.lt_iff_toInt_lt, e, nI_toInt (by omega)]
  exact propext ⟨fun h => by omega, fun h => by omega⟩
theorem law_loop {B len : Nat} {xs : Nat → Int32} (hl : len ≤ 5632) : ∀ (m n' j : Nat), len + 1 ≤ j + 11 * m + 11 → m < n' → j < 20000 → m ≤ 1000 → GoOn B (fL_L18 len xs B (B + 108) n' (nI j)) := by
  intro m
  induction m with
  | zero =>
    intro n' j hm hn hj _ n I L Q R s h hM
    obtain ⟨n1, rfl⟩ := suc_of hn
    rw [fL_L18, if_pos (by rw [law_end hl (by omega)]; omega)]
  | succ m ih =>
    intro n' j hm hn hj hm2 n I L Q R s h hM
    obtain ⟨n1, rfl⟩ := suc_of hn
    rw [fL_L18]
    by_cases c : len < j + 11
    · rw [if_pos (by rw [law_end hl (by omega)]; exact c)]
    · have hj11 : j + 11 ≤ len := by omega
      have hk : GoOn B (fun g => bnd (nI j + (11 : Int32)) fun z => fL_L18 len xs B (B + 108) n1 z g) := fun n I L Q R s h hM => by
        have := ih n1 (j + 11) (by omega) (by omega) (by omega) (by omega) n I L Q R s h hM
        show (bnd (nI j + (11 : Int32)) fun z => fL_L18 len xs B (B + 108) n1 z (MK B n I L Q R)) = some 1
        rw [bnd_eq, show nI j + 11 = nI (j + 11) from nI_add (a := j) (b := 11)]
        exact this
      have h0 : sc len xs (nI j) = some (xs j) := sc_j hj11 hl
      rw [if_neg (by rw [law_end hl (by omega)]; exact c), h0, ob1_some, bnd_eq]
      generalize xs j &&& 63 = y
      by_cases e0 : y = 0
      · rw [if_pos e0]; exact law_c0 h hM hj11 hl hk
      rw [if_neg e0]
      by_cases e1 : y = 1
      · rw [if_pos e1]; exact law_c1 h hM hj11 hl hk
      rw [if_neg e1]
      by_cases e2 : y = 2
      · rw [if_pos e2]; exact law_c2 h hM hj11 hl hk
      rw [if_neg e2]
      by_cases e3 : y = 3
      · rw [if_pos e3]; exact law_c3 h hM hj11 hl hk
      rw [if_neg e3]
      by_cases e4 : y = 4
      · rw [if_pos e4]; exact law_c4 h hM hj11 hl hk
      rw [if_neg e4]
      by_cases e5 : y = 5
      · rw [if_pos e5]; exact law_c5 h hM hj11 hl hk
      rw [if_neg e5]
      by_cases e6 : y = 6
      · rw [if_pos e6]; exact law_c6 h hM hj11 hl hk
      rw [if_neg e6]
      by_cases e7 : y = 7
      · rw [if_pos e7]; exact law_c7 h hM hj11 hl hk
      rw [if_neg e7]
      by_cases e8 : y = 8
      · rw [if_pos e8]; exact law_c8 h hM hj11 hl hk
      rw [if_neg e8]
      by_cases e9 : y = 9
      · rw [if_pos e9]; exact law_c9 h hM hj11 hl hk
      rw [if_neg e9]
      by_cases e10 : y = 10
      · rw [if_pos e10]; exact law_c10 h hM hj11 hl hk
      rw [if_neg e10]
      by_cases e11 : y = 11
      · rw [if_pos e11]; exact law_c11 h hM hj11 hl hk
      rw [if_neg e11]
      by_cases e12 : y = 12
      · rw [if_pos e12]; exact law_c12 h hM hj11 hl hk
      rw [if_neg e12]
      by_cases e13 : y = 13
      · rw [if_pos e13]; exact law_c13 h hM hj11 hl hk
      rw [if_neg e13]
      by_cases e14 : y = 14
      · rw [if_pos e14]; exact law_c14 h hM hj11 hl hk
      rw [if_neg e14]
      by_cases e15 : y = 15
      · rw [if_pos e15]; exact law_c15 h hM hj11 hl hk
      rw [if_neg e15]
      by_cases e16 : y = 16
      · rw [if_pos e16]; exact law_c16 h hM hj11 hl hk
      rw [if_neg e16]
      by_cases e17 : y = 17
      · rw [if_pos e17]; exact law_c17 h hM hj11 hl hk
      rw [if_neg e17]
      by_cases e18 : y = 18
      · rw [if_pos e18]; exact law_c18 h hM hj11 hl hk
      rw [if_neg e18]
      by_cases e19 : y = 19
      · rw [if_pos e19]; exact law_c19 h hM hj11 hl hk
      rw [if_neg e19]
      by_cases e20 : y = 20
      · rw [if_pos e20]; exact law_c20 h hM hj11 hl hk
      rw [if_neg e20]
      by_cases e21 : y = 21
      · rw [if_pos e21]; exact law_c21 h hM hj11 hl hk
      rw [if_neg e21]
      by_cases e22 : y = 22
      · rw [if_pos e22]; exact law_c22 h hM hj11 hl hk
      rw [if_neg e22]
      by_cases e23 : y = 23
      · rw [if_pos e23]; exact law_c23 h hM hj11 hl hk
      rw [if_neg e23]
      by_cases e24 : y = 24
      · rw [if_pos e24]; exact law_c24 h hM hj11 hl hk
      rw [if_neg e24]
      by_cases e25 : y = 25
      · rw [if_pos e25]; exact law_c25 h hM hj11 hl hk
      rw [if_neg e25]
      by_cases e26 : y = 26
      · rw [if_pos e26]; exact law_c26 h hM hj11 hl hk
      rw [if_neg e26]
      by_cases e27 : y = 27
      · rw [if_pos e27]; exact law_c27 h hM hj11 hl hk
      rw [if_neg e27]
      by_cases e28 : y = 28
      · rw [if_pos e28]; exact law_c28 h hM hj11 hl hk
      rw [if_neg e28]
      by_cases e29 : y = 29
      · rw [if_pos e29]; exact law_c29 h hM hj11 hl hk
      rw [if_neg e29]
      by_cases e30 : y = 30
      · rw [if_pos e30]; exact law_c30 h hM hj11 hl hk
      rw [if_neg e30]
      by_cases e31 : y = 31
      · rw [if_pos e31]; exact law_c31 h hM hj11 hl hk
      rw [if_neg e31]
      by_cases e32 : y = 32
      · rw [if_pos e32]; exact law_c32 h hM hj11 hl hk
      rw [if_neg e32]
      by_cases e33 : y = 33
      · rw [if_pos e33]; exact law_c33 h hM hj11 hl hk
      rw [if_neg e33]
      by_cases e34 : y = 34
      · rw [if_pos e34]; exact law_c34 h hM hj11 hl hk
      rw [if_neg e34]
      by_cases e35 : y = 35
      · rw [if_pos e35]; exact law_c35 h hM hj11 hl hk
      rw [if_neg e35]
      by_cases e36 : y = 36
      · rw [if_pos e36]; exact law_c36 h hM hj11 hl hk
      rw [if_neg e36]
      by_cases e37 : y = 37
      · rw [if_pos e37]; exact law_c37 h hM hj11 hl hk
      rw [if_neg e37]
      by_cases e38 : y = 38
      · rw [if_pos e38]; exact law_c38 h hM hj11 hl hk
      rw [if_neg e38]
      by_cases e39 : y = 39
      · rw [if_pos e39]; exact law_c39 h hM hj11 hl hk
      rw [if_neg e39]
      by_cases e40 : y = 40
      · rw [if_pos e40]; exact law_c40 h hM hj11 hl hk
      rw [if_neg e40]
      by_cases e41 : y = 41
      · rw [if_pos e41]; exact law_c41 h hM hj11 hl hk
      rw [if_neg e41]
      by_cases e42 : y = 42
      · rw [if_pos e42]; exact law_c42 h hM hj11 hl hk
      rw [if_neg e42]
      exact hk n I L Q R s h hM
