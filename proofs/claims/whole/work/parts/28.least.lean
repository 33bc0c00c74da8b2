def oI (o : Option Nat) : Int32 := match o with | some b => nI b | none => -1
theorem oI_some (b : Nat) : oI (some b) = nI b := rfl
/-- the first of the rows (but row 0) to a town with the least fare -/
def lrow (rows : List ROW) (fr : Nat → Nat) (t : Nat) : Nat → Option Nat
  | 0 => none
  | j + 1 => if 1 ≤ j ∧ wEnd (rowAt rows j) = t then (match lrow rows fr t j with | none => some j | some b => if fr j < fr b then some j else some b) else lrow rows fr t j
theorem lrow_1 (rows : List ROW) (fr : Nat → Nat) (t : Nat) : lrow rows fr t 1 = none := by
  rw [lrow, if_neg (by omega), lrow]
theorem lrow_is {rows : List ROW} {fr : Nat → Nat} {t b : Nat} : ∀ c : Nat, lrow rows fr t c = some b → 1 ≤ b ∧ b < c ∧ wEnd (rowAt rows b) = t
  | 0, h => by cases h
  | c + 1, h => by
    rw [lrow] at h
    by_cases e : 1 ≤ c ∧ wEnd (rowAt rows c) = t
    · rw [if_pos e] at h
      cases q : lrow rows fr t c with
      | none =>
        rw [q] at h
        cases h
        exact ⟨e.1, by omega, e.2⟩
      | some d =>
        rw [q] at h
        have := lrow_is c q
        by_cases e2 : fr c < fr d
        · simp only [if_pos e2] at h
          cases h
          exact ⟨e.1, by omega, e.2⟩
        · simp only [if_neg e2] at h
          cases h
          exact ⟨this.1, by omega, this.2.2⟩
    · rw [if_neg e] at h
      have := lrow_is c h
      exact ⟨this.1, by omega, this.2.2⟩
theorem e_least_L6 {B n : Nat} {I : Nat → Nat → Int32} {La : Nat → Nat → Int64} {Q : Nat → Nat → Option Nat} {R : Nat → RDt} {x p t bits : Nat} {rows : List ROW} {g hf mf fr : Nat → Nat} (hx : isS x) (hp : isP p) (hP : PathsIs I p rows) (hK : AllOK rows) (ht : t < 2147483648) (hbits : bits < 8192)
    (hh : ∀ q, (∃ j, 1 ≤ j ∧ j < rows.length ∧ q = wLast (rowAt rows j)) → La (x + 7) q = lN (hf q) ∧ La (x + 8) q = lN (mf q)) (hg : ∀ q, g q = if bits.testBit q = true then hf q else mf q) (hfr : ∀ j, 1 ≤ j → j < rows.length → fr j = fr (wPar (rowAt rows j)) + g (wLast (rowAt rows j))) (hb : ∀ j, j < rows.length → fr j < 9223372036854775808) (k : Int32 → AH → Option (Int32 × AH)) :
    ∀ (m n' c : Nat) (L : Nat → Nat → Int64), c + m = rows.length → 1 ≤ c → m < n' → (∀ a, a ≠ x + 9 → L a = La a) → (∀ j, j < c → L (x + 9) j = lN (fr j)) →
    ∃ L' : Nat → Nat → Int64, fX5_leastRow_L6 (B + x) (B + p) (nI t) (nI bits) k n' (oI (lrow rows fr t c)) (nI c) (MK B n I L Q R) = k (oI (lrow rows fr t rows.length)) (MK B n I L' Q R) ∧ (∀ a, a ≠ x + 9 → L' a = La a) ∧ (∀ j, j < rows.length → L' (x + 9) j = lN (fr j)) := by
  obtain ⟨k1, k2⟩ := hK
  have h0 := hP.1
  intro m
  induction m with
  | zero =>
    intro n' c L hc h1 hn hF hV
    obtain ⟨n1, rfl⟩ := suc_of hn
    rw [show c = rows.length by omega] at hV ⊢
    refine ⟨L, ?_, hF, hV⟩
    rw [fX5_leastRow_L6]
    simp (disch := first | assumption | omega) only [ob1_some, ob2_some, bnd_eq, gd_true, oc_none, oc_some, ↓reduceIte, nI_add, nI_1, nI_leI, nI_ltI, nI_eq, l0, l1, l2, l3, L0, if_pos, if_neg, k_Paths, g_count, p_count, g_parents, a_parents, s_parents, g_lastRoads, a_lastRoads, s_lastRoads, g_ends, a_ends, s_ends, g_lengths, a_lengths, s_lengths, g_roadBits, a_roadBits, s_roadBits, g_townBits, a_townBits, s_townBits, u2_eq, u2_ne, h0]
  | succ m ih =>
    intro n' c L hc h1 hn hF hV
    obtain ⟨n1, rfl⟩ := suc_of hn
    have hr := rowAt_get (show c < rows.length by omega)
    obtain ⟨p1, p2, p3, p4, p5, p6⟩ := hP.2 c _ hr
    obtain ⟨k3, k4, k5, k6, k7⟩ := k2 c _ hr
    obtain ⟨k8, k9, k10, k11⟩ := k3
    have hpar := k7 h1
    have hq := hh (wLast (rowAt rows c)) ⟨c, h1, by omega, rfl⟩
    have e7 : L (x + 7) (wLast (rowAt rows c)) = lN (hf (wLast (rowAt rows c))) := by rw [hF _ (by omega)]; exact hq.1
    have e8 : L (x + 8) (wLast (rowAt rows c)) = lN (mf (wLast (rowAt rows c))) := by rw [hF _ (by omega)]; exact hq.2
    have e9 : L (x + 9) (wPar (rowAt rows c)) = lN (fr (wPar (rowAt rows c))) := hV _ (by omega)
    have hfc := hfr c h1 (by omega)
    have hbc := hb c (by omega)
    have hgq := hg (wLast (rowAt rows c))
    have hV1 : ∀ j, j < c + 1 → u2 L (x + 9) c (lN (fr c)) (x + 9) j = lN (fr j) := by
      intro j hj
      by_cases e : j = c
      · rw [e, u2_eq]
      · rw [u2_ne (Or.inr e)]; exact hV j (by omega)
    obtain ⟨L', r1, r2, r3⟩ := ih n1 (c + 1) (u2 L (x + 9) c (lN (fr c))) (by omega) (by omega) (by omega) (fun a ha => by rw [u2_nk ha]; exact hF a ha) hV1
    refine ⟨L', ?_, r2, r3⟩
    rw [← r1, fX5_leastRow_L6]
    rw [lrow]
    have hrd : ∀ b, b < c → u2 L (x + 9) c (lN (fr c)) (x + 9) b = lN (fr b) := fun b hb => hV1 b (by omega)
    by_cases he : wEnd (rowAt rows c) = t
    · rw [if_pos ⟨h1, he⟩]
      cases hl : lrow rows fr t c with
      | none =>
        have ho : (oI none < nI 0) = True := eq_true (by decide)
        by_cases hbt : bits.testBit (wLast (rowAt rows c)) = true
        · rw [if_pos hbt] at hgq
          rw [hgq] at hfc
          simp (disch := first | assumption | omega) only [ob1_some, ob2_some, bnd_eq, gd_true, oc_none, oc_some, ↓reduceIte, nI_add, nI_1, nI_leI, nI_ltI, nI_eq, l0, l1, l2, l3, L0, if_pos, if_neg, k_Paths, g_count, p_count, g_parents, a_parents, s_parents, g_lastRoads, a_lastRoads, s_lastRoads, g_ends, a_ends, s_ends, g_lengths, a_lengths, s_lengths, g_roadBits, a_roadBits, s_roadBits, g_townBits, a_townBits, s_townBits, k_Steady, g_loads, g_riders, g_ssum, g_here, g_more, g_fares, g_stands, p_stands, g_steps, p_steps, a_loads, s_loads, n_loads, r_riders, a_here, s_here, a_more, s_more, a_fares, s_fares, a_rider, s_rider, n_rider, u2_eq, u2_ne, h0, p1, p2, p3, e7, e8, e9, bit_if, lN_add, ← hfc, ho, oI_some]
        · rw [if_neg hbt] at hgq
          rw [hgq] at hfc
          simp (disch := first | assumption | omega) only [ob1_some, ob2_some, bnd_eq, gd_true, oc_none, oc_some, ↓reduceIte, nI_add, nI_1, nI_leI, nI_ltI, nI_eq, l0, l1, l2, l3, L0, if_pos, if_neg, k_Paths, g_count, p_count, g_parents, a_parents, s_parents, g_lastRoads, a_lastRoads, s_lastRoads, g_ends, a_ends, s_ends, g_lengths, a_lengths, s_lengths, g_roadBits, a_roadBits, s_roadBits, g_townBits, a_townBits, s_townBits, k_Steady, g_loads, g_riders, g_ssum, g_here, g_more, g_fares, g_stands, p_stands, g_steps, p_steps, a_loads, s_loads, n_loads, r_riders, a_here, s_here, a_more, s_more, a_fares, s_fares, a_rider, s_rider, n_rider, u2_eq, u2_ne, h0, p1, p2, p3, e7, e8, e9, bit_if, lN_add, ← hfc, ho, oI_some]
      | some b =>
        have hlb := lrow_is c hl
        have hVb := hV b hlb.2.1
        have hbb := hb b (by omega)
        by_cases hbt : bits.testBit (wLast (rowAt rows c)) = true
        · rw [if_pos hbt] at hgq
          rw [hgq] at hfc
          by_cases hlt : fr c < fr b
          · simp (disch := first | assumption | omega) only [ob1_some, ob2_some, bnd_eq, gd_true, oc_none, oc_some, ↓reduceIte, nI_add, nI_1, nI_leI, nI_ltI, nI_eq, l0, l1, l2, l3, L0, if_pos, if_neg, k_Paths, g_count, p_count, g_parents, a_parents, s_parents, g_lastRoads, a_lastRoads, s_lastRoads, g_ends, a_ends, s_ends, g_lengths, a_lengths, s_lengths, g_roadBits, a_roadBits, s_roadBits, g_townBits, a_townBits, s_townBits, k_Steady, g_loads, g_riders, g_ssum, g_here, g_more, g_fares, g_stands, p_stands, g_steps, p_steps, a_loads, s_loads, n_loads, r_riders, a_here, s_here, a_more, s_more, a_fares, s_fares, a_rider, s_rider, n_rider, u2_eq, u2_ne, h0, p1, p2, p3, e7, e8, e9, bit_if, lN_add, ← hfc, oI_some, hVb, pk_lLE]
          · simp (disch := first | assumption | omega) only [ob1_some, ob2_some, bnd_eq, gd_true, oc_none, oc_some, ↓reduceIte, nI_add, nI_1, nI_leI, nI_ltI, nI_eq, l0, l1, l2, l3, L0, if_pos, if_neg, k_Paths, g_count, p_count, g_parents, a_parents, s_parents, g_lastRoads, a_lastRoads, s_lastRoads, g_ends, a_ends, s_ends, g_lengths, a_lengths, s_lengths, g_roadBits, a_roadBits, s_roadBits, g_townBits, a_townBits, s_townBits, k_Steady, g_loads, g_riders, g_ssum, g_here, g_more, g_fares, g_stands, p_stands, g_steps, p_steps, a_loads, s_loads, n_loads, r_riders, a_here, s_here, a_more, s_more, a_fares, s_fares, a_rider, s_rider, n_rider, u2_eq, u2_ne, h0, p1, p2, p3, e7, e8, e9, bit_if, lN_add, ← hfc, oI_some, hVb, pk_lLE]
        · rw [if_neg hbt] at hgq
          rw [hgq] at hfc
          by_cases hlt : fr c < fr b
          · simp (disch := first | assumption | omega) only [ob1_some, ob2_some, bnd_eq, gd_true, oc_none, oc_some, ↓reduceIte, nI_add, nI_1, nI_leI, nI_ltI, nI_eq, l0, l1, l2, l3, L0, if_pos, if_neg, k_Paths, g_count, p_count, g_parents, a_parents, s_parents, g_lastRoads, a_lastRoads, s_lastRoads, g_ends, a_ends, s_ends, g_lengths, a_lengths, s_lengths, g_roadBits, a_roadBits, s_roadBits, g_townBits, a_townBits, s_townBits, k_Steady, g_loads, g_riders, g_ssum, g_here, g_more, g_fares, g_stands, p_stands, g_steps, p_steps, a_loads, s_loads, n_loads, r_riders, a_here, s_here, a_more, s_more, a_fares, s_fares, a_rider, s_rider, n_rider, u2_eq, u2_ne, h0, p1, p2, p3, e7, e8, e9, bit_if, lN_add, ← hfc, oI_some, hVb, pk_lLE]
          · simp (disch := first | assumption | omega) only [ob1_some, ob2_some, bnd_eq, gd_true, oc_none, oc_some, ↓reduceIte, nI_add, nI_1, nI_leI, nI_ltI, nI_eq, l0, l1, l2, l3, L0, if_pos, if_neg, k_Paths, g_count, p_count, g_parents, a_parents, s_parents, g_lastRoads, a_lastRoads, s_lastRoads, g_ends, a_ends, s_ends, g_lengths, a_lengths, s_lengths, g_roadBits, a_roadBits, s_roadBits, g_townBits, a_townBits, s_townBits, k_Steady, g_loads, g_riders, g_ssum, g_here, g_more, g_fares, g_stands, p_stands, g_steps, p_steps, a_loads, s_loads, n_loads, r_riders, a_here, s_here, a_more, s_more, a_fares, s_fares, a_rider, s_rider, n_rider, u2_eq, u2_ne, h0, p1, p2, p3, e7, e8, e9, bit_if, lN_add, ← hfc, oI_some, hVb, pk_lLE]
    · rw [if_neg (fun h => he h.2)]
      by_cases hbt : bits.testBit (wLast (rowAt rows c)) = true
      · rw [if_pos hbt] at hgq
        rw [hgq] at hfc
        simp (disch := first | assumption | omega) only [ob1_some, ob2_some, bnd_eq, gd_true, oc_none, oc_some, ↓reduceIte, nI_add, nI_1, nI_leI, nI_ltI, nI_eq, l0, l1, l2, l3, L0, if_pos, if_neg, k_Paths, g_count, p_count, g_parents, a_parents, s_parents, g_lastRoads, a_lastRoads, s_lastRoads, g_ends, a_ends, s_ends, g_lengths, a_lengths, s_lengths, g_roadBits, a_roadBits, s_roadBits, g_townBits, a_townBits, s_townBits, k_Steady, g_loads, g_riders, g_ssum, g_here, g_more, g_fares, g_stands, p_stands, g_steps, p_steps, a_loads, s_loads, n_loads, r_riders, a_here, s_here, a_more, s_more, a_fares, s_fares, a_rider, s_rider, n_rider, u2_eq, u2_ne, h0, p1, p2, p3, e7, e8, e9, bit_if, lN_add, ← hfc]
      · rw [if_neg hbt] at hgq
        rw [hgq] at hfc
        simp (disch := first | assumption | omega) only [ob1_some, ob2_some, bnd_eq, gd_true, oc_none, oc_some, ↓reduceIte, nI_add, nI_1, nI_leI, nI_ltI, nI_eq, l0, l1, l2, l3, L0, if_pos, if_neg, k_Paths, g_count, p_count, g_parents, a_parents, s_parents, g_lastRoads, a_lastRoads, s_lastRoads, g_ends, a_ends, s_ends, g_lengths, a_lengths, s_lengths, g_roadBits, a_roadBits, s_roadBits, g_townBits, a_townBits, s_townBits, k_Steady, g_loads, g_riders, g_ssum, g_here, g_more, g_fares, g_stands, p_stands, g_steps, p_steps, a_loads, s_loads, n_loads, r_riders, a_here, s_here, a_more, s_more, a_fares, s_fares, a_rider, s_rider, n_rider, u2_eq, u2_ne, h0, p1, p2, p3, e7, e8, e9, bit_if, lN_add, ← hfc]
