/-- prices for one who is on the roads of the bits -/
def gB (N : NET) (mode c : Nat) (ld : Nat → Nat) (bits q : Nat) : Nat := if bits.testBit q = true then hereP N mode c ld q else moreP N mode c ld q
def fareB (N : NET) (mode : Nat) (rows : List ROW) (c : Nat) (ld : Nat → Nat) (j : Nat) : Nat → Nat := fareR rows (gB N mode c ld (wRb (rowAt rows j)))
/-- where one of a row would go -/
def goalR (N : NET) (mode : Nat) (rows : List ROW) (c : Nat) (s : SST) (j : Nat) : Option Nat :=
  if 0 < s.2 c j then (match lrow rows (fareB N mode rows c s.1 j) (wEnd (rowAt rows j)) rows.length with
    | some b => if fareB N mode rows c s.1 j b < fareB N mode rows c s.1 j j then some b else none
    | none => none) else none
/-- the first row from j on that somebody leaves: m rows are looked at -/
def stepR (N : NET) (mode : Nat) (rows : List ROW) (c : Nat) (s : SST) : Nat → Nat → Option SST
  | 0, _ => none
  | m + 1, j => match goalR N mode rows c s j with
    | some b => some (addR rows (subR rows s c j) c b)
    | none => stepR N mode rows c s m (j + 1)
def stepC (N : NET) (mode : Nat) (rows : List ROW) (s : SST) : Nat → Nat → Option SST
  | 0, _ => none
  | m + 1, c => if nC N c 1 = 0 then stepC N mode rows s m (c + 1) else (match stepR N mode rows c s (rows.length - 1) 1 with
    | some s' => some s'
    | none => stepC N mode rows s m (c + 1))
def stepsN (N : NET) (mode : Nat) (rows : List ROW) : Nat → SST × Nat → SST × Nat
  | 0, s => s
  | m + 1, s => match stepC N mode rows s.1 3 0 with
    | some s' => stepsN N mode rows m (s', s.2 + 1)
    | none => s
theorem goalR_is {N : NET} {mode c j b : Nat} {rows : List ROW} {s : SST} (h : goalR N mode rows c s j = some b) : 0 < s.2 c j ∧ 1 ≤ b ∧ b < rows.length ∧ wEnd (rowAt rows b) = wEnd (rowAt rows j) ∧ lrow rows (fareB N mode rows c s.1 j) (wEnd (rowAt rows j)) rows.length = some b ∧ fareB N mode rows c s.1 j b < fareB N mode rows c s.1 j j := by
  unfold goalR at h
  by_cases e : 0 < s.2 c j
  · rw [if_pos e] at h
    cases q : lrow rows (fareB N mode rows c s.1 j) (wEnd (rowAt rows j)) rows.length with
    | none => rw [q] at h; cases h
    | some d =>
      rw [q] at h
      have hd := lrow_is _ q
      by_cases e2 : fareB N mode rows c s.1 j d < fareB N mode rows c s.1 j j
      · simp only [if_pos e2] at h
        cases h
        exact ⟨e, hd.1, hd.2.1, hd.2.2, rfl, e2⟩
      · simp only [if_neg e2] at h
        cases h
  · rw [if_neg e] at h
    cases h
theorem e_stepOf_L2 {B n : Nat} {I : Nat → Nat → Int32} {La : Nat → Nat → Int64} {Q : Nat → Nat → Option Nat} {R : Nat → RDt} {x y p mode c D : Nat} {N : NET} {A : Nat → Bool} {rows : List ROW} {s : SST} (hE : Env5 B n I La Q R x y p N A rows) (hc : c < 3) (hD : D + 1 ≤ 36) (hl : LoadsIs I x s.1 s.2) (hi : SInv N rows s (D + 1)) (hh : ∀ q, q < nM N → La (x + 7) q = lN (hereP N mode c s.1 q) ∧ La (x + 8) q = lN (moreP N mode c s.1 q)) (k : AH → Option (Int32 × AH)) :
    ∀ (m n' j : Nat) (L : Nat → Nat → Int64), j + m = rows.length → 1 ≤ j → m < n' → (∀ a, a ≠ x + 9 → L a = La a) → L (x + 9) 0 = lN 0 →
    (∃ (s' : SST) (I' : Nat → Nat → Int32) (L' : Nat → Nat → Int64), stepR N mode rows c s m j = some s' ∧ fX5_stepOf_L2 (B + x) (nI c) (B + p) k n' (nI j) (MK B n I L Q R) = some (1, MK B n I' L' Q R) ∧ SFr x I I' La L' ∧ LoadsIs I' x s'.1 s'.2 ∧ SInv N rows s' (D + 1)) ∨
    (∃ L' : Nat → Nat → Int64, stepR N mode rows c s m j = none ∧ fX5_stepOf_L2 (B + x) (nI c) (B + p) k n' (nI j) (MK B n I L Q R) = k (MK B n I L' Q R) ∧ (∀ a, a ≠ x + 9 → L' a = La a) ∧ L' (x + 9) 0 = lN 0) := by
  obtain ⟨g1, g2, g3, g4, g5, g6, g7, g8, g10⟩ := id hE
  have h0 := g6.1
  have hld : ∀ r, s.1 r ≤ 36 := fun r => Nat.le_trans (hi.le r) hD
  intro m
  induction m with
  | zero =>
    intro n' j L hj h1 hn hF h9
    obtain ⟨n1, rfl⟩ := suc_of hn
    refine Or.inr ⟨L, rfl, ?_, hF, h9⟩
    rw [fX5_stepOf_L2]
    simp (disch := first | assumption | omega) only [ob1_some, ob2_some, bnd_eq, gd_true, oc_none, oc_some, ↓reduceIte, nI_add, nI_1, nI_leI, nI_ltI, nI_eq, l0, l1, l2, l3, L0, if_pos, if_neg, k_Paths, g_count, p_count, g_parents, a_parents, s_parents, g_lastRoads, a_lastRoads, s_lastRoads, g_ends, a_ends, s_ends, g_lengths, a_lengths, s_lengths, g_roadBits, a_roadBits, s_roadBits, g_townBits, a_townBits, s_townBits, u2_eq, u2_ne, h0]
  | succ m ih =>
    intro n' j L hj h1 hn hF h9
    obtain ⟨n1, rfl⟩ := suc_of hn
    have hr := rowAt_get (show j < rows.length by omega)
    obtain ⟨p1, p2, p3, p4, p5, p6⟩ := g6.2 j _ hr
    obtain ⟨k3, k4, k5, k6, k7⟩ := (g7.all g5 g8).2 j _ hr
    obtain ⟨k8, k9, k10, k11⟩ := k3
    have hrd := hl.2 c j hc (by omega)
    have hrle : s.2 c j ≤ D + 1 := by
      have e : (sumN 3 fun c => sumN rows.length fun j => s.2 c j * 1) = D + 1 := hi.2.1
      have e1 := sumN_ge (f := fun c => sumN rows.length fun j => s.2 c j * 1) 3 hc
      have e2 := sumN_ge (f := fun j => s.2 c j * 1) rows.length (show j < rows.length by omega)
      omega
    have hnext : ∀ L2 : Nat → Nat → Int64, (∀ a, a ≠ x + 9 → L2 a = La a) → L2 (x + 9) 0 = lN 0 → goalR N mode rows c s j = none → fX5_stepOf_L2 (B + x) (nI c) (B + p) k (n1 + 1) (nI j) (MK B n I L Q R) = fX5_stepOf_L2 (B + x) (nI c) (B + p) k n1 (nI (j + 1)) (MK B n I L2 Q R) →
        (∃ (s' : SST) (I' : Nat → Nat → Int32) (L' : Nat → Nat → Int64), stepR N mode rows c s (m + 1) j = some s' ∧ fX5_stepOf_L2 (B + x) (nI c) (B + p) k (n1 + 1) (nI j) (MK B n I L Q R) = some (1, MK B n I' L' Q R) ∧ SFr x I I' La L' ∧ LoadsIs I' x s'.1 s'.2 ∧ SInv N rows s' (D + 1)) ∨
        (∃ L' : Nat → Nat → Int64, stepR N mode rows c s (m + 1) j = none ∧ fX5_stepOf_L2 (B + x) (nI c) (B + p) k (n1 + 1) (nI j) (MK B n I L Q R) = k (MK B n I L' Q R) ∧ (∀ a, a ≠ x + 9 → L' a = La a) ∧ L' (x + 9) 0 = lN 0) := by
      intro L2 hF2 h92 hg he
      rw [he, stepR, hg]
      exact ih n1 (j + 1) L2 (by omega) (by omega) (by omega) hF2 h92
    by_cases hp : s.2 c j = 0
    · refine hnext L hF h9 (if_neg (by omega)) ?_
      rw [fX5_stepOf_L2]
      simp (disch := first | assumption | omega) only [ob1_some, ob2_some, bnd_eq, gd_true, oc_none, oc_some, ↓reduceIte, nI_add, nI_1, nI_leI, nI_ltI, nI_eq, l0, l1, l2, l3, L0, if_pos, if_neg, k_Paths, g_count, p_count, g_parents, a_parents, s_parents, g_lastRoads, a_lastRoads, s_lastRoads, g_ends, a_ends, s_ends, g_lengths, a_lengths, s_lengths, g_roadBits, a_roadBits, s_roadBits, g_townBits, a_townBits, s_townBits, k_Steady, g_loads, g_riders, g_ssum, g_here, g_more, g_fares, g_stands, p_stands, g_steps, p_steps, a_loads, s_loads, n_loads, r_riders, a_here, s_here, a_more, s_more, a_fares, s_fares, a_rider, s_rider, n_rider, u2_eq, u2_ne, h0, hrd, hp]
    · have hEj : Env5 B n I L Q R x y p N A rows := hE.fr ⟨fun _ _ => rfl, fun a _ _ h3 => hF a h3, h9⟩
      obtain ⟨Lc, w1, w2, w3⟩ := e_least (t := wEnd (rowAt rows j)) (bits := wRb (rowAt rows j)) (g := gB N mode c s.1 (wRb (rowAt rows j))) hEj (by omega) k10 (fun q hq => by rw [hF _ (by omega), hF _ (by omega)]; exact hh q hq) (fun r => rfl) (fun r hr => by
        unfold gB
        have := hld r
        split
        · exact pAt_le g5 hc hr (by omega)
        · exact pAt_le g5 hc hr (by omega)) h9
      have hFc : ∀ a, a ≠ x + 9 → Lc a = La a := fun a ha => by rw [w2 a ha, hF a ha]
      have h9c : Lc (x + 9) 0 = lN 0 := by rw [w3 0 (by omega), g7.fare0 _ (by omega)]
      have hfl : ∀ b, b < rows.length → fareR rows (gB N mode c s.1 (wRb (rowAt rows j))) b ≤ 5500000000000000000 := fun b hb => g7.fare_le g5 (fun r hr => by
        unfold gB
        have := hld r
        split
        · exact pAt_le g5 hc hr (by omega)
        · exact pAt_le g5 hc hr (by omega)) hb
      cases hg : goalR N mode rows c s j with
      | none =>
        refine hnext Lc hFc h9c hg ?_
        rw [fX5_stepOf_L2]
        unfold goalR at hg
        rw [if_pos (by omega)] at hg
        cases hq : lrow rows (fareB N mode rows c s.1 j) (wEnd (rowAt rows j)) rows.length with
        | none =>
          unfold fareB at hq
          rw [hq] at w1
          have ho : (oI none ≤ nI 0) = True := eq_true (by decide)
          simp (disch := first | assumption | omega) only [ob1_some, ob2_some, bnd_eq, gd_true, oc_none, oc_some, ↓reduceIte, nI_add, nI_1, nI_leI, nI_ltI, nI_eq, l0, l1, l2, l3, L0, if_pos, if_neg, k_Paths, g_count, p_count, g_parents, a_parents, s_parents, g_lastRoads, a_lastRoads, s_lastRoads, g_ends, a_ends, s_ends, g_lengths, a_lengths, s_lengths, g_roadBits, a_roadBits, s_roadBits, g_townBits, a_townBits, s_townBits, k_Steady, g_loads, g_riders, g_ssum, g_here, g_more, g_fares, g_stands, p_stands, g_steps, p_steps, a_loads, s_loads, n_loads, r_riders, a_here, s_here, a_more, s_more, a_fares, s_fares, a_rider, s_rider, n_rider, u2_eq, u2_ne, h0, hrd, p3, p5, w1, ho]
        | some b =>
          rw [hq] at hg
          have hbi := lrow_is _ hq
          unfold fareB at hq hg
          rw [hq, oI_some] at w1
          have e2 : ¬ fareR rows (gB N mode c s.1 (wRb (rowAt rows j))) b < fareR rows (gB N mode c s.1 (wRb (rowAt rows j))) j := fun h => by
            simp only [if_pos h] at hg
            cases hg
          have f1 := hfl b hbi.2.1
          have f2 := hfl j (by omega)
          have v1 := w3 b hbi.2.1
          have v2 := w3 j (by omega)
          simp (disch := first | assumption | omega) only [ob1_some, ob2_some, bnd_eq, gd_true, oc_none, oc_some, ↓reduceIte, nI_add, nI_1, nI_leI, nI_ltI, nI_eq, l0, l1, l2, l3, L0, if_pos, if_neg, k_Paths, g_count, p_count, g_parents, a_parents, s_parents, g_lastRoads, a_lastRoads, s_lastRoads, g_ends, a_ends, s_ends, g_lengths, a_lengths, s_lengths, g_roadBits, a_roadBits, s_roadBits, g_townBits, a_townBits, s_townBits, k_Steady, g_loads, g_riders, g_ssum, g_here, g_more, g_fares, g_stands, p_stands, g_steps, p_steps, a_loads, s_loads, n_loads, r_riders, a_here, s_here, a_more, s_more, a_fares, s_fares, a_rider, s_rider, n_rider, u2_eq, u2_ne, h0, hrd, p3, p5, w1, v1, v2, pk_lLE]
      | some b =>
        obtain ⟨q1, q2, q3, q4, q5, q6⟩ := goalR_is hg
        unfold fareB at q5 q6
        rw [q5, oI_some] at w1
        have f1 := hfl b q3
        have f2 := hfl j (by omega)
        have v1 := w3 b q3
        have v2 := w3 j (by omega)
        have hFF : SFr x I I La Lc := ⟨fun _ _ => rfl, fun a _ _ h3 => hFc a h3, h9c⟩
        have hEc := hE.fr hFF
        obtain ⟨hs1, hs2⟩ := hi.sub hc (show j < rows.length by omega) q1
        obtain ⟨Id, m1', m2, m3⟩ := e_moveM hEc (show j < rows.length by omega) hc hl q1 hs2
        have hFd : SFr x I Id Lc Lc := ⟨m3, fun _ _ _ _ => rfl, h9c⟩
        obtain ⟨Ie, n1', n2, n3⟩ := e_moveP (hEc.fr hFd) q3 hc m2
        have hFe : SFr x Id Ie Lc Lc := ⟨n3, fun _ _ _ _ => rfl, h9c⟩
        refine Or.inl ⟨addR rows (subR rows s c j) c b, Ie, Lc, by rw [stepR, hg], ?_, (hFF.tr hFd).tr hFe, n2, hs1.add hc q2 q3 (by
          rw [q4]
          exact (hi.2.2 c j hc (by omega) q1).2.2)⟩
        rw [fX5_stepOf_L2]
        have c1 : ¬ nI rows.length ≤ nI j := by rw [nI_leI (by omega) (by omega)]; omega
        have c2 : ¬ nI (s.2 c j) ≤ 0 := by rw [l0, nI_leI (by omega) (by omega)]; omega
        have c3 : ¬ nI b ≤ 0 := by rw [l0, nI_leI (by omega) (by omega)]; omega
        have c4 : ¬ lN (fareR rows (gB N mode c s.1 (wRb (rowAt rows j))) j) ≤ lN (fareR rows (gB N mode c s.1 (wRb (rowAt rows j))) b) := by rw [pk_lLE (by omega) (by omega)]; omega
        have n1'' : fX5_move (B + x) (B + p) (nI c) (nI b) 1 (MK B n Id Lc Q R) = some (MK B n Ie Lc Q R) := n1'
        simp (disch := first | assumption | omega) only [ob1_some, ob2_some, bnd_eq, gd_true, oc_none, oc_some, ↓reduceIte, k_Paths, g_count, p_count, g_parents, a_parents, s_parents, g_lastRoads, a_lastRoads, s_lastRoads, g_ends, a_ends, s_ends, g_lengths, a_lengths, s_lengths, g_roadBits, a_roadBits, s_roadBits, g_townBits, a_townBits, s_townBits, k_Steady, g_loads, g_riders, g_ssum, g_here, g_more, g_fares, g_stands, p_stands, g_steps, p_steps, a_loads, s_loads, n_loads, r_riders, a_here, s_here, a_more, s_more, a_fares, s_fares, a_rider, s_rider, n_rider, h0, hrd, p3, p5, w1, v1, v2, c1, c2, c3, c4, if_false, m1', n1'']
theorem e_stepOf {B n : Nat} {I : Nat → Nat → Int32} {L : Nat → Nat → Int64} {Q : Nat → Nat → Option Nat} {R : Nat → RDt} {x y p mode c D : Nat} {N : NET} {A : Nat → Bool} {rows : List ROW} {s : SST} (hE : Env5 B n I L Q R x y p N A rows) (hc : c < 3) (hD : D + 1 ≤ 36) (hl : LoadsIs I x s.1 s.2) (hi : SInv N rows s (D + 1)) (hh : ∀ q, q < nM N → L (x + 7) q = lN (hereP N mode c s.1 q) ∧ L (x + 8) q = lN (moreP N mode c s.1 q)) (h9 : L (x + 9) 0 = lN 0) :
    (∃ (s' : SST) (I' : Nat → Nat → Int32) (L' : Nat → Nat → Int64), stepR N mode rows c s (rows.length - 1) 1 = some s' ∧ fX5_stepOf (B + x) (nI c) (B + p) (MK B n I L Q R) = some (nI 1, MK B n I' L' Q R) ∧ SFr x I I' L L' ∧ LoadsIs I' x s'.1 s'.2 ∧ SInv N rows s' (D + 1)) ∨
    (∃ L' : Nat → Nat → Int64, stepR N mode rows c s (rows.length - 1) 1 = none ∧ fX5_stepOf (B + x) (nI c) (B + p) (MK B n I L Q R) = some (nI 0, MK B n I L' Q R) ∧ SFr x I I L L') := by
  have h1 := hE.2.2.2.2.2.2.2.2
  have h2 := hE.2.2.2.2.2.2.2.1
  unfold fX5_stepOf
  rcases e_stepOf_L2 hE hc hD hl hi hh (fun (g39 : AH) => some ((0 : Int32), g39)) (rows.length - 1) lf 1 L (by omega) (by omega) (by show _ < 1000; omega) (fun _ _ => rfl) h9 with h | ⟨L', r1, r2, r3, r4⟩
  · exact Or.inl h
  · exact Or.inr ⟨L', r1, r2, fun _ _ => rfl, fun a _ _ h3 => r3 a h3, r4⟩
theorem e_step_L3 {B n : Nat} {Ia : Nat → Nat → Int32} {La : Nat → Nat → Int64} {Q : Nat → Nat → Option Nat} {R : Nat → RDt} {x y p mode D : Nat} {N : NET} {A : Nat → Bool} {rows : List ROW} {s : SST} (hE : Env5 B n Ia La Q R x y p N A rows) (hm : mode < 3) (hD : D ≤ 36) (hp : ∀ c, c < 3 → nC N c 1 ≠ 0 → 1 ≤ D) (hl : LoadsIs Ia x s.1 s.2) (hi : SInv N rows s D) (k : AH → Option (Int32 × AH)) :
    ∀ (m n' c : Nat) (L : Nat → Nat → Int64), c + m = 3 → m < n' → SFr x Ia Ia La L →
    (∃ (s' : SST) (I' : Nat → Nat → Int32) (L' : Nat → Nat → Int64), stepC N mode rows s m c = some s' ∧ fX5_step_L3 (B + x) (B + y) (B + p) (nI mode) k n' (nI c) (MK B n Ia L Q R) = some (1, MK B n I' L' Q R) ∧ SFr x Ia I' La L' ∧ LoadsIs I' x s'.1 s'.2 ∧ SInv N rows s' D) ∨
    (∃ L' : Nat → Nat → Int64, stepC N mode rows s m c = none ∧ fX5_step_L3 (B + x) (B + y) (B + p) (nI mode) k n' (nI c) (MK B n Ia L Q R) = k (MK B n Ia L' Q R) ∧ SFr x Ia Ia La L') := by
  intro m
  induction m with
  | zero =>
    intro n' c L hc hn hF
    obtain ⟨n1, rfl⟩ := suc_of hn
    refine Or.inr ⟨L, rfl, ?_, hF⟩
    rw [fX5_step_L3, show c = 3 by omega]
    simp (disch := first | assumption | omega) only [ob1_some, ob2_some, bnd_eq, gd_true, oc_none, oc_some, ↓reduceIte, nI_add, nI_1, nI_leI, nI_ltI, nI_eq, l0, l1, l2, l3, L0, if_pos, if_neg, u2_eq, u2_ne]
  | succ m ih =>
    intro n' c L hc hn hF
    obtain ⟨n1, rfl⟩ := suc_of hn
    have hEL := hE.fr hF
    obtain ⟨g1, g2, g3, g4, g5, g6, g7, g8, g10⟩ := id hEL
    have hC := g4.2.2.2.2.2
    have hcb := g5.2.2.2.2 c (by omega)
    unfold CrN at hcb
    have hld : ∀ r, s.1 r ≤ 36 := fun r => Nat.le_trans (hi.le r) hD
    rw [fX5_step_L3, stepC]
    by_cases h0 : nC N c 1 = 0
    · rw [if_pos h0]
      have := ih n1 (c + 1) L (by omega) (by omega) hF
      simp (disch := first | assumption | omega) only [ob1_some, ob2_some, bnd_eq, gd_true, oc_none, oc_some, ↓reduceIte, nI_add, nI_1, nI_leI, nI_ltI, nI_eq, l0, l1, l2, l3, L0, if_pos, if_neg, k_Net, g_towns, p_towns, g_size, p_size, g_roads, g_tolls, g_crowds, a_tolls, s_tolls, r_crowds, a_crowd, s_crowd, q_roads, w_roads, u2_eq, u2_ne, hC, h0]
      exact this
    · rw [if_neg h0]
      have hd1 := hp c (by omega) h0
      obtain ⟨D0, hD0⟩ := suc_of hd1
      obtain ⟨Lb, t1, t2, t3⟩ := e_tell g1 g2 g4 g5 hm (show c < 3 by omega) hl (fun r _ => by have := hld r; omega)
      have hFb : SFr x Ia Ia L Lb := ⟨fun _ _ => rfl, fun a h1 h2 h3 => t2 a h1 h2, by rw [t2 _ (by omega) (by omega)]; exact hF.2.2⟩
      have c0 : ¬ (3 : Int32) ≤ nI c := by rw [l3, nI_leI (by omega) (by omega)]; omega
      have c1 : ¬ nI (nC N c 1) ≤ 0 := by rw [l0, nI_leI (by omega) (by omega)]; omega
      have hC1 := hC c 1 (by omega) (by omega)
      rcases e_stepOf (D := D0) (hEL.fr hFb) (show c < 3 by omega) (by omega) hl (by rw [← hD0]; exact hi) t3 hFb.2.2 with ⟨s', I', L', r1, r2, r3, r4, r5⟩ | ⟨L', r1, r2, r3⟩
      · refine Or.inl ⟨s', I', L', by rw [r1], ?_, (hF.tr hFb).tr r3, r4, by rw [hD0]; exact r5⟩
        have hz : (nI 1 = (0 : Int32)) = False := eq_false (by decide)
        simp (disch := first | assumption | omega) only [ob1_some, ob2_some, bnd_eq, gd_true, oc_none, oc_some, ↓reduceIte, k_Net, g_towns, p_towns, g_size, p_size, g_roads, g_tolls, g_crowds, a_tolls, s_tolls, r_crowds, a_crowd, s_crowd, q_roads, w_roads, l1, hC1, c0, c1, t1, r2, hz, if_false]
      · rw [r1]
        have := ih n1 (c + 1) L' (by omega) (by omega) ((hF.tr hFb).tr r3)
        simp (disch := first | assumption | omega) only [ob1_some, ob2_some, bnd_eq, gd_true, oc_none, oc_some, ↓reduceIte, nI_add, nI_1, nI_leI, nI_ltI, nI_eq, l0, l1, l2, l3, L0, if_pos, if_neg, k_Net, g_towns, p_towns, g_size, p_size, g_roads, g_tolls, g_crowds, a_tolls, s_tolls, r_crowds, a_crowd, s_crowd, q_roads, w_roads, u2_eq, u2_ne, hC, t1, r2]
        exact this
theorem e_step {B n : Nat} {I : Nat → Nat → Int32} {L : Nat → Nat → Int64} {Q : Nat → Nat → Option Nat} {R : Nat → RDt} {x y p mode D : Nat} {N : NET} {A : Nat → Bool} {rows : List ROW} {s : SST} (hE : Env5 B n I L Q R x y p N A rows) (hm : mode < 3) (hD : D ≤ 36) (hp : ∀ c, c < 3 → nC N c 1 ≠ 0 → 1 ≤ D) (hl : LoadsIs I x s.1 s.2) (hi : SInv N rows s D) (h9 : L (x + 9) 0 = lN 0) :
    (∃ (s' : SST) (I' : Nat → Nat → Int32) (L' : Nat → Nat → Int64), stepC N mode rows s 3 0 = some s' ∧ fX5_step (B + x) (B + y) (B + p) (nI mode) (MK B n I L Q R) = some (nI 1, MK B n I' L' Q R) ∧ SFr x I I' L L' ∧ LoadsIs I' x s'.1 s'.2 ∧ SInv N rows s' D) ∨
    (∃ L' : Nat → Nat → Int64, stepC N mode rows s 3 0 = none ∧ fX5_step (B + x) (B + y) (B + p) (nI mode) (MK B n I L Q R) = some (nI 0, MK B n I L' Q R) ∧ SFr x I I L L') := by
  unfold fX5_step
  exact e_step_L3 hE hm hD hp hl hi (fun (g17 : AH) => some ((0 : Int32), g17)) 3 lf 0 L rfl (by decide) ⟨fun _ _ => rfl, fun _ _ _ _ => rfl, h9⟩
