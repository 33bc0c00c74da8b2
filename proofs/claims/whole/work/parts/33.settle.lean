theorem cS_loads {B x : Nat} (hx : isS x) : (celf B)[x + 1]? = some (fun I _ _ => .inl (0, 13, .inl I)) := by rcases hx with h | h | h | h <;> subst h <;> rfl
theorem cS_rider {B x c : Nat} (hx : isS x) (hc : c < 3) : (celf B)[x + (3 + c)]? = some (fun I _ _ => .inl (0, 211, .inl I)) := by
  obtain h | h | h : c = 0 ∨ c = 1 ∨ c = 2 := by omega
  all_goals subst h
  all_goals rcases hx with h | h | h | h <;> subst h <;> rfl
theorem e_fill_L5 {B n : Nat} {Ia : Nat → Nat → Int32} {L : Nat → Nat → Int64} {Q : Nat → Nat → Option Nat} {R : Nat → RDt} {k0 len : Nat} {v : Int32} (h0 : (celf B)[k0]? = some (fun I _ _ => .inl (0, len, .inl I))) (hl : len < 1000) (k : AH → Option AH) :
    ∀ (m n' j : Nat) (I : Nat → Nat → Int32), j + m = len → m < n' → (∀ a, a ≠ k0 → I a = Ia a) → (∀ i, i < j → I k0 i = v) →
    ∃ I' : Nat → Nat → Int32, fJ7_fill_53178_L5 (B + k0) v (nI len) k n' (nI j) (MK B n I L Q R) = k (MK B n I' L Q R) ∧ (∀ a, a ≠ k0 → I' a = Ia a) ∧ (∀ i, i < len → I' k0 i = v) := by
  intro m
  induction m with
  | zero =>
    intro n' j I hj hn hF hV
    obtain ⟨n1, rfl⟩ := suc_of hn
    rw [show j = len by omega] at hV ⊢
    refine ⟨I, ?_, hF, hV⟩
    rw [fJ7_fill_53178_L5]
    simp (disch := first | assumption | omega) only [ob1_some, ob2_some, bnd_eq, gd_true, oc_none, oc_some, ↓reduceIte, nI_add, nI_1, nI_leI, nI_ltI, nI_eq, l0, l1, l2, l3, L0, if_pos, if_neg, u2_eq, u2_ne]
  | succ m ih =>
    intro n' j I hj hn hF hV
    obtain ⟨n1, rfl⟩ := suc_of hn
    obtain ⟨I', r1, r2, r3⟩ := ih n1 (j + 1) (u2 I k0 j v) (by omega) (by omega) (fun a ha => by rw [u2_nk ha]; exact hF a ha) (fun i hi => by
      by_cases e : i = j
      · rw [e, u2_eq]
      · rw [u2_ne (Or.inr e)]; exact hV i (by omega))
    refine ⟨I', ?_, r2, r3⟩
    have hw := mk_sI (n := n) (I := I) (L := L) (Q := Q) (R := R) (v := v) h0 (show j < len by omega) (by omega)
    rw [← r1, fJ7_fill_53178_L5]
    simp (disch := first | assumption | omega) only [ob1_some, ob2_some, bnd_eq, gd_true, oc_none, oc_some, ↓reduceIte, nI_add, nI_1, nI_leI, nI_ltI, nI_eq, l0, l1, l2, l3, L0, if_pos, if_neg, u2_eq, u2_ne, hw]
theorem e_fill {B n : Nat} {I : Nat → Nat → Int32} {L : Nat → Nat → Int64} {Q : Nat → Nat → Option Nat} {R : Nat → RDt} {k0 len : Nat} {v : Int32} (h0 : (celf B)[k0]? = some (fun I _ _ => .inl (0, len, .inl I))) (hl : len < 1000) : ∃ I' : Nat → Nat → Int32, fJ7_fill_53178 (B + k0) v (MK B n I L Q R) = some (MK B n I' L Q R) ∧ (∀ a, a ≠ k0 → I' a = I a) ∧ (∀ i, i < len → I' k0 i = v) := by
  unfold fJ7_fill_53178
  rw [mk_aNk (x := fun I _ _ => .inl I) h0, ob1_some]
  exact e_fill_L5 h0 hl (fun (g7 : AH) => some g7) len lf 0 I (by omega) hl (fun _ _ => rfl) (fun i hi => absurd hi (Nat.not_lt_zero i))
theorem e_forget_L22 {B n : Nat} {Ia : Nat → Nat → Int32} {L : Nat → Nat → Int64} {Q : Nat → Nat → Option Nat} {R : Nat → RDt} {x : Nat} (hx : isS x) (k : AH → Option AH) :
    ∀ (m n' c : Nat) (I : Nat → Nat → Int32), c + m = 3 → m < n' → (∀ a, a < x + 3 ∨ x + 6 ≤ a → I a = Ia a) → (∀ c' j, c' < c → j < 211 → I (x + (3 + c')) j = nI 0) →
    ∃ I' : Nat → Nat → Int32, fX5_forget_L22 (B + x) k n' (nI c) (MK B n I L Q R) = k (MK B n I' L Q R) ∧ (∀ a, a < x + 3 ∨ x + 6 ≤ a → I' a = Ia a) ∧ (∀ c' j, c' < 3 → j < 211 → I' (x + (3 + c')) j = nI 0) := by
  intro m
  induction m with
  | zero =>
    intro n' c I hc hn hF hV
    obtain ⟨n1, rfl⟩ := suc_of hn
    rw [show c = 3 by omega] at hV ⊢
    refine ⟨I, ?_, hF, hV⟩
    rw [fX5_forget_L22]
    simp (disch := first | assumption | omega) only [ob1_some, ob2_some, bnd_eq, gd_true, oc_none, oc_some, ↓reduceIte, nI_add, nI_1, nI_leI, nI_ltI, nI_eq, l0, l1, l2, l3, L0, if_pos, if_neg, u2_eq, u2_ne]
  | succ m ih =>
    intro n' c I hc hn hF hV
    obtain ⟨n1, rfl⟩ := suc_of hn
    obtain ⟨I1, f1, f2, f3⟩ := e_fill (B := B) (n := n) (I := I) (L := L) (Q := Q) (R := R) (v := nI 0) (cS_rider (c := c) hx (by omega)) (by decide)
    obtain ⟨I', r1, r2, r3⟩ := ih n1 (c + 1) I1 (by omega) (by omega) (fun a ha => by rw [f2 a (by omega)]; exact hF a ha) (fun c' j h1 h2 => by
      by_cases e : c' = c
      · rw [e]; exact f3 j h2
      · rw [f2 _ (by omega)]; exact hV c' j (by omega) h2)
    refine ⟨I', ?_, r2, r3⟩
    rw [← r1, fX5_forget_L22]
    simp (disch := first | assumption | omega) only [ob1_some, ob2_some, bnd_eq, gd_true, oc_none, oc_some, ↓reduceIte, nI_add, nI_1, nI_leI, nI_ltI, nI_eq, l0, l1, l2, l3, L0, if_pos, if_neg, k_Steady, g_loads, g_riders, g_ssum, g_here, g_more, g_fares, g_stands, p_stands, g_steps, p_steps, a_loads, s_loads, n_loads, r_riders, a_here, s_here, a_more, s_more, a_fares, s_fares, a_rider, s_rider, n_rider, u2_eq, u2_ne, f1]
def z1 : SST := (fun _ => 0, fun _ _ => 0)
theorem e_forget {B n : Nat} {I : Nat → Nat → Int32} {L : Nat → Nat → Int64} {Q : Nat → Nat → Option Nat} {R : Nat → RDt} {x : Nat} (hx : isS x) : ∃ (I' : Nat → Nat → Int32) (L' : Nat → Nat → Int64), fX5_forget (B + x) (MK B n I L Q R) = some (MK B n I' L' Q R) ∧ (∀ a, a < x ∨ x + 7 ≤ a → I' a = I a) ∧ (∀ a, a ≠ x + 6 → L' a = L a) ∧ SumIs I' L' (x + 6) (0, false) ∧ I' x 4 = nI 0 ∧ LoadsIs I' x z1.1 z1.2 := by
  have hU := isU_S hx
  obtain ⟨I1, f1, f2, f3⟩ := e_fill (B := B) (n := n) (I := u2 (u2 I (x + 6) 1 0) x 4 0) (L := u2 L (x + 6) 0 0) (Q := Q) (R := R) (v := (0 : Int32)) (cS_loads hx) (by decide)
  obtain ⟨I2, g1, g2, g3⟩ := e_forget_L22 (B := B) (n := n) (L := u2 L (x + 6) 0 0) (Q := Q) (R := R) hx (fun (g20 : AH) => some g20) 3 lf 0 I1 rfl (by decide) (fun _ _ => rfl) (fun c' j h => absurd h (Nat.not_lt_zero c'))
  have er := e_reset (n := n) (I := I) (L := L) (Q := Q) (R := R) (B := B) hU
  refine ⟨I2, u2 L (x + 6) 0 0, ?_, fun a ha => ?_, fun a ha => u2_nk ha, ⟨u2_eq, ?_, Nat.zero_le _⟩, ?_, fun q hq => ?_, g3⟩
  · unfold fX5_forget
    have hk : ckO (MK B n I L Q R) (B + (x + 6)) 6 = true := k_Sum hU
    simp (disch := first | assumption | omega) only [ob1_some, ob2_some, bnd_eq, gd_true, oc_none, oc_some, ↓reduceIte, k_Steady, g_loads, g_riders, g_ssum, g_here, g_more, g_fares, g_stands, p_stands, g_steps, p_steps, a_loads, s_loads, n_loads, r_riders, a_here, s_here, a_more, s_more, a_fares, s_fares, a_rider, s_rider, n_rider, hk, er, f1]
    exact g1
  · rw [g2 a (by omega), f2 a (by omega), u2_nk (by omega), u2_nk (by omega)]
  · rw [g2 _ (by omega), f2 _ (by omega), u2_ne (by omega), u2_eq]; rfl
  · rw [g2 _ (by omega), f2 _ (by omega), u2_eq]; rfl
  · rw [g2 _ (by omega), f3 q hq]; rfl
def canF (N : NET) (rows : List ROW) : Nat → Nat → Bool
  | 0, _ => true
  | m + 1, c => if 0 < nC N c 1 ∧ cntTo rows (nC N c 0) rows.length = 0 then false else canF N rows m (c + 1)
def canAll (N : NET) (rows : List ROW) : Bool := canF N rows 3 0
theorem canF_is {N : NET} {rows : List ROW} : ∀ m c : Nat, canF N rows m c = true → ∀ d, c ≤ d → d < c + m → 0 < nC N d 1 → 0 < cntTo rows (nC N d 0) rows.length
  | 0, c, _, d, h1, h2 => by omega
  | m + 1, c, h, d, h1, h2 => by
    rw [canF] at h
    by_cases e : 0 < nC N c 1 ∧ cntTo rows (nC N c 0) rows.length = 0
    · rw [if_pos e] at h; cases h
    · rw [if_neg e] at h
      intro h3
      by_cases e2 : d = c
      · subst e2; omega
      · exact canF_is m (c + 1) h d (by omega) (by omega) h3
theorem e_can_L2 {B n : Nat} {I : Nat → Nat → Int32} {L : Nat → Nat → Int64} {Q : Nat → Nat → Option Nat} {R : Nat → RDt} {x y p : Nat} {N : NET} {A : Nat → Bool} {rows : List ROW} (hE : Env5 B n I L Q R x y p N A rows) : ∀ (m n' c : Nat), c + m = 3 → m < n' → fX5_canAllDrive_L2 (B + y) (B + p) (MK B n I L Q R) (some (1 : Int32)) n' (nI c) = some (bz (canF N rows m c)) := by
  obtain ⟨g1, g2, g3, g4, g5, g6, g7, g8, g10⟩ := id hE
  have hC := g4.2.2.2.2.2
  intro m
  induction m with
  | zero =>
    intro n' c hc hn
    obtain ⟨n1, rfl⟩ := suc_of hn
    rw [fX5_canAllDrive_L2, show c = 3 by omega]
    rfl
  | succ m ih =>
    intro n' c hc hn
    obtain ⟨n1, rfl⟩ := suc_of hn
    have hcb := g5.2.2.2.2 c (by omega)
    unfold CrN at hcb
    have := ih n1 (c + 1) (by omega) (by omega)
    have hcnt := e_countTo (n := n) (L := L) (Q := Q) (R := R) (B := B) (t := nC N c 0) g3 g6 (g7.all g5 g8) g10 (by omega)
    have hcl := cntTo_le rows (nC N c 0) rows.length
    have hk : ckO (MK B n I L Q R) (B + p) 2 = true := k_Paths g3
    have hC0 := hC c 0 (by omega) (by omega)
    have hC1 := hC c 1 (by omega) (by omega)
    rw [fX5_canAllDrive_L2]
    by_cases h0 : nC N c 1 = 0
    · rw [show canF N rows (m + 1) c = canF N rows m (c + 1) by rw [canF, if_neg (by omega)]]
      simp (disch := first | assumption | omega) only [ob1_some, ob2_some, bnd_eq, gd_true, oc_none, oc_some, ↓reduceIte, nI_add, nI_1, nI_leI, nI_ltI, nI_eq, l0, l1, l2, l3, L0, if_pos, if_neg, k_Net, g_towns, p_towns, g_size, p_size, g_roads, g_tolls, g_crowds, a_tolls, s_tolls, r_crowds, a_crowd, s_crowd, q_roads, w_roads, u2_eq, u2_ne, hC0, hC1, h0]
      exact this
    · by_cases h1 : cntTo rows (nC N c 0) rows.length = 0
      · rw [show canF N rows (m + 1) c = false by rw [canF, if_pos ⟨by omega, h1⟩]]
        simp (disch := first | assumption | omega) only [ob1_some, ob2_some, bnd_eq, gd_true, oc_none, oc_some, ↓reduceIte, nI_add, nI_1, nI_leI, nI_ltI, nI_eq, l0, l1, l2, l3, L0, if_pos, if_neg, k_Net, g_towns, p_towns, g_size, p_size, g_roads, g_tolls, g_crowds, a_tolls, s_tolls, r_crowds, a_crowd, s_crowd, q_roads, w_roads, u2_eq, u2_ne, hC0, hC1, hk, hcnt, h1]
        rfl
      · rw [show canF N rows (m + 1) c = canF N rows m (c + 1) by rw [canF, if_neg (by omega)]]
        simp (disch := first | assumption | omega) only [ob1_some, ob2_some, bnd_eq, gd_true, oc_none, oc_some, ↓reduceIte, nI_add, nI_1, nI_leI, nI_ltI, nI_eq, l0, l1, l2, l3, L0, if_pos, if_neg, k_Net, g_towns, p_towns, g_size, p_size, g_roads, g_tolls, g_crowds, a_tolls, s_tolls, r_crowds, a_crowd, s_crowd, q_roads, w_roads, u2_eq, u2_ne, hC0, hC1, hk, hcnt]
        exact this
theorem e_can {B n : Nat} {I : Nat → Nat → Int32} {L : Nat → Nat → Int64} {Q : Nat → Nat → Option Nat} {R : Nat → RDt} {x y p : Nat} {N : NET} {A : Nat → Bool} {rows : List ROW} (hE : Env5 B n I L Q R x y p N A rows) : fX5_canAllDrive (B + y) (B + p) (MK B n I L Q R) = some (bz (canAll N rows)) := by
  unfold fX5_canAllDrive
  exact e_can_L2 hE 3 lf 0 rfl (by decide)
/-- TOTAL of loads -/
def totN (N : NET) (ld : Nat → Nat) : Nat → Nat × Bool
  | 0 => (0, false)
  | r + 1 => sAdd (totN N ld r) (ld r) (rCost (nRd N r) (ld r))
theorem rCost_le {N : NET} {r x : Nat} (hO : NetOK N) (hr : r < nM N) (hx : x ≤ 37) : rCost (nRd N r) x ≤ 107400000000000000 := by
  obtain ⟨⟨k1, k2, k3, k4, k5, k6, k7⟩, _⟩ := hO.2.2.2.1 r hr
  have a1 : dSlope (nRd N r) * x ≤ 100000000000000 * 37 := Nat.mul_le_mul k3 hx
  have a2 : dSteep (nRd N r) * (x - dKnee (nRd N r)) ≤ 100000000000000 * 37 := Nat.mul_le_mul k4 (by omega)
  unfold rCost
  split <;> split <;> omega
theorem rLoss_le {N : NET} {r x : Nat} (hO : NetOK N) (hr : r < nM N) (hx : x ≤ 37) : rLoss (nRd N r) x ≤ 7200000000000000 := by
  obtain ⟨⟨k1, k2, k3, k4, k5, k6, k7⟩, _⟩ := hO.2.2.2.1 r hr
  have a4 : rGrow (nRd N r) x ≤ 200000000000000 := by
    unfold rGrow
    split <;> split <;> omega
  have a5 : rLoss (nRd N r) x ≤ 36 * 200000000000000 := Nat.mul_le_mul (by omega) a4
  omega
/-- adding up over a row of loads that no sum writes -/
theorem e_addUp_L6 {B n : Nat} {Ia : Nat → Nat → Int32} {La : Nat → Nat → Int64} {Q : Nat → Nat → Option Nat} {R : Nat → RDt} {u y kl : Nat} {N : NET} {ld : Nat → Nat} (hu : isU u) (hy : isN y) (hN : NetIs B n Ia La Q R y N) (hO : NetOK N) (hkl : (celf B)[kl]? = some (fun I _ _ => .inl (0, 13, .inl I))) (hne : kl ≠ u) (hl : ∀ q, q < nM N → Ia kl q = nI (ld q)) (hb : ∀ q, q < nM N → ld q ≤ 36) (k : AH → Option AH) :
    ∀ (m n' q : Nat) (I : Nat → Nat → Int32) (L : Nat → Nat → Int64), q + m = nM N → m < n' → (∀ a, a ≠ u → I a = Ia a) → (∀ a, a ≠ u → L a = La a) → (∀ j, j ≠ 0 → L u j = La u j) → SumIs I L u (totN N ld q) →
    ∃ (I' : Nat → Nat → Int32) (L' : Nat → Nat → Int64), fX1_addUp_L6 (B + y) (B + kl) (B + u) k n' (nI q) (MK B n I L Q R) = k (MK B n I' L' Q R) ∧ (∀ a, a ≠ u → I' a = Ia a) ∧ (∀ a, a ≠ u → L' a = La a) ∧ SumIs I' L' u (totN N ld (nM N)) := by
  have hap : u < y ∨ y + 7 ≤ u := by unfold isU at hu; unfold isN at hy; omega
  have h13 := hO.2.2.1
  intro m
  induction m with
  | zero =>
    intro n' q I L hq hn hF hG hG0 hS
    obtain ⟨n1, rfl⟩ := suc_of hn
    rw [show q = nM N by omega] at hS ⊢
    refine ⟨I, L, ?_, hF, hG, hS⟩
    have hM : I y 1 = nI (nM N) := by rw [hF y (by omega)]; exact hN.2.1
    rw [fX1_addUp_L6]
    simp (disch := first | assumption | omega) only [ob1_some, ob2_some, bnd_eq, gd_true, oc_none, oc_some, ↓reduceIte, nI_add, nI_1, nI_leI, nI_ltI, nI_eq, l0, l1, l2, l3, L0, if_pos, if_neg, k_Net, g_towns, p_towns, g_size, p_size, g_roads, g_tolls, g_crowds, a_tolls, s_tolls, r_crowds, a_crowd, s_crowd, q_roads, w_roads, u2_eq, u2_ne, hM]
  | succ m ih =>
    intro n' q I L hq hn hF hG hG0 hS
    obtain ⟨n1, rfl⟩ := suc_of hn
    have hM : I y 1 = nI (nM N) := by rw [hF y (by omega)]; exact hN.2.1
    have hld : I kl q = nI (ld q) := by rw [hF kl hne]; exact hl q (by omega)
    have hbq := hb q (by omega)
    have ha : aI (MK B n I L Q R) (B + kl) 0 (nI q) = some (nI (ld q)) := by rw [mk_aI hkl (by omega) (by decide), hld]
    have hv := hN.2.2.1 q (by omega)
    have hq1 := q_roads (B := B) (n := n) (I := I) (L := L) (R := R) hy (show q < 13 by omega) hv.1
    have hck := rd_ck (I := I) (L := L) (Q := Q) (R := R) hv.2
    have hcost := e_costAt (I := I) (L := L) (Q := Q) (x := ld q) hv.2 (hN.2.2.2.1 q (by omega)) (hO.2.2.2.1 q (by omega)).1 (by omega)
    have hku : ckO (MK B n I L Q R) (B + u) 6 = true := k_Sum hu
    have hcl := rCost_le hO (show q < nM N by omega) (show ld q ≤ 37 by omega)
    have hmx := mxL_eq
    obtain ⟨v', o', a1, a2, a3, a4⟩ := e_add (B := B) (n := n) (Q := Q) (R := R) (t := ld q) (e := rCost (nRd N q) (ld q)) hu hS (by omega) (by omega)
    rw [fX1_addUp_L6]
    by_cases h0 : ld q = 0
    · obtain ⟨I', L', r1, r2, r3, r4⟩ := ih n1 (q + 1) I L (by omega) (by omega) hF hG hG0 (by
        rw [totN, h0]
        have e := sAdd_0 (w := (totN N ld q).1) (o := (totN N ld q).2) (Nat.zero_mul (rCost (nRd N q) 0)) hS.2.2
        have e2 : ((totN N ld q).1, (totN N ld q).2) = totN N ld q := rfl
        rw [e2] at e
        rw [e]
        exact hS)
      refine ⟨I', L', ?_, r2, r3, r4⟩
      rw [← r1]
      simp (disch := first | assumption | omega) only [ob1_some, ob2_some, bnd_eq, gd_true, oc_none, oc_some, ↓reduceIte, nI_add, nI_1, nI_leI, nI_ltI, nI_eq, l0, l1, l2, l3, L0, if_pos, if_neg, k_Net, g_towns, p_towns, g_size, p_size, g_roads, g_tolls, g_crowds, a_tolls, s_tolls, r_crowds, a_crowd, s_crowd, q_roads, w_roads, u2_eq, u2_ne, hM, ha, h0]
    · obtain ⟨I', L', r1, r2, r3, r4⟩ := ih n1 (q + 1) (u2 I u 1 o') (u2 L u 0 v') (by omega) (by omega) (fun a ha => by rw [u2_nk ha]; exact hF a ha) (fun a ha => by rw [u2_nk ha]; exact hG a ha) (fun j hj => by rw [u2_ne (Or.inr hj)]; exact hG0 j hj) (by
        rw [totN]
        exact add_is a2 a3 a4)
      refine ⟨I', L', ?_, r2, r3, r4⟩
      rw [← r1]
      simp (disch := first | assumption | omega) only [ob1_some, ob2_some, bnd_eq, gd_true, oc_none, oc_some, ↓reduceIte, nI_add, nI_1, nI_leI, nI_ltI, nI_eq, l0, l1, l2, l3, L0, if_pos, if_neg, k_Net, g_towns, p_towns, g_size, p_size, g_roads, g_tolls, g_crowds, a_tolls, s_tolls, r_crowds, a_crowd, s_crowd, q_roads, w_roads, u2_eq, u2_ne, hM, ha, hq1, hck, hcost, hku, a1, nI_l]
theorem e_addUp {B n : Nat} {I : Nat → Nat → Int32} {L : Nat → Nat → Int64} {Q : Nat → Nat → Option Nat} {R : Nat → RDt} {u y kl : Nat} {N : NET} {ld : Nat → Nat} (hu : isU u) (hy : isN y) (hN : NetIs B n I L Q R y N) (hO : NetOK N) (hkl : (celf B)[kl]? = some (fun I _ _ => .inl (0, 13, .inl I))) (hne : kl ≠ u) (hl : ∀ q, q < nM N → I kl q = nI (ld q)) (hb : ∀ q, q < nM N → ld q ≤ 36) :
    ∃ (I' : Nat → Nat → Int32) (L' : Nat → Nat → Int64), fX1_addUp (B + y) (B + kl) (B + u) (MK B n I L Q R) = some (MK B n I' L' Q R) ∧ (∀ a, a ≠ u → I' a = I a) ∧ (∀ a, a ≠ u → L' a = L a) ∧ SumIs I' L' u (totN N ld (nM N)) := by
  have hap : u < y ∨ y + 7 ≤ u := by unfold isU at hu; unfold isN at hy; omega
  have h13 := hO.2.2.1
  have hN' : NetIs B n (u2 I u 1 0) (u2 L u 0 0) Q R y N := hN.same (fun k h1 h2 => u2_nk (by omega)) (u2_nk (by omega))
  obtain ⟨I', L', r1, r2, r3, r4⟩ := e_addUp_L6 (ld := ld) hu hy hN' hO hkl hne (fun q hq => by rw [u2_nk hne]; exact hl q hq) hb (fun (g26 : AH) => some g26) (nM N) lf 0 (u2 I u 1 0) (u2 L u 0 0) (by omega) (by show nM N < 1000; omega) (fun _ _ => rfl) (fun _ _ => rfl) (fun _ _ => rfl) reset_is
  refine ⟨I', L', ?_, fun a ha => by rw [r2 a ha, u2_nk ha], fun a ha => by rw [r3 a ha, u2_nk ha], r4⟩
  have hku : ckO (MK B n I L Q R) (B + u) 6 = true := k_Sum hu
  have er := e_reset (n := n) (I := I) (L := L) (Q := Q) (R := R) hu (B := B)
  unfold fX1_addUp
  rw [hku, gd_true, er, ob1_some]
  exact r1
