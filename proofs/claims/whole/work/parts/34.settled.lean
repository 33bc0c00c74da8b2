def arrAll (N : NET) (mode : Nat) (rows : List ROW) : Nat → SST
  | 0 => z1
  | c + 1 => arrv N mode rows c (nC N c 1) (arrAll N mode rows c)
def nD (N : NET) (c : Nat) : Nat := sumN c fun c => nC N c 1
theorem nD_le {N : NET} (hO : NetOK N) : ∀ c, c ≤ 3 → nD N c ≤ 12 * c := by
  intro c hc
  have := sumN_le (f := fun c => nC N c 1) (b := 12) c (fun j hj => (hO.2.2.2.2 j (by omega)).2.2.1)
  unfold nD
  omega
theorem z1_inv {N : NET} {rows : List ROW} : SInv N rows z1 0 := by
  have h : ∀ g, S2 rows z1.2 g = 0 := fun g => by
    unfold S2
    have : ∀ c, c < 3 → (sumN rows.length fun j => z1.2 c j * g j) = 0 := fun c _ => by
      rw [sumN_cong (f := fun j => z1.2 c j * g j) (g := fun _ => 0) rows.length (fun j _ => Nat.zero_mul (g j)), sumN_zero]
    rw [sumN_cong (g := fun _ => 0) 3 this, sumN_zero]
  exact ⟨fun q => (h _).symm, h _, fun c j _ _ hp => absurd hp (Nat.lt_irrefl 0)⟩
def stF (N : NET) (mode : Nat) (rows : List ROW) : SST × Nat := stepsN N mode rows 400 (arrAll N mode rows 3, 0)
theorem e_settle_L24 {B n : Nat} {Ia : Nat → Nat → Int32} {La : Nat → Nat → Int64} {Q : Nat → Nat → Option Nat} {R : Nat → RDt} {x y p mode : Nat} {N : NET} {A : Nat → Bool} {rows : List ROW} (hm : mode < 3) (hE : Env5 B n Ia La Q R x y p N A rows) (hw : canAll N rows = true) (k : AH → Option AH) :
    ∀ (m n' c : Nat) (I : Nat → Nat → Int32) (L : Nat → Nat → Int64), c + m = 3 → m < n' → SFr x Ia I La L → LoadsIs I x (arrAll N mode rows c).1 (arrAll N mode rows c).2 → SInv N rows (arrAll N mode rows c) (nD N c) →
    ∃ (I' : Nat → Nat → Int32) (L' : Nat → Nat → Int64), fX5_settle_L24 (B + x) (B + y) (B + p) (nI mode) k n' (nI c) (MK B n I L Q R) = k (MK B n I' L' Q R) ∧ SFr x Ia I' La L' ∧ LoadsIs I' x (arrAll N mode rows 3).1 (arrAll N mode rows 3).2 ∧ SInv N rows (arrAll N mode rows 3) (nD N 3) := by
  have hO := hE.2.2.2.2.1
  intro m
  induction m with
  | zero =>
    intro n' c I L hc hn hF hl hi
    obtain ⟨n1, rfl⟩ := suc_of hn
    rw [show c = 3 by omega] at hl hi ⊢
    refine ⟨I, L, ?_, hF, hl, hi⟩
    rw [fX5_settle_L24]
    simp (disch := first | assumption | omega) only [ob1_some, ob2_some, bnd_eq, gd_true, oc_none, oc_some, ↓reduceIte, nI_add, nI_1, nI_leI, nI_ltI, nI_eq, l0, l1, l2, l3, L0, if_pos, if_neg, u2_eq, u2_ne]
  | succ m ih =>
    intro n' c I L hc hn hF hl hi
    obtain ⟨n1, rfl⟩ := suc_of hn
    have hd := nD_le hO (c + 1) (by omega)
    have hds : nD N (c + 1) = nD N c + nC N c 1 := rfl
    obtain ⟨I1, L1, r1, r2, r3, r4⟩ := e_arrive (D := nD N c) hm (show c < 3 by omega) (by omega) (canF_is 3 0 hw c (by omega) (by omega)) (hE.fr hF) hF.2.2 hl hi
    obtain ⟨I', L', s1, s2, s3, s4⟩ := ih n1 (c + 1) I1 L1 (by omega) (by omega) (hF.tr r2) r3 r4
    refine ⟨I', L', ?_, s2, s3, s4⟩
    rw [← s1, fX5_settle_L24]
    simp (disch := first | assumption | omega) only [ob1_some, ob2_some, bnd_eq, gd_true, oc_none, oc_some, ↓reduceIte, nI_add, nI_1, nI_leI, nI_ltI, nI_eq, l0, l1, l2, l3, L0, if_pos, if_neg, u2_eq, u2_ne, r1]
/-- what a whole settling writes -/
def TFr (x : Nat) (I I' : Nat → Nat → Int32) (L L' : Nat → Nat → Int64) : Prop := (∀ a, a < x ∨ x + 10 ≤ a → I' a = I a) ∧ (∀ a, a < x ∨ x + 10 ≤ a → L' a = L a)
theorem TFr.tr {x : Nat} {I I1 I2 : Nat → Nat → Int32} {L La Lb : Nat → Nat → Int64} (h : TFr x I I1 L La) (g : TFr x I1 I2 La Lb) : TFr x I I2 L Lb := ⟨fun a ha => by rw [g.1 a ha, h.1 a ha], fun a ha => by rw [g.2 a ha, h.2 a ha]⟩
theorem SFr.t {x : Nat} {I I1 : Nat → Nat → Int32} {L La : Nat → Nat → Int64} (h : SFr x I I1 L La) : TFr x I I1 L La := ⟨fun a ha => h.1 a (by omega), fun a ha => h.2.1 a (by omega) (by omega) (by omega)⟩
theorem Env5.tfr {B n : Nat} {I : Nat → Nat → Int32} {L : Nat → Nat → Int64} {Q : Nat → Nat → Option Nat} {R : Nat → RDt} {I' : Nat → Nat → Int32} {L' : Nat → Nat → Int64} {x y p : Nat} {N : NET} {A : Nat → Bool} {rows : List ROW} (h : Env5 B n I L Q R x y p N A rows) (hf : TFr x I I' L L') : Env5 B n I' L' Q R x y p N A rows := by
  obtain ⟨h1, h2, h3, h4, h5, h6, h7⟩ := h
  have a1 : y + 7 ≤ x ∨ x + 10 ≤ y := by unfold isS at h1; unfold isN at h2; omega
  have a2 : p + 7 ≤ x ∨ x + 10 ≤ p := by unfold isS at h1; unfold isP at h3; omega
  exact ⟨h1, h2, h3, h4.same (fun k g1 g2 => hf.1 k (by omega)) (hf.2 _ (by omega)), h5, h6.same (fun k g1 g2 => hf.1 k (by omega)), h7⟩
theorem e_settle_L48 {B n : Nat} {Ia : Nat → Nat → Int32} {La : Nat → Nat → Int64} {Q : Nat → Nat → Option Nat} {R : Nat → RDt} {x y p mode D : Nat} {N : NET} {A : Nat → Bool} {rows : List ROW} {v3 : Int32} (hm : mode < 3) (hE : Env5 B n Ia La Q R x y p N A rows) (hD : D ≤ 36) (hp : ∀ c, c < 3 → nC N c 1 ≠ 0 → 1 ≤ D) (k : AH → Option AH) :
    ∀ (m n' i : Nat) (I : Nat → Nat → Int32) (L : Nat → Nat → Int64) (s : SST) (st : Nat), i + m = 400 → m < n' → TFr x Ia I La L → L (x + 9) 0 = lN 0 → LoadsIs I x s.1 s.2 → SInv N rows s D → I x 3 = v3 → I x 4 = nI st →
    ∃ (I' : Nat → Nat → Int32) (L' : Nat → Nat → Int64), fX5_settle_L48 (B + x) (B + y) (B + p) (nI mode) k n' (nI i) (MK B n I L Q R) = k (MK B n I' L' Q R) ∧ TFr x Ia I' La L' ∧ L' (x + 9) 0 = lN 0 ∧ LoadsIs I' x (stepsN N mode rows m (s, st)).1.1 (stepsN N mode rows m (s, st)).1.2 ∧ SInv N rows (stepsN N mode rows m (s, st)).1 D ∧ I' x 3 = v3 ∧ I' x 4 = nI (stepsN N mode rows m (s, st)).2 := by
  intro m
  induction m with
  | zero =>
    intro n' i I L s st hc hn hF h9 hl hi h3 h4
    obtain ⟨n1, rfl⟩ := suc_of hn
    refine ⟨I, L, ?_, hF, h9, hl, hi, h3, h4⟩
    have c1 : (400 : Int32) ≤ nI i := by rw [show (400 : Int32) = nI 400 from rfl, nI_leI (by omega) (by omega)]; omega
    rw [fX5_settle_L48, if_pos c1]
  | succ m ih =>
    intro n' i I L s st hc hn hF h9 hl hi h3 h4
    obtain ⟨n1, rfl⟩ := suc_of hn
    have hx := hE.1
    have hEL := hE.tfr hF
    have c1 : ¬ (400 : Int32) ≤ nI i := by rw [show (400 : Int32) = nI 400 from rfl, nI_leI (by omega) (by omega)]; omega
    rw [fX5_settle_L48, if_neg c1, stepsN]
    rcases e_step hEL hm hD hp hl hi h9 with ⟨s', I1, L1, r1, r2, r3, r4, r5⟩ | ⟨L1, r1, r2, r3⟩
    · rw [r1]
      have hs : I1 x 4 = nI st := by rw [r3.1 x (by omega)]; exact h4
      have h3' : I1 x 3 = v3 := by rw [r3.1 x (by omega)]; exact h3
      obtain ⟨I', L', t1, t2, t3, t4, t5, t6, t7⟩ := ih n1 (i + 1) (u2 I1 x 4 (nI (st + 1))) L1 s' (st + 1) (by omega) (by omega) (hF.tr (r3.t.tr ⟨fun a ha => u2_nk (by omega), fun _ _ => rfl⟩)) r3.2.2 ⟨fun q hq => by rw [u2_ne (by omega)]; exact r4.1 q hq, fun c j h1 h2 => by rw [u2_ne (by omega)]; exact r4.2 c j h1 h2⟩ r5 (by rw [u2_ne (by omega)]; exact h3') u2_eq
      refine ⟨I', L', ?_, t2, t3, t4, t5, t6, t7⟩
      rw [← t1]
      simp (disch := first | assumption | omega) only [ob1_some, ob2_some, bnd_eq, gd_true, oc_none, oc_some, ↓reduceIte, nI_add, nI_1, nI_leI, nI_ltI, nI_eq, l0, l1, l2, l3, L0, if_pos, if_neg, k_Steady, g_loads, g_riders, g_ssum, g_here, g_more, g_fares, g_stands, p_stands, g_steps, p_steps, a_loads, s_loads, n_loads, r_riders, a_here, s_here, a_more, s_more, a_fares, s_fares, a_rider, s_rider, n_rider, u2_eq, u2_ne, r2, hs]
    · rw [r1]
      refine ⟨I, L1, ?_, hF.tr r3.t, r3.2.2, hl, hi, h3, h4⟩
      simp (disch := first | assumption | omega) only [ob1_some, ob2_some, bnd_eq, gd_true, oc_none, oc_some, ↓reduceIte, nI_add, nI_1, nI_leI, nI_ltI, nI_eq, l0, l1, l2, l3, L0, if_pos, if_neg, k_Steady, g_loads, g_riders, g_ssum, g_here, g_more, g_fares, g_stands, p_stands, g_steps, p_steps, a_loads, s_loads, n_loads, r_riders, a_here, s_here, a_more, s_more, a_fares, s_fares, a_rider, s_rider, n_rider, u2_eq, u2_ne, r2]
/-- a steady's cells -/
def SteadyIs (I : Nat → Nat → Int32) (L : Nat → Nat → Int64) (x : Nat) (N : NET) (mode : Nat) (rows : List ROW) : Prop :=
  I x 3 = bz (canAll N rows) ∧ (canAll N rows = true → LoadsIs I x (stF N mode rows).1.1 (stF N mode rows).1.2 ∧ I x 4 = nI (stF N mode rows).2 ∧ SumIs I L (x + 6) (totN N (stF N mode rows).1.1 (nM N)) ∧ SInv N rows (stF N mode rows).1 (nD N 3))
theorem SteadyIs.same {I I' : Nat → Nat → Int32} {L L' : Nat → Nat → Int64} {x mode : Nat} {N : NET} {rows : List ROW} (h : SteadyIs I L x N mode rows) (hI : ∀ a, x ≤ a → a < x + 7 → I' a = I a) (hL : L' (x + 6) = L (x + 6)) : SteadyIs I' L' x N mode rows := by
  refine ⟨by rw [hI x (by omega) (by omega)]; exact h.1, fun hc => ?_⟩
  obtain ⟨h1, h2, ⟨h3, h4, h5⟩, h6⟩ := h.2 hc
  exact ⟨⟨fun q hq => by rw [hI _ (by omega) (by omega)]; exact h1.1 q hq, fun c j hc hj => by rw [hI _ (by omega) (by omega)]; exact h1.2 c j hc hj⟩, by rw [hI x (by omega) (by omega)]; exact h2, ⟨by rw [hL]; exact h3, by rw [hI _ (by omega) (by omega)]; exact h4, h5⟩, h6⟩
theorem e_settle {B n : Nat} {I : Nat → Nat → Int32} {L : Nat → Nat → Int64} {Q : Nat → Nat → Option Nat} {R : Nat → RDt} {x y p mode : Nat} {N : NET} {A : Nat → Bool} {rows : List ROW} (hm : mode < 3) (hE : Env5 B n I L Q R x y p N A rows) (h9 : L (x + 9) 0 = lN 0) :
    ∃ (I' : Nat → Nat → Int32) (L' : Nat → Nat → Int64), fX5_settle (B + x) (B + y) (B + p) (nI mode) (MK B n I L Q R) = some (MK B n I' L' Q R) ∧ TFr x I I' L L' ∧ L' (x + 9) 0 = lN 0 ∧ SteadyIs I' L' x N mode rows := by
  have hx := hE.1
  have hO := hE.2.2.2.2.1
  obtain ⟨I1, L1, f1, f2, f3, f4, f5, f6⟩ := e_forget (B := B) (n := n) (I := I) (L := L) (Q := Q) (R := R) hx
  have hT1 : TFr x I I1 L L1 := ⟨fun a ha => f2 a (by omega), fun a ha => f3 a (by omega)⟩
  have hE1 := hE.tfr hT1
  have hcan := e_can hE1
  have h91 : L1 (x + 9) 0 = lN 0 := by rw [f3 _ (by omega)]; exact h9
  have hT2 : TFr x I1 (u2 I1 x 3 (bz (canAll N rows))) L1 L1 := ⟨fun a ha => u2_nk (by omega), fun _ _ => rfl⟩
  have hE2 := hE1.tfr hT2
  have hzb : zb (bz (canAll N rows)) = true := by cases canAll N rows <;> decide
  unfold fX5_settle
  cases hw : canAll N rows with
  | false =>
    rw [hw] at hcan hT2
    refine ⟨u2 I1 x 3 (bz false), L1, ?_, hT1.tr hT2, h91, by rw [hw]; exact u2_eq, fun h => by rw [hw] at h; cases h⟩
    have hz : zb (bz false) = true := by decide
    have hz2 : (bz false = (0 : Int32)) = True := eq_true (by decide)
    simp (disch := first | assumption | omega) only [ob1_some, ob2_some, bnd_eq, gd_true, oc_none, oc_some, ↓reduceIte, k_Steady, g_loads, g_riders, g_ssum, g_here, g_more, g_fares, g_stands, p_stands, g_steps, p_steps, a_loads, s_loads, n_loads, r_riders, a_here, s_here, a_more, s_more, a_fares, s_fares, a_rider, s_rider, n_rider, f1, hcan, hz, hz2, u2_eq, if_true]
  | true =>
    rw [hw] at hcan hT2 hE2
    obtain ⟨I2, L2, g1, g2, g3, g4⟩ := e_settle_L24 hm hE2 hw (fun (g14 : AH) =>
      fX5_settle_L48 (B + x) (B + y) (B + p) (nI mode) (fun (g25 : AH) =>
        ob1 (gR g25 (B + x) 5 0) fun b26 =>
        ob1 (gR g25 (B + x) 5 2) fun b28 =>
        gd (ckO g25 (B + y) 1) <|
        ob1 (fX1_addUp (B + y) b26 b28 g25) fun g31 =>
        some g31
      ) lf (0 : Int32) g14) 3 lf 0 (u2 I1 x 3 (bz true)) L1 rfl (by decide) ⟨fun _ _ => rfl, fun _ _ _ _ => rfl, h91⟩ ⟨fun q hq => by rw [u2_ne (by omega)]; exact f6.1 q hq, fun c j h1 h2 => by rw [u2_ne (by omega)]; exact f6.2 c j h1 h2⟩ z1_inv
    have hd3 := nD_le hO 3 (by omega)
    have hT3 := g2.t
    have hE3 := hE2.tfr hT3
    obtain ⟨I3, L3, k1, k2, k3, k4, k5, k6, k7⟩ := e_settle_L48 (D := nD N 3) (v3 := bz true) hm hE3 hd3 (fun c hc h0 => by
      have := sumN_ge (f := fun c => nC N c 1) 3 hc
      unfold nD
      omega) (fun (g25 : AH) =>
        ob1 (gR g25 (B + x) 5 0) fun b26 =>
        ob1 (gR g25 (B + x) 5 2) fun b28 =>
        gd (ckO g25 (B + y) 1) <|
        ob1 (fX1_addUp (B + y) b26 b28 g25) fun g31 =>
        some g31) 400 lf 0 I2 L2 (arrAll N mode rows 3) 0 rfl (by decide) ⟨fun _ _ => rfl, fun _ _ => rfl⟩ g2.2.2 g3 g4 (by rw [g2.1 x (by omega), u2_eq]) (by rw [g2.1 x (by omega), u2_ne (by omega)]; exact f5)
    have hE4 := hE3.tfr k2
    obtain ⟨_, hy, hp, hN4, _⟩ := id hE4
    have hU := isU_S hx
    have hle : ∀ q, (stF N mode rows).1.1 q ≤ 36 := fun q => Nat.le_trans (k5.le q) hd3
    obtain ⟨I4, L4, a1, a2, a3, a4⟩ := e_addUp (kl := x + 1) (ld := (stF N mode rows).1.1) hU hy hN4 hO (cS_loads hx) (by omega) (fun q hq => k4.1 q (by have := hO.2.2.1; omega)) (fun q _ => hle q)
    refine ⟨I4, L4, ?_, hT1.tr (hT2.tr (hT3.tr (k2.tr ⟨fun a ha => a2 a (by omega), fun a ha => a3 a (by omega)⟩))), by rw [a3 _ (by omega)]; exact k3, by rw [hw, a2 x (by omega)]; exact k6, fun _ => ⟨⟨fun q hq => by rw [a2 _ (by omega)]; exact k4.1 q hq, fun c j h1 h2 => by rw [a2 _ (by omega)]; exact k4.2 c j h1 h2⟩, by rw [a2 x (by omega)]; exact k7, a4, k5⟩⟩
    have hz : zb (bz true) = true := by decide
    have hz2 : (bz true = (0 : Int32)) = False := eq_false (by decide)
    rw [f1, ob1_some, hcan, ob1_some, hz, gd_true, p_stands hx, ob1_some, g_stands hx, ob1_some, u2_eq, if_neg (by decide)]
    refine g1.trans (k1.trans ?_)
    rw [g_loads hx, ob1_some, g_ssum hx, ob1_some, k_Net hy, gd_true, a1, ob1_some]
