/-! the model's nearest ways -/
theorem lZ_T {d : Int} (h1 : -9000000000000000000 ≤ d) (h2 : d ≤ 9000000000000000000) : (lZ d).toInt = d := by
  unfold lZ
  rw [Int64.toInt_ofInt_of_le (by omega) (by omega)]
theorem lZ_sub (a b : Int) : lZ a - lZ b = lZ (a - b) := (Int64.ofInt_sub a b).symm
def codeR (N : NET) (t r : Nat) : Int32 := if dTo (nRd N r) = t then nI r else (-1 : Int32) - nI r
def farV (o : Option Int) : Int64 := match o with
  | some d => lZ d
  | none => 9223372036854775807
def FB (I : Nat → Nat → Int32) (L : Nat → Nat → Int64) (N : NET) (s : BFS) : Prop := (∀ t, t < 6 → L 124 t = farV (s.1 t)) ∧ ∀ t, t < 6 → t ≠ 0 → s.1 t ≠ none → I 125 t = codeR N t (s.2 t)
def FrF (I I' : Nat → Nat → Int32) (L L' : Nat → Nat → Int64) : Prop := (∀ a, a ≠ 125 → I' a = I a) ∧ ∀ a, a ≠ 124 → L' a = L a
theorem FrF.rf {I : Nat → Nat → Int32} {L : Nat → Nat → Int64} : FrF I I L L := ⟨fun _ _ => rfl, fun _ _ => rfl⟩
theorem FrF.tr {I I1 I2 : Nat → Nat → Int32} {L La Lb : Nat → Nat → Int64} (h : FrF I I1 L La) (g : FrF I1 I2 La Lb) : FrF I I2 L Lb := ⟨fun a h1 => by rw [g.1 a h1, h.1 a h1], fun a h1 => by rw [g.2 a h1, h.2 a h1]⟩
theorem m_tries {B n : Nat} {I : Nat → Nat → Int32} {L : Nat → Nat → Int64} {Q : Nat → Nat → Option Nat} {R : Nat → RDt} {N : NET} {s : BFS} {u v r : Nat} {l : Int} (hc : FB I L N s) (hb : Bnd s) (hl : -LB ≤ l ∧ l ≤ LB) (hu : u < 6) (hv : v < 6) :
    ∃ (I' : Nat → Nat → Int32) (L' : Nat → Nat → Int64), fX10_tries (B + 108) (nI u) (nI v) (lZ l) (codeR N v r) (MK B n I L Q R) = some (MK B n I' L' Q R) ∧ FB I' L' N (relax s u v r l) ∧ FrF I I' L L' := by
  obtain ⟨c1, c2⟩ := hc
  have hLB : LB = 114600000000000000 := rfl
  have a1 := c1 u hu
  have a2 := c1 v hv
  have hmx : (9223372036854775807 : Int64).toInt = 9223372036854775807 := rfl
  have hset : ∀ d : Int, betterB s u v l = some d → FB (u2 I 125 v (codeR N v r)) (u2 L 124 v (lZ d)) N (relax s u v r l) ∧ FrF I (u2 I 125 v (codeR N v r)) L (u2 L 124 v (lZ d)) := by
    intro d hd
    rw [relax_yes hd]
    refine ⟨⟨fun t ht => ?_, fun t ht h0 hm => ?_⟩, fun a h1 => u2_nk h1, fun a h1 => u2_nk h1⟩
    · show _ = farV (if t = v then some d else s.1 t)
      rw [mu2]
      by_cases e : t = v
      · rw [if_pos e, if_pos e]; rfl
      · rw [if_neg e, if_neg e]; exact c1 t ht
    · have hm : (if t = v then some d else s.1 t) ≠ none := hm
      show _ = codeR N t (if t = v then r else s.2 t)
      rw [mu2]
      by_cases e : t = v
      · rw [if_pos e, if_pos e, e]
      · rw [if_neg e, if_neg e]
        rw [if_neg e] at hm
        exact c2 t ht h0 hm
  unfold fX10_tries
  rw [g_Mfar, ob1_some, a_Mfar (by omega), ob1_some, a1]
  cases hsu : s.1 u with
  | none =>
    have hbt : betterB s u v l = none := by unfold betterB; rw [hsu]
    rw [relax_no hbt, if_pos (show (9223372036854775807 : Int64) ≤ farV none from Int64.le_refl _)]
    exact ⟨I, L, rfl, ⟨c1, c2⟩, FrF.rf⟩
  | some du =>
    have b1 := hb u du hsu
    rw [hsu] at a1
    have hn : ¬ (9223372036854775807 : Int64) ≤ farV (some du) := by
      show ¬ _ ≤ lZ du
      rw [Int64.le_iff_toInt_le, lZ_T (by omega) (by omega), hmx]
      omega
    have hsum : farV (some du) + lZ l = lZ (du + l) := lZ_add du l
    rw [if_neg hn, ob1_some, a_Mfar (by omega), ob1_some, ob1_some, a_Mfar (by omega), ob1_some, a1, a2, hsum]
    cases hsv : s.1 v with
    | none =>
      have hbt : betterB s u v l = some (du + l) := by unfold betterB; rw [hsu, hsv]
      obtain ⟨g1, g2⟩ := hset _ hbt
      have hz : ¬ farV none ≤ lZ (du + l) := by
        show ¬ (9223372036854775807 : Int64) ≤ lZ (du + l)
        rw [Int64.le_iff_toInt_le, lZ_T (by omega) (by omega), hmx]
        omega
      refine ⟨_, _, ?_, g1, g2⟩
      rw [if_neg hz, ob1_some, ob1_some, a_Mfar (by omega), ob1_some, a1, hsum, s_Mfar (by omega), ob1_some, g_Mby, ob1_some, s_Mby (by omega), ob1_some]
    | some dv =>
      have b2 := hb v dv hsv
      have hcmp : (farV (some dv) ≤ lZ (du + l)) = (dv ≤ du + l) := by
        show (lZ dv ≤ lZ (du + l)) = _
        rw [Int64.le_iff_toInt_le, lZ_T (by omega) (by omega), lZ_T (by omega) (by omega)]
      by_cases c : du + l < dv
      · have hbt : betterB s u v l = some (du + l) := by unfold betterB; rw [hsu, hsv]; exact if_pos c
        obtain ⟨g1, g2⟩ := hset _ hbt
        refine ⟨_, _, ?_, g1, g2⟩
        rw [if_neg (by rw [hcmp]; omega), ob1_some, ob1_some, a_Mfar (by omega), ob1_some, a1, hsum, s_Mfar (by omega), ob1_some, g_Mby, ob1_some, s_Mby (by omega), ob1_some]
      · have hbt : betterB s u v l = none := by unfold betterB; rw [hsu, hsv]; exact if_neg c
        rw [relax_no hbt, if_pos (by rw [hcmp]; omega)]
        exact ⟨I, L, rfl, ⟨c1, c2⟩, FrF.rf⟩
theorem m_allBy {B n : Nat} {I : Nat → Nat → Int32} {L : Nat → Nat → Int64} {Q : Nat → Nat → Option Nat} {R : Nat → RDt} {N : NET} {r x : Nat} (hM : MNet L 109 N) (hO : NetOK N) (hr : r < nM N) (hx : x ≤ 37) : fX10_allBy (B + 108) (nI r) (nI x) (MK B n I L Q R) = some (lN (allN N r x)) := by
  unfold fX10_allBy allN
  by_cases c : x = 0
  · rw [if_pos (by rw [c]; rfl), c, Nat.zero_mul]
    rfl
  · rw [if_neg (by rw [l0, nI_eq (by omega) (by omega)]; exact c), m_costBy hM hO hr (by omega), ob1_some, nI_l (by omega), lN_mul]
/-- the setting of the model's search -/
def EnvF (I : Nat → Nat → Int32) (L : Nat → Nat → Int64) (N : NET) (fl : Nat → Nat) : Prop := MNet L 109 N ∧ NetOK N ∧ (∀ q, q < 13 → I 122 q = nI (fl q)) ∧ ∀ q, q < nM N → fl q ≤ 35
theorem EnvF.fr {I I' : Nat → Nat → Int32} {L L' : Nat → Nat → Int64} {N : NET} {fl : Nat → Nat} (h : EnvF I L N fl) (hf : FrF I I' L L') : EnvF I' L' N fl := by
  obtain ⟨h1, h2, h3, h4⟩ := h
  refine ⟨?_, h2, fun q hq => by rw [hf.1 122 (by decide)]; exact h3 q hq, h4⟩
  unfold MNet at *
  rw [hf.2 109 (by decide)]
  exact h1
theorem m_far_L41 {B n : Nat} {Q : Nat → Nat → Option Nat} {R : Nat → RDt} {N : NET} {fl : Nat → Nat} {π : Nat → Int} {s0 : BFS} {x1 : Int32} (hf : Feas N fl π) (hw : OnR N fl) (k : AH → Option AH) : ∀ (m n' i : Nat) (I : Nat → Nat → Int32) (L : Nat → Nat → Int64), i + m = nM N → m < n' → EnvF I L N fl → FB I L N (rnd N fl i s0) → BI N fl π (rnd N fl i s0) →
    ∃ (I' : Nat → Nat → Int32) (L' : Nat → Nat → Int64), fX10_layFar_L41 (B + 108) x1 k n' (nI i) (MK B n I L Q R) = k (MK B n I' L' Q R) ∧ FB I' L' N (rnd N fl (nM N) s0) ∧ FrF I I' L L' ∧ EnvF I' L' N fl ∧ BI N fl π (rnd N fl (nM N) s0) := by
  intro m
  induction m with
  | zero =>
    intro n' i I L hl hn hE hF hi
    obtain ⟨n1, rfl⟩ := suc_of hn
    have h13 := hE.2.1.2.2.1
    rw [show i = nM N by omega] at hF hi ⊢
    refine ⟨I, L, ?_, hF, FrF.rf, hE, hi⟩
    rw [fX10_layFar_L41, m_roadMany hE.1 h13, ob1_some, if_pos (by rw [nI_leI (by omega) (by omega)]; omega)]
  | succ m ih =>
    intro n' i I L hl hn hE hF hi
    obtain ⟨n1, rfl⟩ := suc_of hn
    obtain ⟨h1, h3, h4, h5⟩ := id hE
    have h13 := h3.2.2.1
    have hq : i < nM N := by omega
    obtain ⟨⟨k1, k2, k3, k4, k5, k6, k7⟩, kf, kt, kne, ktl⟩ := h3.2.2.2.1 i hq
    have hb36 : ∀ r, r < nM N → fl r ≤ 36 := fun r hr => by have := h5 r hr; omega
    have hfq := h5 i hq
    have o0 : ∀ (I : Nat → Nat → Int32) (L : Nat → Nat → Int64), MNet L 109 N → fX10_ofRoad (B + 108) (nI i) 0 (MK B n I L Q R) = some (lN (dFrom (nRd N i))) := fun I L hM => m_ofRoad hM h13 hq (by decide : 0 < 8)
    have o1 : ∀ (I : Nat → Nat → Int32) (L : Nat → Nat → Int64), MNet L 109 N → fX10_ofRoad (B + 108) (nI i) 1 (MK B n I L Q R) = some (lN (dTo (nRd N i))) := fun I L hM => m_ofRoad hM h13 hq (by decide : 1 < 8)
    have e1 : Edge N fl (dFrom (nRd N i)) (dTo (nRd N i)) i (upN N i (fl i) : Int) := ⟨hq, Or.inl ⟨rfl, rfl, rfl⟩⟩
    have p1 : codeR N (dTo (nRd N i)) i = nI i := if_pos rfl
    have p2 : codeR N (dFrom (nRd N i)) i = (-1 : Int32) - nI i := if_neg (fun e => kne e.symm)
    have er : rnd N fl (i + 1) s0 = relaxR N fl (rnd N fl i s0) i := rfl
    obtain ⟨I1, L1, r1, r2, r3⟩ := m_tries (B := B) (n := n) (Q := Q) (R := R) (r := i) hF (hi.bnd hf) (edge_le h3 hb36 e1) k6 k7
    rw [p1] at r1
    have hi1 := hi.relax h3 hf hw hb36 e1
    have hE1 := hE.fr r3
    have hup : lN (allN N i (fl i + 1)) - lN (allN N i (fl i)) = lZ (upN N i (fl i) : Int) := by
      rw [lZ_nat, lZ_nat, lZ_sub, all_up]
      congr 1
      omega
    rw [fX10_layFar_L41, m_roadMany h1 h13, ob1_some, if_neg (by rw [nI_leI (by omega) (by omega)]; omega), o0 I L h1, ob1_some, bnd_eq, o1 I L h1, ob1_some, bnd_eq, l_toI (by omega), l_toI (by omega), g_Mflow, ob1_some, a_Mflow (by omega), ob1_some, h4 i (by omega), nI_1, m_allBy h1 h3 hq (by omega), ob1_some, ob1_some, a_Mflow (by omega), ob1_some, h4 i (by omega), m_allBy h1 h3 hq (by omega), ob1_some, hup, r1, ob1_some, g_Mflow, ob1_some, a_Mflow (by omega), ob1_some, hE1.2.2.1 i (by omega)]
    by_cases h0 : fl i = 0
    · have e2 : relaxR N fl (rnd N fl i s0) i = relax (rnd N fl i s0) (dFrom (nRd N i)) (dTo (nRd N i)) i (upN N i (fl i) : Int) := if_neg (by omega)
      obtain ⟨I2, L2, s1, s2, s3, s4⟩ := ih n1 (i + 1) I1 L1 (by omega) (by omega) hE1 (by rw [er, e2]; exact r2) (by rw [er, e2]; exact hi1)
      refine ⟨I2, L2, ?_, s2, r3.tr s3, s4⟩
      rw [if_pos (by rw [l0, nI_leI (by omega) (by omega)]; omega), bnd_eq, nI_1]
      exact s1
    · have e2 : relaxR N fl (rnd N fl i s0) i = relax (relax (rnd N fl i s0) (dFrom (nRd N i)) (dTo (nRd N i)) i (upN N i (fl i) : Int)) (dTo (nRd N i)) (dFrom (nRd N i)) i (-(dnN N i (fl i) : Int)) := if_pos (by omega)
      have e3 : Edge N fl (dTo (nRd N i)) (dFrom (nRd N i)) i (-(dnN N i (fl i) : Int)) := ⟨hq, Or.inr ⟨by omega, rfl, rfl, rfl⟩⟩
      obtain ⟨I2, L2, t1, t2, t3⟩ := m_tries (B := B) (n := n) (Q := Q) (R := R) (r := i) r2 (hi1.bnd hf) (edge_le h3 hb36 e3) k7 k6
      rw [p2] at t1
      have hi2 := hi1.relax h3 hf hw hb36 e3
      have hE2 := hE1.fr t3
      obtain ⟨g, hg⟩ : ∃ g, fl i = g + 1 := ⟨fl i - 1, by omega⟩
      have hdn : lN (allN N i (fl i - 1)) - lN (allN N i (fl i)) = lZ (-(dnN N i (fl i) : Int)) := by
        rw [lZ_nat, lZ_nat, lZ_sub, hg, Nat.add_sub_cancel, dn_up, all_up]
        congr 1
        omega
      obtain ⟨I3, L3, s1, s2, s3, s4⟩ := ih n1 (i + 1) I2 L2 (by omega) (by omega) hE2 (by rw [er, e2]; exact t2) (by rw [er, e2]; exact hi2)
      refine ⟨I3, L3, ?_, s2, (r3.tr t3).tr s3, s4⟩
      have hs1 : nI (fl i) - 1 = nI (fl i - 1) := pk_sub (show 1 ≤ fl i by omega)
      rw [if_neg (by rw [l0, nI_leI (by omega) (by omega)]; omega), ob1_some, a_Mflow (by omega), ob1_some, hE1.2.2.1 i (by omega), hs1, m_allBy hE1.1 h3 hq (by omega), ob1_some, ob1_some, a_Mflow (by omega), ob1_some, hE1.2.2.1 i (by omega), m_allBy hE1.1 h3 hq (by omega), ob1_some, hdn, t1, ob1_some, bnd_eq, nI_1]
      exact s1
theorem m_far_L33 {B n : Nat} {Q : Nat → Nat → Option Nat} {R : Nat → RDt} {N : NET} {fl : Nat → Nat} {π : Nat → Int} (hf : Feas N fl π) (hw : OnR N fl) (k : AH → Option AH) : ∀ (m n' i : Nat) (I : Nat → Nat → Int32) (L : Nat → Nat → Int64), i + m = 6 → m < n' → EnvF I L N fl → FB I L N (bfN N fl i) → BI N fl π (bfN N fl i) →
    ∃ (I' : Nat → Nat → Int32) (L' : Nat → Nat → Int64), fX10_layFar_L33 (B + 108) k n' (nI i) (MK B n I L Q R) = k (MK B n I' L' Q R) ∧ FB I' L' N (bfN N fl 6) ∧ FrF I I' L L' ∧ EnvF I' L' N fl := by
  intro m
  induction m with
  | zero =>
    intro n' i I L hl hn hE hF hi
    obtain ⟨n1, rfl⟩ := suc_of hn
    rw [show i = 6 by omega] at hF ⊢
    refine ⟨I, L, ?_, hF, FrF.rf, hE⟩
    rw [fX10_layFar_L33, if_pos (by decide)]
  | succ m ih =>
    intro n' i I L hl hn hE hF hi
    obtain ⟨n1, rfl⟩ := suc_of hn
    have h13 := hE.2.1.2.2.1
    obtain ⟨I1, L1, r1, r2, r3, r4, r5⟩ := m_far_L41 (B := B) (n := n) (Q := Q) (R := R) (x1 := nI i) (s0 := bfN N fl i) hf hw (fun (g56 : AH) =>
        bnd (nI i + (1 : Int32)) fun y57 =>
        fX10_layFar_L33 (B + 108) k n1 y57 g56) (nM N) lf 0 I L (by omega) (by show _ < 1000; omega) hE hF hi
    obtain ⟨I2, L2, s1, s2, s3, s4⟩ := ih n1 (i + 1) I1 L1 (by omega) (by omega) r4 r2 r5
    refine ⟨I2, L2, ?_, s2, r3.tr s3, s4⟩
    rw [fX10_layFar_L33, if_neg (by rw [l6, nI_leI (by omega) (by omega)]; omega)]
    refine r1.trans ?_
    rw [bnd_eq, nI_1]
    exact s1
theorem m_far_L2 {B n : Nat} {I : Nat → Nat → Int32} {Q : Nat → Nat → Option Nat} {R : Nat → RDt} (k : AH → Option AH) : ∀ (m n' i : Nat) (L : Nat → Nat → Int64), i + m = 6 → m < n' → (∀ t, t < i → L 124 t = farV (bf0.1 t)) →
    ∃ L' : Nat → Nat → Int64, fX10_layFar_L2 (B + 108) k n' (nI i) (MK B n I L Q R) = k (MK B n I L' Q R) ∧ (∀ t, t < 6 → L' 124 t = farV (bf0.1 t)) ∧ ∀ a, a ≠ 124 → L' a = L a := by
  intro m
  induction m with
  | zero =>
    intro n' i L hl hn hV
    obtain ⟨n1, rfl⟩ := suc_of hn
    refine ⟨L, ?_, fun t ht => hV t (by omega), fun _ _ => rfl⟩
    rw [fX10_layFar_L2, if_pos (by rw [l6, nI_leI (by omega) (by omega)]; omega)]
  | succ m ih =>
    intro n' i L hl hn hV
    obtain ⟨n1, rfl⟩ := suc_of hn
    obtain ⟨L', r1, r2, r3⟩ := ih n1 (i + 1) (u2 L 124 i (farV (bf0.1 i))) (by omega) (by omega) (fun t ht => by
      rw [mu2]
      by_cases e : t = i
      · rw [if_pos e, e]
      · rw [if_neg e]; exact hV t (by omega))
    refine ⟨L', ?_, r2, fun a ha => by rw [r3 a ha, u2_nk ha]⟩
    rw [fX10_layFar_L2, if_neg (by rw [l6, nI_leI (by omega) (by omega)]; omega), g_Mfar, ob1_some]
    by_cases e : i = 0
    · subst e
      rw [if_pos (show nI 0 = 0 from rfl), s_Mfar (by omega), ob1_some, bnd_eq, nI_1]
      exact r1
    · have ef : farV (bf0.1 i) = 9223372036854775807 := by
        have : bf0.1 i = none := if_neg e
        rw [this]
        rfl
      rw [ef] at r1
      rw [if_neg (by rw [l0, nI_eq (by omega) (by omega)]; exact e), s_Mfar (by omega), ob1_some, bnd_eq, nI_1]
      exact r1
theorem m_layFar {B n : Nat} {I : Nat → Nat → Int32} {L : Nat → Nat → Int64} {Q : Nat → Nat → Option Nat} {R : Nat → RDt} {N : NET} {fl : Nat → Nat} {π : Nat → Int} (hE : EnvF I L N fl) (hf : Feas N fl π) (hw : OnR N fl) : ∃ (I' : Nat → Nat → Int32) (L' : Nat → Nat → Int64), fX10_layFar (B + 108) (MK B n I L Q R) = some (MK B n I' L' Q R) ∧ FB I' L' N (bfN N fl 6) ∧ FrF I I' L L' ∧ EnvF I' L' N fl := by
  have hb36 : ∀ r, r < nM N → fl r ≤ 36 := fun r hr => by have := hE.2.2.2 r hr; omega
  obtain ⟨L1, r1, r2, r3⟩ := m_far_L2 (B := B) (n := n) (I := I) (Q := Q) (R := R) (fun (g11 : AH) =>
    fX10_layFar_L33 (B + 108) (fun (g59 : AH) =>
      some g59
    ) lf (0 : Int32) g11) 6 lf 0 L (by omega) (by decide) (fun t ht => absurd ht (Nat.not_lt_zero t))
  have hfr : FrF I I L L1 := ⟨fun _ _ => rfl, r3⟩
  have hB0 : BI N fl π (bfN N fl 0) := ⟨by
    obtain ⟨rk, hc, h6⟩ := bf_chain hE.2.1 hf hw 0
    exact ⟨rk, hc⟩, bf_up hE.2.1 hb36 0⟩
  obtain ⟨I2, L2, s1, s2, s3, s4⟩ := m_far_L33 (B := B) (n := n) (Q := Q) (R := R) hf hw (fun (g59 : AH) => some g59) 6 lf 0 I L1 (by omega) (by decide) (hE.fr hfr) ⟨r2, fun t ht h0 hm => absurd (if_neg h0) hm⟩ hB0
  exact ⟨I2, L2, r1.trans s1, s2, hfr.tr s3, s4⟩
