/-! the model's steps -/
def F2 (I I' : Nat → Nat → Int32) : Prop := ∀ a, a ≠ 120 → a ≠ 121 → I' a = I a
theorem F2.rf {I : Nat → Nat → Int32} : F2 I I := fun _ _ _ => rfl
theorem F2.tr {I I1 I2 : Nat → Nat → Int32} (h : F2 I I1) (g : F2 I1 I2) : F2 I I2 := fun a h1 h2 => by rw [g a h1 h2, h a h1 h2]
theorem SInv.pos {N : NET} {rows : List ROW} {s : SST} {D c j : Nat} (h : SInv N rows s D) (hc : c < 3) (hj : j < rows.length) : s.2 c j ≤ D := by
  rw [← h.2.1]
  show s.2 c j ≤ sumN 3 fun c => sumN rows.length fun j => s.2 c j * 1
  have h1 := sumN_ge (f := fun c => sumN rows.length fun j => s.2 c j * 1) 3 hc
  have h2 := sumN_ge (f := fun j => s.2 c j * 1) rows.length hj
  have e : s.2 c j * 1 = s.2 c j := Nat.mul_one _
  have h2 : s.2 c j * 1 ≤ _ := h2
  omega
theorem goal_sub {N : NET} {mode c j : Nat} {rows : List ROW} {s : SST} (h : ∀ q, hasQ rows j q = true → 0 < s.1 q) : gB N mode c s.1 (wRb (rowAt rows j)) = moreP N mode c (subR rows s c j).1 := by
  funext q
  show (if hasQ rows j q = true then pAt N mode c q (max 1 (s.1 q)) else pAt N mode c q (s.1 q + 1)) = pAt N mode c q ((if hasQ rows j q = true then s.1 q - 1 else s.1 q) + 1)
  by_cases e : hasQ rows j q = true
  · have := h q e
    rw [if_pos e, if_pos e, Nat.max_eq_right this, Nat.sub_add_cancel this]
  · rw [if_neg e, if_neg e]
def goS (rows : List ROW) (c : Nat) (s : SST) (j : Nat) (o : Option Nat) : SST := match o with
  | some b => addR rows (subR rows s c j) c b
  | none => s
theorem m_isLeft {B n : Nat} {I : Nat → Nat → Int32} {L : Nat → Nat → Int64} {Q : Nat → Nat → Option Nat} {R : Nat → RDt} {N : NET} {rows : List ROW} {mode c j D : Nat} {s : SST} (hE : EnvM I L N rows) (hm : mode < 3) (hc : c < 3) (hv : ValR N rows c j) (hR : RidM I N rows s) (hi : SInv N rows s (D + 1)) (hD : D + 1 ≤ 36) (h0 : 0 < s.2 c j) : ∃ I' : Nat → Nat → Int32, fX10_isLeft (B + 108) (nI mode) (nI c) (nI (cntTo rows (nC N c 0) j)) (MK B n I L Q R) = some (bz (goalR N mode rows c s j).isSome, MK B n I' L Q R) ∧ F2 I I' ∧ RidM I' N rows (goS rows c s j (goalR N mode rows c s j)) ∧ EnvM I' L N rows := by
  obtain ⟨hi2, hq0⟩ := hi.sub hc hv.2.1 h0
  obtain ⟨I1, r1, r2, r3, r4⟩ := m_sub (B := B) (n := n) (Q := Q) (R := R) hE hc hv hR h0 hq0
  have hld : ∀ q, q < 13 → (subR rows s c j).1 q ≤ 36 := fun q _ => by have := hi2.le q; omega
  have hex : ∀ i, some j = some i → ValR N rows c i := fun i h => by rw [← Option.some.inj h]; exact hv
  have p1 := m_priceMore (B := B) (n := n) (Q := Q) (R := R) (mode := mode) r4 hm hc hv r3.1 hld
  have p3 := fun (b : Nat) (hb : ValR N rows c b) => m_priceMore (B := B) (n := n) (Q := Q) (R := R) (mode := mode) r4 hm hc hb r3.1 hld
  have p2 := m_cheapest (B := B) (n := n) (Q := Q) (R := R) (mode := mode) (ex := some j) r4 hm hc hex r3.1 hld
  have p2 : fX10_cheapest (B + 108) (nI mode) (nI c) (nI (cntTo rows (nC N c 0) j)) (MK B n I1 L Q R) = _ := p2
  have hfr : ∀ i, i < rows.length → fareR rows (moreP N mode c (subR rows s c j).1) i ≤ 5500000000000000000 := fun i hi' => r4.2.2.1.fare_le r4.2.1 (fun q hq => pAt_le r4.2.1 hc hq (by have := hi2.le q; omega)) hi'
  have eg : goalR N mode rows c s j = (match lrow rows (fareR rows (moreP N mode c (subR rows s c j).1)) (nC N c 0) rows.length with
    | some b => if fareR rows (moreP N mode c (subR rows s c j).1) b < fareR rows (moreP N mode c (subR rows s c j).1) j then some b else none
    | none => none) := by
    unfold goalR fareB
    rw [if_pos h0, goal_sub hq0, hv.2.2]
    rfl
  obtain ⟨g1, g2⟩ := mrow_goal (rows := rows) (fr := fareR rows (moreP N mode c (subR rows s c j).1)) (t := nC N c 0) (j := j) rows.length
  -- he stays
  have stay : goalR N mode rows c s j = none → ∃ I' : Nat → Nat → Int32, (ob1 (fX10_goes (B + 108) (nI c) (nI (cntTo rows (nC N c 0) j)) (1 : Int32) (MK B n I1 L Q R)) fun g9 => some ((0 : Int32), g9)) = some (bz (goalR N mode rows c s j).isSome, MK B n I' L Q R) ∧ F2 I I' ∧ RidM I' N rows (goS rows c s j (goalR N mode rows c s j)) ∧ EnvM I' L N rows := fun hn => by
    obtain ⟨I2, s1, s2, s3, s4⟩ := m_add (B := B) (n := n) (Q := Q) (R := R) r4 hc hv r3
    rw [hn]
    refine ⟨I2, by rw [s1, ob1_some]; rfl, F2.tr r2 s2, s3.congr (fun q => ?_) (fun a b => ?_), s4⟩
    · show s.1 q = if hasQ rows j q = true then (if hasQ rows j q = true then s.1 q - 1 else s.1 q) + 1 else (if hasQ rows j q = true then s.1 q - 1 else s.1 q)
      by_cases e : hasQ rows j q = true
      · have := hq0 q e
        rw [if_pos e, if_pos e]
        omega
      · rw [if_neg e, if_neg e]
    · show s.2 a b = if a = c ∧ b = j then (if c = c ∧ j = j then s.2 c j - 1 else s.2 c j) + 1 else (if a = c ∧ b = j then s.2 c j - 1 else s.2 a b)
      by_cases e : a = c ∧ b = j
      · rw [if_pos e, if_pos ⟨rfl, rfl⟩, e.1, e.2]
        omega
      · rw [if_neg e, if_neg e]
  generalize fareR rows (moreP N mode c (subR rows s c j).1) = fr at *
  unfold fX10_isLeft
  rw [r1, ob1_some, p1, ob1_some, p2, ob1_some]
  simp only [bnd_eq, if_true]
  cases hmr : mrow rows fr (nC N c 0) (some j) rows.length with
  | none =>
    rw [if_pos (show encW rows (nC N c 0) none < 0 from (show (-1 : Int32) < 0 by decide))]
    refine stay ?_
    rw [eg]
    cases hl : lrow rows fr (nC N c 0) rows.length with
    | none => rfl
    | some b =>
      by_cases e : fr b < fr j
      · have := g1 b hl e
        rw [hmr] at this
        cases this
      · exact if_neg e
  | some b =>
    obtain ⟨b1, b2, b3⟩ := mrow_is _ hmr
    have hcl := cntTo_le rows (nC N c 0) b
    have hl5 := r4.2.2.2.1
    have hvb : ValR N rows c b := ⟨b1, b2, b3⟩
    have p3 := p3 b hvb
    have hfb := hfr b b2
    have hfj := hfr j hv.2.1
    have e0 : encW rows (nC N c 0) (some b) = nI (cntTo rows (nC N c 0) b) := rfl
    rw [e0, if_neg (nI_pos (by omega)), p3, ob1_some]
    by_cases e : fr j ≤ fr b
    · rw [if_pos (by rw [lN_leE (by omega) (by omega)]; exact e)]
      refine stay ?_
      rw [eg]
      cases hl : lrow rows fr (nC N c 0) rows.length with
      | none => rfl
      | some b' =>
        by_cases e2 : fr b' < fr j
        · have := g1 b' hl e2
          rw [hmr] at this
          have := Option.some.inj this
          rw [this] at e
          omega
        · exact if_neg e2
    · have eb : goalR N mode rows c s j = some b := by
        rw [eg, g2 b hmr (by omega)]
        exact if_pos (by omega)
      obtain ⟨I2, s1, s2, s3, s4⟩ := m_add (B := B) (n := n) (Q := Q) (R := R) r4 hc hvb r3
      rw [if_neg (by rw [lN_leE (by omega) (by omega)]; exact e), if_neg (by decide), s1, ob1_some, eb]
      exact ⟨I2, rfl, F2.tr r2 s2, s3, s4⟩
/-- no one of a class without drivers is anywhere -/
def Zr (N : NET) (s : SST) : Prop := ∀ c, c < 3 → nC N c 1 = 0 → ∀ j, s.2 c j = 0
theorem Zr.go {N : NET} {rows : List ROW} {s : SST} {c j : Nat} {b : Nat} (h : Zr N s) (hc : c < 3) (h0 : 0 < s.2 c j) : Zr N (addR rows (subR rows s c j) c b) := fun a ha h1 i => by
  have hne : a ≠ c := fun e => by
    rw [e] at h1
    have := h c hc h1 j
    omega
  show (if a = c ∧ i = b then (subR rows s c j).2 c b + 1 else (if a = c ∧ i = j then s.2 c j - 1 else s.2 a i)) = 0
  rw [if_neg (fun e => hne e.1), if_neg (fun e => hne e.1)]
  exact h a ha h1 i
theorem goal_inv {N : NET} {rows : List ROW} {mode c j b D : Nat} {s : SST} (hi : SInv N rows s D) (hc : c < 3) (hv : ValR N rows c j) (h : goalR N mode rows c s j = some b) : SInv N rows (addR rows (subR rows s c j) c b) D := by
  obtain ⟨g0, g1, g2, g3, g4, g5⟩ := goalR_is h
  have hp := hi.pos hc hv.2.1
  obtain ⟨D', rfl⟩ : ∃ D', D = D' + 1 := ⟨D - 1, by omega⟩
  exact (hi.sub hc hv.2.1 g0).1.add hc g1 g2 (by rw [g3]; exact hv.2.2)
theorem m_stepsOn_L9 {B n : Nat} {L : Nat → Nat → Int64} {Q : Nat → Nat → Option Nat} {R : Nat → RDt} {N : NET} {rows : List ROW} {mode c D : Nat} {s : SST} (hm : mode < 3) (hc : c < 3) (hi : SInv N rows s D) (hD : D ≤ 36) (hz : Zr N s) (k : AH → Option (Int32 × AH)) : ∀ (m n' i : Nat) (I : Nat → Nat → Int32), i + m = rows.length → 1 ≤ i → m < n' → EnvM I L N rows → RidM I N rows s →
    (∃ (s' : SST) (I' : Nat → Nat → Int32), stepR N mode rows c s m i = some s' ∧ fX10_stepsOn_L9 (B + 108) (nI mode) (nI c) k n' (nI (cntTo rows (nC N c 0) i)) (MK B n I L Q R) = some (1, MK B n I' L Q R) ∧ F2 I I' ∧ RidM I' N rows s' ∧ EnvM I' L N rows ∧ SInv N rows s' D ∧ Zr N s') ∨
    (∃ I' : Nat → Nat → Int32, stepR N mode rows c s m i = none ∧ fX10_stepsOn_L9 (B + 108) (nI mode) (nI c) k n' (nI (cntTo rows (nC N c 0) i)) (MK B n I L Q R) = k (MK B n I' L Q R) ∧ F2 I I' ∧ RidM I' N rows s ∧ EnvM I' L N rows) := by
  intro m
  induction m with
  | zero =>
    intro n' i I hl h1 hn hE hR
    obtain ⟨n1, rfl⟩ := suc_of hn
    have hl5 := hE.2.2.2.1
    have hcl := cntTo_le rows (nC N c 0) rows.length
    refine Or.inr ⟨I, rfl, ?_, F2.rf, hR, hE⟩
    rw [fX10_stepsOn_L9, g_MwayMany, ob1_some, a_MwayMany hc, ob1_some, (hE.2.2.2.2.2 c hc).1, show i = rows.length by omega, if_pos (by rw [nI_leI (by omega) (by omega)]; omega)]
  | succ m ih =>
    intro n' i I hl h1 hn hE hR
    have hl5 := hE.2.2.2.1
    by_cases c1 : wEnd (rowAt rows i) = nC N c 0
    · obtain ⟨n1, rfl⟩ := suc_of (show m < n' by omega)
      have hv : ValR N rows c i := ⟨h1, by omega, c1⟩
      have hlt := cntv_lt h1 c1 (show i < rows.length by omega)
      have hcl := cntTo_le rows (nC N c 0) rows.length
      have hw := (hE.way hc hv).1
      have ecnt : cntTo rows (nC N c 0) (i + 1) = cntTo rows (nC N c 0) i + 1 := by rw [cntTo, if_pos ⟨h1, c1⟩]
      have hp := hi.pos hc hv.2.1
      have hz' := fun J hJ hRJ => ih n1 (i + 1) J (by omega) (by omega) (by omega) hJ hRJ
      rw [ecnt] at hz'
      rw [fX10_stepsOn_L9, g_MwayMany, ob1_some, a_MwayMany hc, ob1_some, (hE.2.2.2.2.2 c hc).1, if_neg (by rw [nI_leI (by omega) (by omega)]; omega), g_MonWay, ob1_some, show (256 : Int32) = nI 256 from rfl, nI_mulx, nI_add, a_MonWay (by omega), ob1_some, hR.2 c hc i hv.1 hv.2.1 hv.2.2, stepR]
      by_cases c2 : 0 < s.2 c i
      · obtain ⟨D', rfl⟩ : ∃ D', D = D' + 1 := ⟨D - 1, by omega⟩
        obtain ⟨I1, r1, r2, r3, r4⟩ := m_isLeft (B := B) (n := n) (Q := Q) (R := R) hE hm hc hv hR hi hD c2
        rw [if_neg (by rw [l0, nI_leI (by omega) (by omega)]; omega), r1, ob2_some]
        cases hg : goalR N mode rows c s i with
        | none =>
          rw [hg] at r3
          rw [if_pos (show bz (none : Option Nat).isSome = 0 from rfl), bnd_eq, nI_1]
          rcases hz' I1 r4 r3 with ⟨s', I2, a1, a2, a3, a4⟩ | ⟨I2, a1, a2, a3, a4⟩
          · exact Or.inl ⟨s', I2, a1, a2, r2.tr a3, a4⟩
          · exact Or.inr ⟨I2, a1, a2, r2.tr a3, a4⟩
        | some b =>
          rw [hg] at r3
          rw [if_neg (show ¬ bz (some b).isSome = 0 from (show ¬ bz true = 0 by decide))]
          exact Or.inl ⟨addR rows (subR rows s c i) c b, I1, rfl, rfl, r2, r3, r4, goal_inv hi hc hv hg, hz.go hc c2⟩
      · have hg : goalR N mode rows c s i = none := if_neg c2
        rw [if_pos (by rw [l0, nI_leI (by omega) (by omega)]; omega), hg, bnd_eq, nI_1]
        exact hz' I hE hR
    · have ecnt : cntTo rows (nC N c 0) (i + 1) = cntTo rows (nC N c 0) i := by rw [cntTo, if_neg (fun h => c1 h.2)]; rfl
      have hg : goalR N mode rows c s i = none := if_neg (fun h => c1 (hi.2.2 c i hc (by omega) h).2.2)
      have := ih n' (i + 1) I (by omega) (by omega) (by omega) hE hR
      rw [ecnt] at this
      rw [stepR, hg]
      exact this
theorem stepR_zero {N : NET} {rows : List ROW} {mode c : Nat} {s : SST} (h : ∀ j, s.2 c j = 0) : ∀ m i, stepR N mode rows c s m i = none
  | 0, _ => rfl
  | m + 1, i => by
    have hg : goalR N mode rows c s i = none := if_neg (by rw [h i]; exact Nat.lt_irrefl 0)
    rw [stepR, hg]
    exact stepR_zero h m (i + 1)
theorem m_stepsOn_L2 {B n : Nat} {L : Nat → Nat → Int64} {Q : Nat → Nat → Option Nat} {R : Nat → RDt} {N : NET} {rows : List ROW} {mode D : Nat} {s : SST} (hm : mode < 3) (hi : SInv N rows s D) (hD : D ≤ 36) (hz : Zr N s) (k : AH → Option (Int32 × AH)) : ∀ (m n' c : Nat) (I : Nat → Nat → Int32), c + m = 3 → m < n' → EnvM I L N rows → RidM I N rows s →
    (∃ (s' : SST) (I' : Nat → Nat → Int32), stepC N mode rows s m c = some s' ∧ fX10_stepsOn_L2 (B + 108) (nI mode) k n' (nI c) (MK B n I L Q R) = some (1, MK B n I' L Q R) ∧ F2 I I' ∧ RidM I' N rows s' ∧ EnvM I' L N rows ∧ SInv N rows s' D ∧ Zr N s') ∨
    (∃ I' : Nat → Nat → Int32, stepC N mode rows s m c = none ∧ fX10_stepsOn_L2 (B + 108) (nI mode) k n' (nI c) (MK B n I L Q R) = k (MK B n I' L Q R) ∧ F2 I I' ∧ RidM I' N rows s ∧ EnvM I' L N rows) := by
  intro m
  induction m with
  | zero =>
    intro n' c I hc hn hE hR
    obtain ⟨n1, rfl⟩ := suc_of hn
    refine Or.inr ⟨I, rfl, ?_, F2.rf, hR, hE⟩
    rw [fX10_stepsOn_L2, if_pos (by rw [l3, nI_leI (by omega) (by omega)]; omega)]
  | succ m ih =>
    intro n' c I hc hn hE hR
    obtain ⟨n1, rfl⟩ := suc_of hn
    have hl5 := hE.2.2.2.1
    have hl1 := hE.2.2.2.2.1
    have es : stepC N mode rows s (m + 1) c = (match stepR N mode rows c s (rows.length - 1) 1 with
      | some s' => some s'
      | none => stepC N mode rows s m (c + 1)) := by
      rw [stepC]
      by_cases e : nC N c 1 = 0
      · rw [if_pos e, stepR_zero (hz c (by omega) e)]
      · rw [if_neg e]
        rfl
    rw [es, fX10_stepsOn_L2, if_neg (by rw [l3, nI_leI (by omega) (by omega)]; omega)]
    have h9 := m_stepsOn_L9 (B := B) (n := n) (L := L) (Q := Q) (R := R) hm (show c < 3 by omega) hi hD hz (fun (g17 : AH) =>
        bnd (nI c + (1 : Int32)) fun y18 =>
        fX10_stepsOn_L2 (B + 108) (nI mode) k n1 y18 g17) (rows.length - 1) lf 1 I (by omega) (by omega) (by show _ < 1000; omega) hE hR
    rw [cntTo_1] at h9
    rcases h9 with ⟨s', I2, a1, a2, a3⟩ | ⟨I2, a1, a2, a3, a4, a5⟩
    · rw [a1]
      exact Or.inl ⟨s', I2, rfl, a2, a3⟩
    · rw [a1]
      rcases ih n1 (c + 1) I2 (by omega) (by omega) a5 a4 with ⟨s', I3, b1, b2, b3, b4⟩ | ⟨I3, b1, b2, b3, b4⟩
      · refine Or.inl ⟨s', I3, b1, a2.trans ?_, a3.tr b3, b4⟩
        rw [bnd_eq, nI_1]
        exact b2
      · refine Or.inr ⟨I3, b1, a2.trans ?_, a3.tr b3, b4⟩
        rw [bnd_eq, nI_1]
        exact b2
/-! settling -/
def F3 (I I' : Nat → Nat → Int32) : Prop := (∀ a, a ≠ 108 → a ≠ 120 → a ≠ 121 → I' a = I a) ∧ ∀ j, j ≠ 18 → I' 108 j = I 108 j
theorem F3.rf {I : Nat → Nat → Int32} : F3 I I := ⟨fun _ _ _ _ => rfl, fun _ _ => rfl⟩
theorem F3.tr {I I1 I2 : Nat → Nat → Int32} (h : F3 I I1) (g : F3 I1 I2) : F3 I I2 := ⟨fun a h1 h2 h3 => by rw [g.1 a h1 h2 h3, h.1 a h1 h2 h3], fun j hj => by rw [g.2 j hj, h.2 j hj]⟩
theorem F2.f3 {I I' : Nat → Nat → Int32} (h : F2 I I') : F3 I I' := ⟨fun a _ h2 h3 => h a h2 h3, fun j _ => by rw [h 108 (by decide) (by decide)]⟩
theorem m_steady_L133 {B n : Nat} {L : Nat → Nat → Int64} {Q : Nat → Nat → Option Nat} {R : Nat → RDt} {N : NET} {rows : List ROW} {mode D : Nat} (hm : mode < 3) (hD : D ≤ 36) (k : AH → Option (Int32 × AH)) : ∀ (m n' cnt : Nat) (s : SST) (I : Nat → Nat → Int32), cnt + m = 400 → m < n' → SInv N rows s D → Zr N s → EnvM I L N rows → RidM I N rows s → I 108 18 = nI cnt →
    ∃ I' : Nat → Nat → Int32, fX10_steady_L133 (B + 108) (nI mode) k n' (MK B n I L Q R) = k (MK B n I' L Q R) ∧ F3 I I' ∧ RidM I' N rows (stepsN N mode rows m (s, cnt)).1 ∧ EnvM I' L N rows ∧ I' 108 18 = nI (stepsN N mode rows m (s, cnt)).2 ∧ SInv N rows (stepsN N mode rows m (s, cnt)).1 D ∧ (stepsN N mode rows m (s, cnt)).2 ≤ 400 := by
  intro m
  induction m with
  | zero =>
    intro n' cnt s I hc hn hi hz hE hR h18
    obtain ⟨n1, rfl⟩ := suc_of hn
    refine ⟨I, ?_, F3.rf, hR, hE, h18, hi, by show cnt ≤ 400; omega⟩
    rw [fX10_steady_L133, g_MstepMany, ob1_some, h18, if_pos (by rw [show (400 : Int32) = nI 400 from rfl, nI_leI (by omega) (by omega)]; omega)]
  | succ m ih =>
    intro n' cnt s I hc hn hi hz hE hR h18
    obtain ⟨n1, rfl⟩ := suc_of hn
    have h2 := m_stepsOn_L2 (B := B) (n := n) (L := L) (Q := Q) (R := R) hm hi hD hz (fun (g20 : AH) => some ((0 : Int32), g20)) 3 lf 0 I (by omega) (by decide) hE hR
    rw [fX10_steady_L133, g_MstepMany, ob1_some, h18, if_neg (by rw [show (400 : Int32) = nI 400 from rfl, nI_leI (by omega) (by omega)]; omega), stepsN]
    unfold fX10_stepsOn
    rcases h2 with ⟨s', I2, a1, a2, a3, a4, a5, a6, a7⟩ | ⟨I2, a1, a2, a3, a4, a5⟩
    · have a2 : fX10_stepsOn_L2 (B + 108) (nI mode) (fun (g20 : AH) => some ((0 : Int32), g20)) lf 0 (MK B n I L Q R) = some (1, MK B n I2 L Q R) := a2
      have e18 : I2 108 18 = nI cnt := by rw [a3 108 (by decide) (by decide)]; exact h18
      rw [a2, ob2_some, if_neg (by decide), g_MstepMany, ob1_some, e18, nI_1, p_MstepMany, ob1_some, a1]
      obtain ⟨I3, b1, b2, b3⟩ := ih n1 (cnt + 1) s' (u2 I2 108 18 (nI (cnt + 1))) (by omega) (by omega) a6 a7 (a5.same (u2_nk (by decide)) (u2_nk (by decide)) (u2_nk (by decide))) ⟨fun q hq => by rw [u2_nk (by decide)]; exact a4.1 q hq, fun c hc j j1 j2 j3 => by rw [u2_nk (by decide)]; exact a4.2 c hc j j1 j2 j3⟩ u2_eq
      refine ⟨I3, b1, (a3.f3.tr ⟨fun a h1 _ _ => u2_nk h1, fun j hj => u2_ne (by omega)⟩).tr b2, b3⟩
    · have a2 : fX10_stepsOn_L2 (B + 108) (nI mode) (fun (g20 : AH) => some ((0 : Int32), g20)) lf 0 (MK B n I L Q R) = some (0, MK B n I2 L Q R) := a2
      rw [a2, ob2_some, if_pos rfl, a1]
      exact ⟨I2, rfl, a3.f3, a4, a5, by rw [a3 108 (by decide) (by decide)]; exact h18, hi, by show cnt ≤ 400; omega⟩
