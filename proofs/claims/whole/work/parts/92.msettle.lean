theorem arrv_ok {N : NET} {rows : List ROW} {mode c D : Nat} {s : SST} (hc : c < 3) (hw : 0 < nC N c 1 → 0 < cntTo rows (nC N c 0) rows.length) (hi : SInv N rows s D) (hz : Zr N s) : ∀ k, k ≤ nC N c 1 → SInv N rows (arrv N mode rows c k s) (D + k) ∧ Zr N (arrv N mode rows c k s) ∧ (k < nC N c 1 → ∃ b, lrow rows (fareR rows (moreP N mode c (arrv N mode rows c k s).1)) (nC N c 0) rows.length = some b ∧ arrv N mode rows c (k + 1) s = addR rows (arrv N mode rows c k s) c b)
  | 0, h => by
    refine ⟨hi, hz, fun g => ?_⟩
    obtain ⟨b, hb⟩ := lrow_some (rows := rows) (fr := fareR rows (moreP N mode c s.1)) (t := nC N c 0) rows.length (hw g)
    refine ⟨b, hb, ?_⟩
    show (match lrow rows (fareR rows (moreP N mode c s.1)) (nC N c 0) rows.length with | some b => addR rows s c b | none => s) = addR rows s c b
    rw [hb]
  | k + 1, h => by
    obtain ⟨i1, i2, i3⟩ := arrv_ok (mode := mode) hc hw hi hz k (by omega)
    obtain ⟨b, b1, b2⟩ := i3 (by omega)
    have hb := lrow_is _ b1
    refine ⟨?_, ?_, fun g => ?_⟩
    · rw [b2]
      exact i1.add hc hb.1 hb.2.1 hb.2.2
    · rw [b2]
      intro a ha h1 i
      show (if a = c ∧ i = b then (arrv N mode rows c k s).2 c b + 1 else (arrv N mode rows c k s).2 a i) = 0
      rw [if_neg (fun e => by rw [e.1] at h1; omega)]
      exact i2 a ha h1 i
    · obtain ⟨b', hb'⟩ := lrow_some (rows := rows) (fr := fareR rows (moreP N mode c (arrv N mode rows c (k + 1) s).1)) (t := nC N c 0) rows.length (hw (by omega))
      refine ⟨b', hb', ?_⟩
      show (match lrow rows (fareR rows (moreP N mode c (arrv N mode rows c (k + 1) s).1)) (nC N c 0) rows.length with | some b => addR rows (arrv N mode rows c (k + 1) s) c b | none => arrv N mode rows c (k + 1) s) = _
      rw [hb']
theorem arrAll_ok {N : NET} {rows : List ROW} {mode : Nat} (hw : canAll N rows = true) : ∀ c, c ≤ 3 → SInv N rows (arrAll N mode rows c) (nD N c) ∧ Zr N (arrAll N mode rows c)
  | 0, _ => ⟨z1_inv, fun _ _ _ _ => rfl⟩
  | c + 1, h => by
    obtain ⟨i1, i2⟩ := arrAll_ok (mode := mode) hw c (by omega)
    have := arrv_ok (mode := mode) (show c < 3 by omega) (fun g => canF_is 3 0 hw c (by omega) (by omega) g) i1 i2 (nC N c 1) (Nat.le_refl _)
    exact ⟨this.1, this.2.1⟩
theorem m_steady_L96 {B n : Nat} {L : Nat → Nat → Int64} {Q : Nat → Nat → Option Nat} {R : Nat → RDt} {N : NET} {rows : List ROW} {mode c D : Nat} {s : SST} (hm : mode < 3) (hc : c < 3) (hw : 0 < nC N c 1 → 0 < cntTo rows (nC N c 0) rows.length) (hi : SInv N rows s D) (hz : Zr N s) (hD : D + nC N c 1 ≤ 36) (k : AH → Option (Int32 × AH)) : ∀ (m n' i : Nat) (I : Nat → Nat → Int32), i + m = nC N c 1 → m < n' → EnvM I L N rows → RidM I N rows (arrv N mode rows c i s) →
    ∃ I' : Nat → Nat → Int32, fX10_steady_L96 (B + 108) (nI mode) (nI c) k n' (nI i) (MK B n I L Q R) = k (MK B n I' L Q R) ∧ F2 I I' ∧ RidM I' N rows (arrv N mode rows c (nC N c 1) s) ∧ EnvM I' L N rows := by
  intro m
  induction m with
  | zero =>
    intro n' i I hl hn hE hR
    obtain ⟨n1, rfl⟩ := suc_of hn
    rw [show i = nC N c 1 by omega] at hR ⊢
    have f1 : fX10_ofClass (B + 108) (nI c) 1 (MK B n I L Q R) = some (lN (nC N c 1)) := m_ofClass hE.1 hc (by decide : 1 < 4)
    refine ⟨I, ?_, F2.rf, hR, hE⟩
    rw [fX10_steady_L96, f1, ob1_some, nI_l (by omega), if_pos (Int64.le_refl _)]
  | succ m ih =>
    intro n' i I hl hn hE hR
    obtain ⟨n1, rfl⟩ := suc_of hn
    have f1 : fX10_ofClass (B + 108) (nI c) 1 (MK B n I L Q R) = some (lN (nC N c 1)) := m_ofClass hE.1 hc (by decide : 1 < 4)
    obtain ⟨i1, i2, i3⟩ := arrv_ok (mode := mode) hc hw hi hz i (by omega)
    obtain ⟨b, b1, b2⟩ := i3 (by omega)
    have hb := lrow_is _ b1
    have p2 := m_cheapest (B := B) (n := n) (Q := Q) (R := R) (mode := mode) (ex := none) hE hm hc (fun j h => by cases h) hR.1 (fun q _ => by have := i1.le q; omega)
    have p2 : fX10_cheapest (B + 108) (nI mode) (nI c) (-1) (MK B n I L Q R) = _ := p2
    rw [mrow_none, b1] at p2
    have hvb : ValR N rows c b := ⟨hb.1, hb.2.1, hb.2.2⟩
    obtain ⟨I1, r1, r2, r3, r4⟩ := m_add (B := B) (n := n) (Q := Q) (R := R) hE hc hvb hR
    rw [← b2] at r3
    obtain ⟨I2, s1, s2, s3⟩ := ih n1 (i + 1) I1 (by omega) (by omega) r4 r3
    refine ⟨I2, ?_, F2.tr r2 s2, s3⟩
    have e0 : encW rows (nC N c 0) (some b) = nI (cntTo rows (nC N c 0) b) := rfl
    rw [fX10_steady_L96, f1, ob1_some, nI_l (by omega), if_neg (by rw [lN_leE (by omega) (by omega)]; omega), p2, ob1_some, e0, r1, ob1_some, bnd_eq, nI_1]
    exact s1
theorem m_steady_L89 {B n : Nat} {L : Nat → Nat → Int64} {Q : Nat → Nat → Option Nat} {R : Nat → RDt} {N : NET} {rows : List ROW} {mode : Nat} (hO : NetOK N) (hm : mode < 3) (hw : canAll N rows = true) (k : AH → Option (Int32 × AH)) : ∀ (m n' c : Nat) (I : Nat → Nat → Int32), c + m = 3 → m < n' → EnvM I L N rows → RidM I N rows (arrAll N mode rows c) →
    ∃ I' : Nat → Nat → Int32, fX10_steady_L89 (B + 108) (nI mode) k n' (nI c) (MK B n I L Q R) = k (MK B n I' L Q R) ∧ F2 I I' ∧ RidM I' N rows (arrAll N mode rows 3) ∧ EnvM I' L N rows := by
  intro m
  induction m with
  | zero =>
    intro n' c I hl hn hE hR
    obtain ⟨n1, rfl⟩ := suc_of hn
    rw [show c = 3 by omega] at hR ⊢
    refine ⟨I, ?_, F2.rf, hR, hE⟩
    rw [fX10_steady_L89, if_pos (by decide)]
  | succ m ih =>
    intro n' c I hl hn hE hR
    obtain ⟨n1, rfl⟩ := suc_of hn
    obtain ⟨i1, i2⟩ := arrAll_ok (mode := mode) hw c (by omega)
    have hd := nD_le hO (c + 1) (by omega)
    have hds : nD N (c + 1) = nD N c + nC N c 1 := rfl
    have hn12 := (hO.2.2.2.2 c (by omega)).2.2.1
    obtain ⟨I1, r1, r2, r3, r4⟩ := m_steady_L96 (B := B) (n := n) (L := L) (Q := Q) (R := R) (c := c) hm (by omega) (fun g => canF_is 3 0 hw c (by omega) (by omega) g) i1 i2 (by omega) (fun (g38 : AH) =>
        bnd (nI c + (1 : Int32)) fun y39 =>
        fX10_steady_L89 (B + 108) (nI mode) k n1 y39 g38) (nC N c 1) lf 0 I (by omega) (by show _ < 1000; omega) hE hR
    obtain ⟨I2, s1, s2, s3⟩ := ih n1 (c + 1) I1 (by omega) (by omega) r4 r3
    refine ⟨I2, ?_, F2.tr r2 s2, s3⟩
    rw [fX10_steady_L89, if_neg (by rw [l3, nI_leI (by omega) (by omega)]; omega)]
    refine r1.trans ?_
    rw [bnd_eq, nI_1]
    exact s1
theorem m_steady_L54 {B n : Nat} {I : Nat → Nat → Int32} {L : Nat → Nat → Int64} {Q : Nat → Nat → Option Nat} {R : Nat → RDt} {N : NET} {rows : List ROW} {x1 : Int32} (hE : EnvM I L N rows) (k : Option (Int32 × AH)) : ∀ (m n' c : Nat), c + m = 3 → m < n' → fX10_steady_L54 (B + 108) x1 (MK B n I L Q R) k n' (nI c) = if canF N rows m c = true then k else some (0, (MK B n I L Q R)) := by
  intro m
  induction m with
  | zero =>
    intro n' c hl hn
    obtain ⟨n1, rfl⟩ := suc_of hn
    rw [fX10_steady_L54, if_pos (by rw [l3, nI_leI (by omega) (by omega)]; omega)]
    rfl
  | succ m ih =>
    intro n' c hl hn
    obtain ⟨n1, rfl⟩ := suc_of hn
    have hl5 := hE.2.2.2.1
    have hn12 := (hE.2.1.2.2.2.2 c (by omega)).2.2.1
    have hcl := cntTo_le rows (nC N c 0) rows.length
    have f1 : fX10_ofClass (B + 108) (nI c) 1 (MK B n I L Q R) = some (lN (nC N c 1)) := m_ofClass hE.1 (by omega) (by decide : 1 < 4)
    rw [fX10_steady_L54, if_neg (by rw [l3, nI_leI (by omega) (by omega)]; omega), f1, ob1_some]
    by_cases c1 : 0 < nC N c 1
    · rw [if_neg (by rw [L0, lN_leE (by omega) (by omega)]; omega), g_MwayMany, ob1_some, a_MwayMany (by omega), ob1_some, (hE.2.2.2.2.2 c (by omega)).1]
      by_cases c2 : cntTo rows (nC N c 0) rows.length = 0
      · have e : canF N rows (m + 1) c = false := if_pos ⟨c1, c2⟩
        rw [if_pos (by rw [c2]; rfl), e, if_neg (by decide)]
      · have e : canF N rows (m + 1) c = canF N rows m (c + 1) := if_neg (fun h => c2 h.2)
        rw [if_neg (by rw [l0, nI_eq (by omega) (by omega)]; exact c2), e, bnd_eq, nI_1]
        exact ih n1 (c + 1) (by omega) (by omega)
    · have e : canF N rows (m + 1) c = canF N rows m (c + 1) := if_neg (fun h => c1 h.1)
      rw [if_pos (by rw [L0, lN_leE (by omega) (by omega)]; omega), e, bnd_eq, nI_1]
      exact ih n1 (c + 1) (by omega) (by omega)
theorem m_steady_L6 {B n : Nat} {L : Nat → Nat → Int64} {Q : Nat → Nat → Option Nat} {R : Nat → RDt} {x1 : Int32} (k : AH → Option (Int32 × AH)) : ∀ (m n' i : Nat) (I : Nat → Nat → Int32), i + m = 13 → m < n' → (∀ q, q < i → I 120 q = 0) → ∃ I' : Nat → Nat → Int32, fX10_steady_L6 (B + 108) x1 k n' (nI i) (MK B n I L Q R) = k (MK B n I' L Q R) ∧ (∀ a, a ≠ 120 → I' a = I a) ∧ ∀ q, q < 13 → I' 120 q = 0 := by
  intro m
  induction m with
  | zero =>
    intro n' i I hl hn hz
    obtain ⟨n1, rfl⟩ := suc_of hn
    refine ⟨I, ?_, fun _ _ => rfl, fun q hq => hz q (by omega)⟩
    rw [fX10_steady_L6, if_pos (by rw [l13, nI_leI (by omega) (by omega)]; omega)]
  | succ m ih =>
    intro n' i I hl hn hz
    obtain ⟨n1, rfl⟩ := suc_of hn
    obtain ⟨I', r1, r2, r3⟩ := ih n1 (i + 1) (u2 I 120 i 0) (by omega) (by omega) (fun q hq => by
      rw [mu2]
      by_cases e : q = i
      · rw [if_pos e]
      · rw [if_neg e]; exact hz q (by omega))
    refine ⟨I', ?_, fun a ha => by rw [r2 a ha, u2_nk ha], r3⟩
    rw [fX10_steady_L6, if_neg (by rw [l13, nI_leI (by omega) (by omega)]; omega), g_Mloads, ob1_some, s_Mloads (by omega), ob1_some, bnd_eq, nI_1]
    exact r1
theorem m_steady_L27 {B n : Nat} {L : Nat → Nat → Int64} {Q : Nat → Nat → Option Nat} {R : Nat → RDt} {x1 : Int32} (k : AH → Option (Int32 × AH)) : ∀ (m n' i : Nat) (I : Nat → Nat → Int32), i + m = 768 → m < n' → (∀ q, q < i → I 121 q = 0) → ∃ I' : Nat → Nat → Int32, fX10_steady_L27 (B + 108) x1 k n' (nI i) (MK B n I L Q R) = k (MK B n I' L Q R) ∧ (∀ a, a ≠ 121 → I' a = I a) ∧ ∀ q, q < 768 → I' 121 q = 0 := by
  intro m
  induction m with
  | zero =>
    intro n' i I hl hn hz
    obtain ⟨n1, rfl⟩ := suc_of hn
    refine ⟨I, ?_, fun _ _ => rfl, fun q hq => hz q (by omega)⟩
    rw [fX10_steady_L27, if_pos (by rw [show (768 : Int32) = nI 768 from rfl, nI_leI (by omega) (by omega)]; omega)]
  | succ m ih =>
    intro n' i I hl hn hz
    obtain ⟨n1, rfl⟩ := suc_of hn
    obtain ⟨I', r1, r2, r3⟩ := ih n1 (i + 1) (u2 I 121 i 0) (by omega) (by omega) (fun q hq => by
      rw [mu2]
      by_cases e : q = i
      · rw [if_pos e]
      · rw [if_neg e]; exact hz q (by omega))
    refine ⟨I', ?_, fun a ha => by rw [r2 a ha, u2_nk ha], r3⟩
    rw [fX10_steady_L27, if_neg (by rw [show (768 : Int32) = nI 768 from rfl, nI_leI (by omega) (by omega)]; omega), g_MonWay, ob1_some, s_MonWay (by omega), ob1_some, bnd_eq, nI_1]
    exact r1
/-! all the ways -/
theorem WaysR.lay {I I' : Nat → Nat → Int32} {N : NET} {b c : Nat} {rows : List ROW} (hO : NetOK N) (hW : WFr N tA rows) (hl : rows.length ≤ 211) (h : WaysR I b (nC N b 0) rows) (hf : LayF c I I') (hb : b < 3) (hne : b ≠ c) : WaysR I' b (nC N b 0) rows := by
  obtain ⟨h1, h2⟩ := h
  obtain ⟨f1, f2⟩ := hf.2 b hne hb
  refine ⟨by rw [f1]; exact h1, fun j j1 j2 j3 => ?_⟩
  have hcl := cntTo_le rows (nC N b 0) j
  obtain ⟨g1, g2⟩ := h2 j j1 j2 j3
  obtain ⟨f3, f4⟩ := f2 (cntTo rows (nC N b 0) j) (by omega)
  have h5 := (hW.fact hO (j + 1) j _ (by omega) (rowAt_get j2)).len
  exact ⟨by rw [f3]; exact g1, fun i hi => by rw [f4 i (by omega)]; exact g2 i hi⟩
theorem tA_rows (N : NET) : rowsOf N tA = rowsN N := rfl
theorem rowsN_zero (N : NET) : rowAt (rowsN N) 0 = row0 := (rows_wf N tA).zero (rows_pos N tA)
theorem m_layWays2 {B n : Nat} {I : Nat → Nat → Int32} {L : Nat → Nat → Int64} {Q : Nat → Nat → Option Nat} {R : Nat → RDt} {N : NET} {c : Nat} (hO : NetOK N) (hM : MNet L 109 N) (hc : c < 3) :
    ∃ I' : Nat → Nat → Int32, fX10_layWays (B + 108) (nI c) (MK B n I L Q R) = some (MK B n I' L Q R) ∧ WaysR I' c (nC N c 0) (rowsN N) ∧ LayF c I I' := by
  have h0 : nC N c 0 ≠ 0 := by have := (hO.2.2.2.2 c hc).1; omega
  obtain ⟨I', r1, r2, r3⟩ := m_layWays (B := B) (n := n) (I := I) (Q := Q) (R := R) hO hM hc rfl
  exact ⟨I', r1, r2.rows h0 (rowsN_zero N), r3⟩
theorem m_layAll_L2 {B n : Nat} {L : Nat → Nat → Int64} {Q : Nat → Nat → Option Nat} {R : Nat → RDt} {N : NET} (hO : NetOK N) (hM : MNet L 109 N) (k : AH → Option AH) : ∀ (m n' c : Nat) (I : Nat → Nat → Int32), c + m = 3 → m < n' → (∀ b, b < c → WaysR I b (nC N b 0) (rowsN N)) → ∃ I' : Nat → Nat → Int32, fX10_layAllWays_L2 (B + 108) k n' (nI c) (MK B n I L Q R) = k (MK B n I' L Q R) ∧ (∀ b, b < 3 → WaysR I' b (nC N b 0) (rowsN N)) ∧ ∀ a, a < 114 ∨ 119 < a → I' a = I a := by
  intro m
  induction m with
  | zero =>
    intro n' c I hl hn hz
    obtain ⟨n1, rfl⟩ := suc_of hn
    refine ⟨I, ?_, fun b hb => hz b (by omega), fun _ _ => rfl⟩
    rw [fX10_layAllWays_L2, if_pos (by rw [l3, nI_leI (by omega) (by omega)]; omega)]
  | succ m ih =>
    intro n' c I hl hn hz
    obtain ⟨n1, rfl⟩ := suc_of hn
    obtain ⟨I1, r1, r2, r3⟩ := m_layWays2 (B := B) (n := n) (I := I) (Q := Q) (R := R) (c := c) hO hM (by omega)
    obtain ⟨I2, s1, s2, s3⟩ := ih n1 (c + 1) I1 (by omega) (by omega) (fun b hb => by
      by_cases e : b = c
      · rw [e]; exact r2
      · exact (hz b (by omega)).lay hO (rows_wf N tA) (rows_le hO) r3 (by omega) e)
    refine ⟨I2, ?_, s2, fun a ha => by rw [s3 a ha, r3.1 a ha]⟩
    rw [fX10_layAllWays_L2, if_neg (by rw [l3, nI_leI (by omega) (by omega)]; omega), r1, ob1_some, bnd_eq, nI_1]
    exact s1
def F4 (I I' : Nat → Nat → Int32) : Prop := (∀ a, a ≠ 108 → a < 114 ∨ 121 < a → I' a = I a) ∧ ∀ j, j ≠ 18 → I' 108 j = I 108 j
theorem F4.rf {I : Nat → Nat → Int32} : F4 I I := ⟨fun _ _ _ => rfl, fun _ _ => rfl⟩
theorem F4.tr {I I1 I2 : Nat → Nat → Int32} (h : F4 I I1) (g : F4 I1 I2) : F4 I I2 := ⟨fun a h1 h2 => by rw [g.1 a h1 h2, h.1 a h1 h2], fun j hj => by rw [g.2 j hj, h.2 j hj]⟩
theorem LayF.f4 {c : Nat} {I I' : Nat → Nat → Int32} (h : LayF c I I') : F4 I I' := ⟨fun a _ h2 => h.1 a (by omega), fun j _ => by rw [h.1 108 (by decide)]⟩
theorem m_steady {B n : Nat} {I : Nat → Nat → Int32} {L : Nat → Nat → Int64} {Q : Nat → Nat → Option Nat} {R : Nat → RDt} {N : NET} {mode : Nat} (hO : NetOK N) (hM : MNet L 109 N) (hm : mode < 3) : ∃ I' : Nat → Nat → Int32, fX10_steady (B + 108) (nI mode) (MK B n I L Q R) = some (bz (canAll N (rowsN N)), MK B n I' L Q R) ∧ F4 I I' ∧ EnvM I' L N (rowsN N) ∧ (canAll N (rowsN N) = true → RidM I' N (rowsN N) (stF N mode (rowsN N)).1 ∧ I' 108 18 = nI (stF N mode (rowsN N)).2 ∧ SInv N (rowsN N) (stF N mode (rowsN N)).1 (nD N 3) ∧ (stF N mode (rowsN N)).2 ≤ 400) := by
  obtain ⟨I1, r1, r2, r3⟩ := m_layAll_L2 (B := B) (n := n) (L := L) (Q := Q) (R := R) hO hM (fun (g5 : AH) => some g5) 3 lf 0 I (by omega) (by decide) (fun b hb => by omega)
  have r1 : fX10_layAllWays_L2 (B + 108) (fun (g5 : AH) => some g5) lf 0 (MK B n I L Q R) = some (MK B n I1 L Q R) := r1
  have hK : ∃ K2 : AH → Option (Int32 × AH), K2 = fun (g16 : AH) =>
      ob1 (pV g16 (B + 108) 10 18 (.int (0 : Int32))) fun g17 =>
      fX10_steady_L54 (B + 108) (nI mode) g17 (
        fX10_steady_L89 (B + 108) (nI mode) (fun (g41 : AH) =>
          fX10_steady_L133 (B + 108) (nI mode) (fun (g53 : AH) =>
            some ((1 : Int32), g53)
          ) lf g41
        ) lf (0 : Int32) g17
      ) lf (0 : Int32) := ⟨_, rfl⟩
  obtain ⟨K2, hK⟩ := hK
  obtain ⟨I2, s1, s2, s3⟩ := m_steady_L6 (B := B) (n := n) (L := L) (Q := Q) (R := R) (x1 := nI mode) (fun (g9 : AH) => fX10_steady_L27 (B + 108) (nI mode) K2 lf (0 : Int32) g9) 13 lf 0 I1 (by omega) (by decide) (fun q hq => by omega)
  obtain ⟨I3, t1, t2, t3⟩ := m_steady_L27 (B := B) (n := n) (L := L) (Q := Q) (R := R) (x1 := nI mode) K2 768 lf 0 I2 (by omega) (by decide) (fun q hq => by omega)
  have s1 : fX10_steady_L6 (B + 108) (nI mode) (fun (g9 : AH) => fX10_steady_L27 (B + 108) (nI mode) K2 lf (0 : Int32) g9) lf 0 (MK B n I1 L Q R) = fX10_steady_L27 (B + 108) (nI mode) K2 lf (0 : Int32) (MK B n I2 L Q R) := s1
  have t1 : fX10_steady_L27 (B + 108) (nI mode) K2 lf (0 : Int32) (MK B n I2 L Q R) = K2 (MK B n I3 L Q R) := t1
  have hF : F4 I (u2 I3 108 18 0) := ⟨fun a h1 h2 => by rw [u2_nk h1, t2 a (by omega), s2 a (by omega), r3 a (by omega)], fun j hj => by rw [u2_ne (by omega), t2 108 (by decide), s2 108 (by decide), r3 108 (by decide)]⟩
  have hE1 : EnvM I1 L N (rowsN N) := ⟨hM, hO, rows_wf N tA, rows_le hO, rows_pos N tA, r2⟩
  have hE : EnvM (u2 I3 108 18 0) L N (rowsN N) := hE1.same (by rw [u2_nk (by decide), t2 114 (by decide), s2 114 (by decide)]) (by rw [u2_nk (by decide), t2 115 (by decide), s2 115 (by decide)]) (by rw [u2_nk (by decide), t2 116 (by decide), s2 116 (by decide)])
  have hR : RidM (u2 I3 108 18 0) N (rowsN N) z1 := by
    refine ⟨fun q hq => ?_, fun c hc j j1 j2 j3 => ?_⟩
    · rw [u2_nk (by decide), t2 120 (by decide)]
      exact s3 q hq
    · rw [u2_nk (by decide)]
      have hw := (hE.way hc ⟨j1, j2, j3⟩).1
      exact t3 _ (by omega)
  have h54 := m_steady_L54 (B := B) (n := n) (Q := Q) (R := R) (x1 := nI mode) hE (fX10_steady_L89 (B + 108) (nI mode) (fun (g41 : AH) =>
          fX10_steady_L133 (B + 108) (nI mode) (fun (g53 : AH) =>
            some ((1 : Int32), g53)
          ) lf g41
        ) lf (0 : Int32) (MK B n (u2 I3 108 18 0) L Q R)) 3 lf 0 (by omega) (by decide)
  have h54 : fX10_steady_L54 (B + 108) (nI mode) (MK B n (u2 I3 108 18 0) L Q R) (fX10_steady_L89 (B + 108) (nI mode) (fun (g41 : AH) =>
          fX10_steady_L133 (B + 108) (nI mode) (fun (g53 : AH) =>
            some ((1 : Int32), g53)
          ) lf g41
        ) lf (0 : Int32) (MK B n (u2 I3 108 18 0) L Q R)) lf 0 = if canAll N (rowsN N) = true then _ else _ := h54
  have hst : fX10_steady (B + 108) (nI mode) (MK B n I L Q R) = if canAll N (rowsN N) = true then (fX10_steady_L89 (B + 108) (nI mode) (fun (g41 : AH) =>
          fX10_steady_L133 (B + 108) (nI mode) (fun (g53 : AH) =>
            some ((1 : Int32), g53)
          ) lf g41
        ) lf (0 : Int32) (MK B n (u2 I3 108 18 0) L Q R)) else some (0, MK B n (u2 I3 108 18 0) L Q R) := by
    rw [← h54]
    unfold fX10_steady fX10_layAllWays
    rw [r1, ob1_some]
    rw [hK] at s1 t1
    refine s1.trans (t1.trans ?_)
    dsimp only
    rw [p_MstepMany, ob1_some]
  rw [hst]
  by_cases hw : canAll N (rowsN N) = true
  · rw [if_pos hw, hw]
    obtain ⟨I4, v1, v2, v3, v4⟩ := m_steady_L89 (B := B) (n := n) (L := L) (Q := Q) (R := R) hO hm hw (fun (g41 : AH) =>
          fX10_steady_L133 (B + 108) (nI mode) (fun (g53 : AH) =>
            some ((1 : Int32), g53)
          ) lf g41) 3 lf 0 (u2 I3 108 18 0) (by omega) (by decide) hE hR
    have v1 := v1
    obtain ⟨i1, i2⟩ := arrAll_ok (mode := mode) hw 3 (by omega)
    have hd := nD_le hO 3 (by omega)
    obtain ⟨I5, w1, w2, w3, w4, w5, w6, w7⟩ := m_steady_L133 (B := B) (n := n) (L := L) (Q := Q) (R := R) hm (show nD N 3 ≤ 36 by omega) (fun (g53 : AH) => some ((1 : Int32), g53)) 400 lf 0 (arrAll N mode (rowsN N) 3) I4 (by omega) (by decide) i1 i2 v4 v3 (by rw [v2 108 (by decide) (by decide)]; exact u2_eq)
    refine ⟨I5, v1.trans w1, hF.tr (F4.tr ⟨fun a h1 h2 => v2 a (by omega) (by omega), fun j _ => by rw [v2 108 (by decide) (by decide)]⟩ ⟨fun a h1 h2 => w2.1 a h1 (by omega) (by omega), w2.2⟩), w4, fun _ => ⟨w3, w5, w6, w7⟩⟩
  · rw [if_neg hw, Bool.eq_false_iff.mpr hw]
    exact ⟨u2 I3 108 18 0, rfl, hF, hE, fun h => by cases h⟩
