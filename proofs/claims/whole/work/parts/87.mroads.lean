def opE (a b : Nat) (x : PST) : PST := match x with
  | .inl f => .inl f
  | .inr p => if b = a then .inl (p - 1) else .inr p
def roadS (t : TAPE) (T p : Nat) : RD × PST :=
  tailS t (opNv t 1 (.inr p)) (opNv t 1 (opW t 62 (opNs t 1 (T - 1) (.inr p)))) (opNv t 6 (opW t 61 (opE (opNv t 1 (.inr p)) (opNv t 1 (opW t 62 (opNs t 1 (T - 1) (.inr p)))) (opNs t 1 (T - 1) (opW t 62 (opNs t 1 (T - 1) (.inr p)))))))
    (opNs t 6 999999 (opW t 61 (opE (opNv t 1 (.inr p)) (opNv t 1 (opW t 62 (opNs t 1 (T - 1) (.inr p)))) (opNs t 1 (T - 1) (opW t 62 (opNs t 1 (T - 1) (.inr p)))))))
theorem opNv_lt {t : TAPE} {K : Nat} {x : PST} (hK : K ≤ 6) : opNv t K x < 1000000 := by
  cases x with
  | inl f => show 0 < 1000000; decide
  | inr p =>
    show (dgs t K p 0).1 < 1000000
    obtain ⟨d1, _⟩ := dgs_b t K p 0
    have : 10 ^ K ≤ 10 ^ 6 := Nat.pow_le_pow_right (by decide) hK
    omega
theorem opNs_pos {t : TAPE} {hi p : Nat} {x : PST} (h : opNs t 1 hi x = .inr p) : 1 ≤ p := by
  cases x with
  | inl f => cases h
  | inr q =>
    unfold opNs at h
    dsimp only at h
    cases e : numP t 1 q with
    | none => rw [e] at h; cases h
    | some v =>
      rw [e] at h
      dsimp only at h
      by_cases c : v.1 ≤ hi
      · rw [if_pos c] at h
        have e2 : v.2 = p := by cases h; rfl
        unfold numP at e
        by_cases c2 : (dgs t 1 q 0).2 = q
        · rw [if_pos c2] at e; cases e
        · rw [if_neg c2] at e
          have := (dgs_b t 1 q 0).2.1
          rw [← e2, ← Option.some.inj e]
          omega
      · rw [if_neg c] at h; cases h
theorem m_readRoad {B n : Nat} {I : Nat → Nat → Int32} {L : Nat → Nat → Int64} {Q : Nat → Nat → Option Nat} {R : Nat → RDt} {t : TAPE} {N : NET} {p c : Nat} (hM : MNet L 109 N) (h6 : nT N ≤ 6) (h2 : 2 ≤ nT N) (hm : nM N ≤ 12) (hc : c < 13) (hlt : nM N + c < 12) (h : StM I t (.inr p)) (h9 : I 108 9 = nI c) : ∃ I' : Nat → Nat → Int32, fX10_readRoad (B + 108) (MK B n I L Q R) = some (MK B n I' L Q R) ∧ StM I' t (roadS t (nT N) p).2 ∧ I' 108 9 = nI (c + 1) ∧ Row7 I' c (roadS t (nT N) p).1 ∧ FrR c I I' := by
  have c13 : ∀ {j : Nat}, j < 7 → 7 * c + j < 91 := fun h => by omega
  obtain ⟨I1, r1, r2, r3⟩ := m_num (B := B) (n := n) (L := L) (Q := Q) (R := R) (K := 1) (hi := nT N - 1) (by decide) (by decide) (by omega) h
  have r1 : fX10_readNumber (B + 108) 1 (nI (nT N - 1)) (MK B n I L Q R) = some (nI (opNv t 1 (.inr p)), MK B n I1 L Q R) := r1
  have e113 := r2.1 113 (by decide)
  have e9 := r2.2 9 (by decide) (by decide)
  have va6 := opNv_lt (t := t) (K := 1) (x := .inr p) (by decide)
  unfold fX10_readRoad roadS
  rw [g_MreadMany, ob1_some, h9, show (7 : Int32) = nI 7 from rfl, nI_mulx, bnd_eq, m_roadMany hM (by omega), ob1_some, ob1_some, nI_add, if_neg (by rw [l12, nI_eq (by omega) (by omega)]; omega), g_Mnow, ob1_some, show aL (MK B n I L Q R) (B + 109) 0 = some (L 109 0) from a_Mnow (i := 0) (by decide), ob1_some, hM.1, l_toI (by omega), show nI (nT N) - 1 = nI (nT N - 1) from pk_sub (show 1 ≤ nT N by omega), bnd_eq, g_Mread, ob1_some, r1, ob2_some, show nI (7 * c) = nI (7 * c + 0) from rfl, s_Mread (c13 (by decide)), ob1_some]
  generalize opNv t 1 (.inr p) = va at *
  generalize opNs t 1 (nT N - 1) (.inr p) = x1 at *
  obtain ⟨I2, s1, s2, s3⟩ := m_wants (B := B) (n := n) (L := L) (Q := Q) (R := R) (c := 62) (by decide) (r3.w (i := 7 * c + 0) (v := nI va))
  have s1 : fX10_wants (B + 108) 62 (MK B n (u2 I1 113 (7 * c + 0) (nI va)) L Q R) = some (MK B n I2 L Q R) := s1
  have f2 : FrR c I I2 := (r2.r.tr (FrR.u (by omega))).tr s2.r
  have g113 := s2.1 113 (by decide)
  have g9 := s2.2 9 (by decide) (by decide)
  rw [s1, ob1_some, g_Mread, ob1_some]
  generalize opW t 62 x1 = x2 at *
  obtain ⟨I3, t1, t2, t3⟩ := m_num (B := B) (n := n) (L := L) (Q := Q) (R := R) (K := 1) (hi := nT N - 1) (by decide) (by decide) (by omega) s3
  have t1 : fX10_readNumber (B + 108) 1 (nI (nT N - 1)) (MK B n I2 L Q R) = some (nI (opNv t 1 x2), MK B n I3 L Q R) := t1
  have vb6 := opNv_lt (t := t) (K := 1) (x := x2) (by decide)
  have hpos : ∀ q, opNs t 1 (nT N - 1) x2 = .inr q → 1 ≤ q := fun q hq => opNs_pos hq
  rw [t1, ob2_some, nI_1, s_Mread (show 7 * c + 0 + 1 < 91 by omega), ob1_some]
  generalize opNv t 1 x2 = vb at *
  generalize opNs t 1 (nT N - 1) x2 = x3 at *
  have f3 : FrR c I (u2 I3 113 (7 * c + 0 + 1) (nI vb)) := (f2.tr t2.r).tr (FrR.u (by omega))
  have k113 := t2.1 113 (by decide)
  have k9 := t2.2 9 (by decide) (by decide)
  have hS3 := t3.w (i := 7 * c + 0 + 1) (v := nI vb)
  -- the towns are not the same
  have hE : ∃ I' : Nat → Nat → Int32, (∀ (K : AH → Option AH), (ob1 (gI (MK B n (u2 I3 113 (7 * c + 0 + 1) (nI vb)) L Q R) (B + 108) 10 7) fun v29 => bnd K fun j31 =>
    if v29 = (0 : Int32) then
      ob1 (gR (MK B n (u2 I3 113 (7 * c + 0 + 1) (nI vb)) L Q R) (B + 108) 10 8) fun b103 =>
      ob1 (aI (MK B n (u2 I3 113 (7 * c + 0 + 1) (nI vb)) L Q R) b103 0 (nI (7 * c + 0 + 1))) fun v105 =>
      ob1 (gR (MK B n (u2 I3 113 (7 * c + 0 + 1) (nI vb)) L Q R) (B + 108) 10 8) fun b107 =>
      ob1 (aI (MK B n (u2 I3 113 (7 * c + 0 + 1) (nI vb)) L Q R) b107 0 (nI (7 * c + 0))) fun v109 =>
      if v105 = v109 then
        ob1 (pV (MK B n (u2 I3 113 (7 * c + 0 + 1) (nI vb)) L Q R) (B + 108) 10 7 (.int (1 : Int32))) fun g111 =>
        ob1 (gI g111 (B + 108) 10 6) fun v113 =>
        ob1 (pV g111 (B + 108) 10 6 (.int (v113 - (1 : Int32)))) fun g115 =>
        j31 g115
      else
        j31 (MK B n (u2 I3 113 (7 * c + 0 + 1) (nI vb)) L Q R)
    else
      j31 (MK B n (u2 I3 113 (7 * c + 0 + 1) (nI vb)) L Q R)) = K (MK B n I' L Q R)) ∧ F67 (u2 I3 113 (7 * c + 0 + 1) (nI vb)) I' ∧ StM I' t (opE va vb x3) := by
    have w0 : u2 I3 113 (7 * c + 0 + 1) (nI vb) 113 (7 * c + 0) = nI va := by rw [u2_ne (by omega), k113, g113, u2_eq]
    have w1 : u2 I3 113 (7 * c + 0 + 1) (nI vb) 113 (7 * c + 0 + 1) = nI vb := u2_eq
    generalize u2 I3 113 (7 * c + 0 + 1) (nI vb) = J at *
    cases x3 with
    | inl f =>
      obtain ⟨hT, j7, j6, jp⟩ := id hS3
      refine ⟨J, fun K => ?_, F67.rf, hS3⟩
      rw [g_MisBad, ob1_some, bnd_eq, j7, if_neg (by decide)]
    | inr q =>
      obtain ⟨hT, j7, j6, jp⟩ := id hS3
      have hq := hpos q rfl
      by_cases e : vb = va
      · have hF : F67 J (u2 (u2 J 108 7 1) 108 6 (nI (q - 1))) := (F67.u (Or.inr rfl)).tr (F67.u (Or.inl rfl))
        refine ⟨u2 (u2 J 108 7 1) 108 6 (nI (q - 1)), fun K => ?_, hF, ?_⟩
        · rw [g_MisBad, ob1_some, bnd_eq, j7, if_pos rfl, g_Mread, ob1_some, a_Mread (show 7 * c + 0 + 1 < 91 by omega), ob1_some, ob1_some, a_Mread (show 7 * c + 0 < 91 by omega), ob1_some, w0, w1, if_pos (by rw [e]), p_MisBad, ob1_some, g_Mplace, ob1_some, u2_ne (by omega), j6, show nI q - 1 = nI (q - 1) from pk_sub hq, p_Mplace, ob1_some]
        · show StM _ t (if vb = va then .inl (q - 1) else .inr q)
          rw [if_pos e]
          exact StM.bad hT hF (by rw [u2_ne (by omega), u2_eq]) u2_eq (by omega)
      · refine ⟨J, fun K => ?_, F67.rf, ?_⟩
        · rw [g_MisBad, ob1_some, bnd_eq, j7, if_pos rfl, g_Mread, ob1_some, a_Mread (show 7 * c + 0 + 1 < 91 by omega), ob1_some, ob1_some, a_Mread (show 7 * c + 0 < 91 by omega), ob1_some, w0, w1, if_neg (by rw [nI_eq (by omega) (by omega)]; exact e)]
        · show StM _ t (if vb = va then .inl (q - 1) else .inr q)
          rw [if_neg e]
          exact hS3
  obtain ⟨I4, u1, u2', u3⟩ := hE
  rw [u1]
  have f4 : FrR c I I4 := f3.tr u2'.r
  have l113 := u2'.1 113 (by decide)
  have l9 := u2'.2 9 (by decide) (by decide)
  generalize opE va vb x3 = x4 at *
  obtain ⟨I5, v1, v2, v3⟩ := m_wants (B := B) (n := n) (L := L) (Q := Q) (R := R) (c := 61) (by decide) u3
  have v1 : fX10_wants (B + 108) 61 (MK B n I4 L Q R) = some (MK B n I5 L Q R) := v1
  have f5 : FrR c I I5 := f4.tr v2.r
  have o113 := v2.1 113 (by decide)
  have o9 := v2.2 9 (by decide) (by decide)
  rw [v1, ob1_some, g_Mread, ob1_some]
  generalize opW t 61 x4 = x5 at *
  obtain ⟨I6, y1, y2, y3⟩ := m_num (B := B) (n := n) (L := L) (Q := Q) (R := R) (K := 6) (hi := 999999) (by decide) (by decide) (by decide) v3
  have y1 : fX10_readNumber (B + 108) 6 999999 (MK B n I5 L Q R) = some (nI (opNv t 6 x5), MK B n I6 L Q R) := y1
  have f6 : FrR c I I6 := f5.tr y2.r
  have q113 := y2.1 113 (by decide)
  have q9 := y2.2 9 (by decide) (by decide)
  rw [y1, ob2_some]
  generalize opNv t 6 x5 = vc at *
  generalize opNs t 6 999999 x5 = x6 at *
  have hcc : 7 * c + 0 = 7 * c := rfl
  have k2 : nI (7 * c + 0) + 2 = nI (7 * c + 2) := nI_add (a := 7 * c) (b := 2)
  have k3 : nI (7 * c + 0) + 3 = nI (7 * c + 3) := nI_add (a := 7 * c) (b := 3)
  have k4 : nI (7 * c + 0) + 4 = nI (7 * c + 4) := nI_add (a := 7 * c) (b := 4)
  have k5 : nI (7 * c + 0) + 5 = nI (7 * c + 5) := nI_add (a := 7 * c) (b := 5)
  have k6 : nI (7 * c + 0) + 6 = nI (7 * c + 6) := nI_add (a := 7 * c) (b := 6)
  rw [k3, s_Mread (c13 (by decide)), ob1_some, g_Mread, ob1_some, k2, s_Mread (c13 (by decide)), ob1_some, g_Mread, ob1_some, k4, s_Mread (c13 (by decide)), ob1_some, g_Mread, ob1_some, k5, s_Mread (c13 (by decide)), ob1_some, g_Mread, ob1_some, k6, s_Mread (c13 (by decide)), ob1_some]
  have hT := m_tail (B := B) (n := n) (L := L) (Q := Q) (R := R) (t := t) (a := va) (b := vb) (v := vc) (c := c) (x := x6) (I := u2 (u2 (u2 (u2 (u2 I6 113 (7 * c + 3) (nI vc)) 113 (7 * c + 2) (nI 0)) 113 (7 * c + 4) (nI 0)) 113 (7 * c + 5) (nI 0)) 113 (7 * c + 6) (nI 0)) hc y3.w.w.w.w.w
    (by rw [u2_nk (by decide), u2_nk (by decide), u2_nk (by decide), u2_nk (by decide), u2_nk (by decide), q9, o9, l9, u2_nk (by decide), k9, g9, u2_nk (by decide), e9]; exact h9)
    (by rw [u2_ne (by omega), u2_ne (by omega), u2_ne (by omega), u2_ne (by omega), u2_ne (by omega), q113, o113, l113, u2_ne (by omega), k113, g113]; exact u2_eq)
    (by rw [u2_ne (by omega), u2_ne (by omega), u2_ne (by omega), u2_ne (by omega), u2_ne (by omega), q113, o113, l113]; exact u2_eq)
    (by rw [u2_ne (by omega), u2_ne (by omega), u2_ne (by omega), u2_eq])
    (by rw [u2_ne (by omega), u2_ne (by omega), u2_ne (by omega), u2_ne (by omega), u2_eq])
    (by rw [u2_ne (by omega), u2_ne (by omega), u2_eq])
    (by rw [u2_ne (by omega), u2_eq])
    u2_eq
  obtain ⟨I7, z1, z2, z3, z4, z5⟩ := hT
  exact ⟨I7, z1, z2, z3, z4, ((((f6.tr (FrR.u (by omega))).tr (FrR.u (by omega))).tr (FrR.u (by omega))).tr ((FrR.u (by omega)).tr (FrR.u (by omega)))).tr z5⟩
/-- what is read is what the document reads -/
theorem opNs_town {t : TAPE} {T p : Nat} (h2 : 2 ≤ T) : opNs t 1 (T - 1) (.inr p) = match townP t T p none with
    | none => .inl p
    | some v => .inr v.2 := by
  unfold opNs townP
  dsimp only
  cases numP t 1 p with
  | none => rfl
  | some v =>
    dsimp only
    by_cases c : T ≤ v.1
    · rw [if_pos c, if_neg (by omega)]
    · rw [if_neg c, if_pos (by omega), if_neg (fun h => by cases h)]
theorem numP_v {t : TAPE} {K p : Nat} {v : Nat × Nat} (h : numP t K p = some v) : opNv t K (.inr p) = v.1 := by
  unfold numP at h
  by_cases c : (dgs t K p 0).2 = p
  · rw [if_pos c] at h; cases h
  · rw [if_neg c] at h
    show (dgs t K p 0).1 = _
    rw [Option.some.inj h]
theorem numP_1 {t : TAPE} {p : Nat} {v : Nat × Nat} (h : numP t 1 p = some v) : v.2 = p + 1 := by
  unfold numP at h
  by_cases c : (dgs t 1 p 0).2 = p
  · rw [if_pos c] at h; cases h
  · rw [if_neg c] at h
    have := dgs_b t 1 p 0
    rw [Option.some.inj h] at this c
    omega
theorem numP_6 {t : TAPE} {p : Nat} : opNs t 6 999999 (.inr p) = match numP t 6 p with
    | none => .inl p
    | some v => .inr v.2 := by
  unfold opNs
  dsimp only
  cases h : numP t 6 p with
  | none => rfl
  | some v =>
    dsimp only
    have h1 := numP_v h
    have h2 := opNv_lt (t := t) (K := 6) (x := .inr p) (by decide)
    rw [if_pos (by omega)]
theorem knee_S {t : TAPE} {p : Nat} : opNs t 2 36 (.inr p) = match kneeP t p with
    | none => .inl p
    | some v => .inr v.2 := by
  unfold opNs kneeP
  dsimp only
  cases numP t 2 p with
  | none => rfl
  | some v =>
    dsimp only
    by_cases c : v.1 ≤ 36
    · rw [if_pos c, if_pos c]
    · rw [if_neg c, if_neg c]
theorem kneeP_v {t : TAPE} {p : Nat} {v : Nat × Nat} (h : kneeP t p = some v) : opNv t 2 (.inr p) = v.1 := by
  unfold kneeP at h
  cases e : numP t 2 p with
  | none => rw [e] at h; cases h
  | some w =>
    rw [e] at h
    dsimp only at h
    by_cases c : w.1 ≤ 36
    · rw [if_pos c] at h
      rw [← Option.some.inj h]
      exact numP_v e
    · rw [if_neg c] at h; cases h
def ofS (x : RD × PST) : Sum Nat (RD × Nat) := match x.2 with
  | .inl f => .inl f
  | .inr p => .inr (x.1, p)
theorem tail_eq {t : TAPE} {a b v p : Nat} : ofS (tailS t a b v (.inr p)) = restP t a b v p := by
  unfold tailS restP
  have g1 : opG t 43 (.inr p) = chAt t p 43 := rfl
  have g2 : opGs t 43 (.inr p) = if chAt t p 43 = true then .inr (p + 1) else .inr p := rfl
  rw [g1, g2]
  by_cases c1 : chAt t p 43 = true
  · rw [if_pos c1, if_pos c1, if_pos c1, numP_6]
    cases h1 : numP t 6 (p + 1) with
    | none => rfl
    | some w =>
      dsimp only
      have v1 := numP_v h1
      have g3 : opG t 94 (.inr w.2) = chAt t w.2 94 := rfl
      have g4 : opGs t 94 (.inr w.2) = if chAt t w.2 94 = true then .inr (w.2 + 1) else .inr w.2 := rfl
      rw [g3, g4, v1]
      by_cases c2 : chAt t w.2 94 = true
      · rw [if_pos c2, if_pos c2, if_pos c2, knee_S]
        cases h2 : kneeP t (w.2 + 1) with
        | none => rfl
        | some g =>
          dsimp only
          have v2 := kneeP_v h2
          have g5 : opW t 58 (.inr g.2) = if chAt t g.2 58 = true then .inr (g.2 + 1) else .inl g.2 := rfl
          rw [g5, v2]
          by_cases c3 : chAt t g.2 58 = true
          · rw [if_pos c3, if_pos c3, numP_6]
            cases h3 : numP t 6 (g.2 + 1) with
            | none => rfl
            | some u => rw [numP_v h3]; rfl
          · rw [if_neg c3, if_neg c3]; rfl
      · rw [if_neg c2, if_neg c2, if_neg c2]; rfl
  · rw [if_neg c1, if_neg c1, if_neg c1]; rfl
theorem tail_bad {t : TAPE} {a b v f : Nat} : ofS (tailS t a b v (.inl f)) = .inl f := rfl
theorem road_eq {t : TAPE} {N : NET} {p : Nat} (h2 : 2 ≤ nT N) (hm : nM N < 12) : ofS (roadS t (nT N) p) = roadP t N p := by
  unfold roadS roadP
  rw [if_pos hm, opNs_town h2]
  cases h1 : townP t (nT N) p none with
  | none => rfl
  | some a =>
    dsimp only
    have v1 : opNv t 1 (.inr p) = a.1 := by
      unfold townP at h1
      cases e : numP t 1 p with
      | none => rw [e] at h1; cases h1
      | some w =>
        rw [e] at h1
        dsimp only at h1
        by_cases c : nT N ≤ w.1
        · rw [if_pos c] at h1; cases h1
        · rw [if_neg c, if_neg (fun h => by cases h)] at h1
          rw [← Option.some.inj h1]; exact numP_v e
    have g1 : opW t 62 (.inr a.2) = if chAt t a.2 62 = true then .inr (a.2 + 1) else .inl a.2 := rfl
    rw [g1, v1]
    by_cases c1 : chAt t a.2 62 = true
    · rw [if_pos c1, if_pos c1]
      unfold townP
      cases h3 : numP t 1 (a.2 + 1) with
      | none =>
        have e : opNs t 1 (nT N - 1) (.inr (a.2 + 1)) = .inl (a.2 + 1) := by
          show (match numP t 1 (a.2 + 1) with | none => _ | some v => _) = _
          rw [h3]
        rw [e]
        rfl
      | some b =>
        dsimp only
        have e : opNs t 1 (nT N - 1) (.inr (a.2 + 1)) = if b.1 ≤ nT N - 1 then .inr b.2 else .inl (a.2 + 1) := by
          show (match numP t 1 (a.2 + 1) with | none => _ | some v => _) = _
          rw [h3]
        rw [e, numP_v h3]
        by_cases c2 : nT N ≤ b.1
        · rw [if_neg (by omega), if_pos c2]
          rfl
        · rw [if_pos (by omega), if_neg c2]
          have ge : opE a.1 b.1 (.inr b.2) = if b.1 = a.1 then .inl (b.2 - 1) else .inr b.2 := rfl
          rw [ge]
          by_cases c3 : b.1 = a.1
          · rw [if_pos c3, if_pos (by rw [c3]), numP_1 h3]
            rfl
          · rw [if_neg c3, if_neg (fun h => c3 (Option.some.inj h).symm)]
            have g2 : opW t 61 (.inr b.2) = if chAt t b.2 61 = true then .inr (b.2 + 1) else .inl b.2 := rfl
            rw [g2]
            dsimp only
            by_cases c4 : chAt t b.2 61 = true
            · rw [if_pos c4, if_pos c4, numP_6]
              cases h4 : numP t 6 (b.2 + 1) with
              | none => rfl
              | some v => rw [numP_v h4]; exact tail_eq
            · rw [if_neg c4, if_neg c4]; rfl
    · rw [if_neg c1, if_neg c1]; rfl
