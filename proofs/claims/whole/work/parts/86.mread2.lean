/-- what reading one road may change -/
def FrR (c : Nat) (I I' : Nat → Nat → Int32) : Prop := (∀ a, a ≠ 108 → a ≠ 113 → I' a = I a) ∧ (∀ j, j ≠ 6 → j ≠ 7 → j ≠ 9 → I' 108 j = I 108 j) ∧ ∀ i, i < 7 * c ∨ 7 * c + 7 ≤ i → I' 113 i = I 113 i
theorem FrR.rf {c : Nat} {I : Nat → Nat → Int32} : FrR c I I := ⟨fun _ _ _ => rfl, fun _ _ _ _ => rfl, fun _ _ => rfl⟩
theorem FrR.tr {c : Nat} {I I1 I2 : Nat → Nat → Int32} (h : FrR c I I1) (g : FrR c I1 I2) : FrR c I I2 := ⟨fun a h1 h2 => by rw [g.1 a h1 h2, h.1 a h1 h2], fun j h1 h2 h3 => by rw [g.2.1 j h1 h2 h3, h.2.1 j h1 h2 h3], fun i hi => by rw [g.2.2 i hi, h.2.2 i hi]⟩
theorem F67.r {c : Nat} {I I' : Nat → Nat → Int32} (h : F67 I I') : FrR c I I' := ⟨fun a h1 _ => h.1 a h1, fun j h1 h2 _ => h.2 j h1 h2, fun i _ => by rw [h.1 113 (by decide)]⟩
theorem FrR.u {c i : Nat} {I : Nat → Nat → Int32} {v : Int32} (h : 7 * c ≤ i ∧ i < 7 * c + 7) : FrR c I (u2 I 113 i v) := ⟨fun a _ h2 => u2_nk h2, fun j _ _ _ => by rw [u2_nk (by decide)], fun j hj => u2_ne (by omega)⟩
theorem StM.w {I : Nat → Nat → Int32} {t : TAPE} {x : PST} {i : Nat} {v : Int32} (h : StM I t x) : StM (u2 I 113 i v) t x := h.fr (u2_nk (by decide)) (by rw [u2_nk (by decide)]) (by rw [u2_nk (by decide)]) (by rw [u2_nk (by decide)])
def tailS (t : TAPE) (a b v : Nat) (x : PST) : RD × PST := if opG t 43 x = true then (if opG t 94 (opNs t 6 999999 (opGs t 43 x)) = true then ((a, b, 2, v, opNv t 6 (opGs t 43 x), opNv t 6 (opW t 58 (opNs t 2 36 (opGs t 94 (opNs t 6 999999 (opGs t 43 x))))), opNv t 2 (opGs t 94 (opNs t 6 999999 (opGs t 43 x)))), opNs t 6 999999 (opW t 58 (opNs t 2 36 (opGs t 94 (opNs t 6 999999 (opGs t 43 x)))))) else ((a, b, 1, v, opNv t 6 (opGs t 43 x), 0, 0), opGs t 94 (opNs t 6 999999 (opGs t 43 x)))) else ((a, b, 0, v, 0, 0, 0), opGs t 43 x)
def Row7 (I : Nat → Nat → Int32) (c : Nat) (d : RD) : Prop := ∀ j, j < 7 → I 113 (7 * c + j) = nI (fld d 0 j)
theorem row7_of {I : Nat → Nat → Int32} {c : Nat} {d : RD} (h0 : I 113 (7 * c) = nI (dFrom d)) (h1 : I 113 (7 * c + 1) = nI (dTo d)) (h2 : I 113 (7 * c + 2) = nI (dKind d)) (h3 : I 113 (7 * c + 3) = nI (dBase d)) (h4 : I 113 (7 * c + 4) = nI (dSlope d)) (h5 : I 113 (7 * c + 5) = nI (dSteep d)) (h6 : I 113 (7 * c + 6) = nI (dKnee d)) : Row7 I c d := fun j hj => by
  obtain e | e | e | e | e | e | e : j = 0 ∨ j = 1 ∨ j = 2 ∨ j = 3 ∨ j = 4 ∨ j = 5 ∨ j = 6 := by omega
  all_goals subst e
  · exact h0
  · exact h1
  · exact h2
  · exact h3
  · exact h4
  · exact h5
  · exact h6
theorem m_tail {B n : Nat} {I : Nat → Nat → Int32} {L : Nat → Nat → Int64} {Q : Nat → Nat → Option Nat} {R : Nat → RDt} {t : TAPE} {a b v c : Nat} {x : PST} (hc : c < 13) (h : StM I t x) (h9 : I 108 9 = nI c) (h0 : I 113 (7 * c) = nI a) (h1 : I 113 (7 * c + 1) = nI b) (h2 : I 113 (7 * c + 2) = nI 0) (h3 : I 113 (7 * c + 3) = nI v) (h4 : I 113 (7 * c + 4) = nI 0) (h5 : I 113 (7 * c + 5) = nI 0) (h6 : I 113 (7 * c + 6) = nI 0) : ∃ I' : Nat → Nat → Int32,
    (ob2 (fX10_goesOn (B + 108) (43 : Int32) (MK B n I L Q R)) fun r58 g59 =>
      if r58 = (0 : Int32) then
        ob1 (gI g59 (B + 108) 10 9) fun v63 =>
        ob1 (pV g59 (B + 108) 10 9 (.int (v63 + (1 : Int32)))) fun g65 =>
        some g65
      else
        ob1 (gR g59 (B + 108) 10 8) fun b67 =>
        ob1 (sI g59 b67 (nI (7 * c + 2)) (1 : Int32)) fun g69 =>
        ob1 (gR g69 (B + 108) 10 8) fun b71 =>
        ob2 (fX10_readNumber (B + 108) (6 : Int32) (999999 : Int32) g69) fun r73 g74 =>
        ob1 (sI g74 b71 (nI (7 * c + 4)) r73) fun g76 =>
        ob2 (fX10_goesOn (B + 108) (94 : Int32) g76) fun r78 g79 =>
        if r78 = (0 : Int32) then
          ob1 (gI g79 (B + 108) 10 9) fun v63 =>
          ob1 (pV g79 (B + 108) 10 9 (.int (v63 + (1 : Int32)))) fun g65 =>
          some g65
        else
          ob1 (gR g79 (B + 108) 10 8) fun b81 =>
          ob1 (sI g79 b81 (nI (7 * c + 2)) (2 : Int32)) fun g83 =>
          ob1 (gR g83 (B + 108) 10 8) fun b85 =>
          ob2 (fX10_readNumber (B + 108) (2 : Int32) (36 : Int32) g83) fun r87 g88 =>
          ob1 (sI g88 b85 (nI (7 * c + 6)) r87) fun g90 =>
          ob1 (fX10_wants (B + 108) (58 : Int32) g90) fun g92 =>
          ob1 (gR g92 (B + 108) 10 8) fun b94 =>
          ob2 (fX10_readNumber (B + 108) (6 : Int32) (999999 : Int32) g92) fun r96 g97 =>
          ob1 (sI g97 b94 (nI (7 * c + 5)) r96) fun g99 =>
          ob1 (gI g99 (B + 108) 10 9) fun v63 =>
          ob1 (pV g99 (B + 108) 10 9 (.int (v63 + (1 : Int32)))) fun g65 =>
          some g65) = some (MK B n I' L Q R) ∧ StM I' t (tailS t a b v x).2 ∧ I' 108 9 = nI (c + 1) ∧ Row7 I' c (tailS t a b v x).1 ∧ FrR c I I' := by
  have fin : ∀ (J : Nat → Nat → Int32) (y : PST) (d : RD), StM J t y → J 108 9 = nI c → Row7 J c d → FrR c I J → ∃ I' : Nat → Nat → Int32, (ob1 (gI (MK B n J L Q R) (B + 108) 10 9) fun v63 => ob1 (pV (MK B n J L Q R) (B + 108) 10 9 (.int (v63 + (1 : Int32)))) fun g65 => some g65) = some (MK B n I' L Q R) ∧ StM I' t y ∧ I' 108 9 = nI (c + 1) ∧ Row7 I' c d ∧ FrR c I I' := fun J y d j1 j2 j3 j4 => by
    refine ⟨u2 J 108 9 (nI (c + 1)), ?_, j1.fr (u2_nk (by decide)) (u2_ne (by omega)) (u2_ne (by omega)) (u2_ne (by omega)), u2_eq, fun j hj => by rw [u2_nk (by decide)]; exact j3 j hj, j4.tr ⟨fun a ha _ => u2_nk ha, fun j _ _ h => u2_ne (by omega), fun i _ => by rw [u2_nk (by decide)]⟩⟩
    rw [g_MreadMany, ob1_some, j2, nI_1, p_MreadMany, ob1_some]
  have c13 : ∀ {j : Nat}, j < 7 → 7 * c + j < 91 := fun h => by omega
  obtain ⟨I1, r1, r2, r3⟩ := m_goesOn (B := B) (n := n) (L := L) (Q := Q) (R := R) (c := 43) (by decide) h
  have r1 : fX10_goesOn (B + 108) 43 (MK B n I L Q R) = some (bz (opG t 43 x), MK B n I1 L Q R) := r1
  have e113 := r2.1 113 (by decide)
  have e9 := r2.2 9 (by decide) (by decide)
  unfold tailS
  rw [r1, ob2_some]
  cases c1 : opG t 43 x with
  | false =>
    rw [if_pos (show bz false = 0 from rfl), if_neg (show ¬ false = true by decide)]
    exact fin I1 _ _ r3 (by rw [e9]; exact h9) (row7_of (by rw [e113]; exact h0) (by rw [e113]; exact h1) (by rw [e113]; exact h2) (by rw [e113]; exact h3) (by rw [e113]; exact h4) (by rw [e113]; exact h5) (by rw [e113]; exact h6)) r2.r
  | true =>
    rw [if_neg (show ¬ bz true = 0 by decide), if_pos rfl]
    generalize opGs t 43 x = x7 at r3 ⊢
    obtain ⟨I2, s1, s2, s3⟩ := m_num (B := B) (n := n) (L := L) (Q := Q) (R := R) (K := 6) (hi := 999999) (by decide) (by decide) (by decide) (r3.w (i := 7 * c + 2) (v := 1))
    have s1 : fX10_readNumber (B + 108) 6 999999 (MK B n (u2 I1 113 (7 * c + 2) 1) L Q R) = some (nI (opNv t 6 x7), MK B n I2 L Q R) := s1
    have f2 : FrR c I I2 := (r2.r.tr (FrR.u (by omega))).tr s2.r
    have g113 := s2.1 113 (by decide)
    have g9 := s2.2 9 (by decide) (by decide)
    obtain ⟨I3, t1, t2, t3⟩ := m_goesOn (B := B) (n := n) (L := L) (Q := Q) (R := R) (c := 94) (by decide) (s3.w (i := 7 * c + 4) (v := nI (opNv t 6 x7)))
    have t1 : fX10_goesOn (B + 108) 94 (MK B n (u2 I2 113 (7 * c + 4) (nI (opNv t 6 x7))) L Q R) = some (bz (opG t 94 (opNs t 6 999999 x7)), MK B n I3 L Q R) := t1
    have f3 : FrR c I I3 := (f2.tr (FrR.u (by omega))).tr t2.r
    have k113 := t2.1 113 (by decide)
    have k9 := t2.2 9 (by decide) (by decide)
    have n9 : I3 108 9 = nI c := by rw [k9, u2_nk (by decide), g9, u2_nk (by decide), e9]; exact h9
    rw [g_Mread, ob1_some, s_Mread (c13 (by decide)), ob1_some, g_Mread, ob1_some, s1, ob2_some, s_Mread (c13 (by decide)), ob1_some, t1, ob2_some]
    generalize opNv t 6 x7 = vd at *
    generalize opNs t 6 999999 x7 = x8 at *
    cases c2 : opG t 94 x8 with
    | false =>
      rw [if_pos (show bz false = 0 from rfl), if_neg (show ¬ false = true by decide)]
      refine fin I3 _ _ t3 n9 (row7_of ?_ ?_ ?_ ?_ ?_ ?_ ?_) f3
      · rw [k113, u2_ne (by omega), g113, u2_ne (by omega), e113]; exact h0
      · rw [k113, u2_ne (by omega), g113, u2_ne (by omega), e113]; exact h1
      · rw [k113, u2_ne (by omega), g113, u2_eq]; rfl
      · rw [k113, u2_ne (by omega), g113, u2_ne (by omega), e113]; exact h3
      · rw [k113, u2_eq]; rfl
      · rw [k113, u2_ne (by omega), g113, u2_ne (by omega), e113]; exact h5
      · rw [k113, u2_ne (by omega), g113, u2_ne (by omega), e113]; exact h6
    | true =>
      rw [if_neg (show ¬ bz true = 0 by decide), if_pos rfl]
      generalize opGs t 94 x8 = x9 at t3 ⊢
      obtain ⟨I4, v1, v2, v3⟩ := m_num (B := B) (n := n) (L := L) (Q := Q) (R := R) (K := 2) (hi := 36) (by decide) (by decide) (by decide) (t3.w (i := 7 * c + 2) (v := 2))
      have v1 : fX10_readNumber (B + 108) 2 36 (MK B n (u2 I3 113 (7 * c + 2) 2) L Q R) = some (nI (opNv t 2 x9), MK B n I4 L Q R) := v1
      have f4 : FrR c I I4 := (f3.tr (FrR.u (by omega))).tr v2.r
      have l113 := v2.1 113 (by decide)
      have l9 := v2.2 9 (by decide) (by decide)
      obtain ⟨I5, w1, w2, w3⟩ := m_wants (B := B) (n := n) (L := L) (Q := Q) (R := R) (c := 58) (by decide) (v3.w (i := 7 * c + 6) (v := nI (opNv t 2 x9)))
      have w1 : fX10_wants (B + 108) 58 (MK B n (u2 I4 113 (7 * c + 6) (nI (opNv t 2 x9))) L Q R) = some (MK B n I5 L Q R) := w1
      have f5 : FrR c I I5 := (f4.tr (FrR.u (by omega))).tr w2.r
      have o113 := w2.1 113 (by decide)
      have o9 := w2.2 9 (by decide) (by decide)
      obtain ⟨I6, y1, y2, y3⟩ := m_num (B := B) (n := n) (L := L) (Q := Q) (R := R) (K := 6) (hi := 999999) (by decide) (by decide) (by decide) w3
      have y1 : fX10_readNumber (B + 108) 6 999999 (MK B n I5 L Q R) = some (nI (opNv t 6 (opW t 58 (opNs t 2 36 x9))), MK B n I6 L Q R) := y1
      have f6 : FrR c I I6 := f5.tr y2.r
      have q113 := y2.1 113 (by decide)
      have q9 := y2.2 9 (by decide) (by decide)
      rw [g_Mread, ob1_some, s_Mread (c13 (by decide)), ob1_some, g_Mread, ob1_some, v1, ob2_some, s_Mread (c13 (by decide)), ob1_some, w1, ob1_some, g_Mread, ob1_some]
      rw [y1, ob2_some, s_Mread (c13 (by decide)), ob1_some]
      refine fin _ _ _ y3.w (by rw [u2_nk (by decide), q9, o9, u2_nk (by decide), l9, u2_nk (by decide)]; exact n9) (row7_of ?_ ?_ ?_ ?_ ?_ ?_ ?_) (f6.tr (FrR.u (by omega)))
      · rw [u2_ne (by omega), q113, o113, u2_ne (by omega), l113, u2_ne (by omega), k113, u2_ne (by omega), g113, u2_ne (by omega), e113]; exact h0
      · rw [u2_ne (by omega), q113, o113, u2_ne (by omega), l113, u2_ne (by omega), k113, u2_ne (by omega), g113, u2_ne (by omega), e113]; exact h1
      · rw [u2_ne (by omega), q113, o113, u2_ne (by omega), l113, u2_eq]; rfl
      · rw [u2_ne (by omega), q113, o113, u2_ne (by omega), l113, u2_ne (by omega), k113, u2_ne (by omega), g113, u2_ne (by omega), e113]; exact h3
      · rw [u2_ne (by omega), q113, o113, u2_ne (by omega), l113, u2_ne (by omega), k113, u2_eq]; rfl
      · rw [u2_eq]; rfl
      · rw [u2_ne (by omega), q113, o113, u2_eq]; rfl
