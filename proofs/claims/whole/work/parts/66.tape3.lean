theorem fails {B n : Nat} {I : Nat → Nat → Int32} {L : Nat → Nat → Int64} {Q : Nat → Nat → Option Nat} {R : Nat → RDt} {I' : Nat → Nat → Int32} {La : Nat → Nat → Int64} {Ia : Nat → Nat → Int32} {s : STT} {fp : Bool} {fs : Nat → Bool} {fc : Bool} {N : NET} {t : TAPE} {f : Nat} (h : RdS B n I L Q R s fp fs fc N) (hf : TF I I') (h3 : I' 58 3 = nI f) (hl : f ≤ t.1) (hF : ∀ a, 108 ≤ a → I a = Ia a ∧ L a = La a) : PutP B Ia La s fp fs fc N t (some (0, MK B n I' L Q R)) (.inl f) :=
  ⟨n, I', L, Q, R, rfl, h.tf hf, h3, hl, fun a ha => ⟨by rw [hf.1 a (by omega), (hF a ha).1], (hF a ha).2⟩⟩
theorem TF.hi {I I' : Nat → Nat → Int32} (h : TF I I') {a : Nat} (ha : 108 ≤ a) : I' a = I a := h.1 a (by omega)
theorem e_rest {B n : Nat} {I : Nat → Nat → Int32} {L : Nat → Nat → Int64} {Q : Nat → Nat → Option Nat} {R : Nat → RDt} {s : STT} {fp : Bool} {fs : Nat → Bool} {fc : Bool} {N : NET} {t : TAPE} {j k b p : Nat} (h : RdS B n I L Q R s fp fs fc N) (hm : nM N ≤ 12) (hA : AtP I t p) (hj : j < nT N) (hk : k < nT N) (hjk : j ≠ k) (hb : b < 1000000) :
    PutP B I L s fp fs fc N t (fX7_readRest (B + 58) (B + 33) (nI j) (nI k) (nI b) (MK B n I L Q R)) (restP t j k b p) := by
  have h6 := h.2.2.2.1
  have hsame : ∀ a, 108 ≤ a → I a = I a ∧ L a = L a := fun _ _ => ⟨rfl, rfl⟩
  have hJ : ∀ (I' : Nat → Nat → Int32) (kd v u g p' : Nat), TF I I' → AtP I' t p' → kd ≤ 2 → v < 1000000 → u < 1000000 → g ≤ 36 → PutP B I L s fp fs fc N t (if nI v < (0 : Int32) then some ((0 : Int32), MK B n I' L Q R) else
      if (0 : Int32) ≤ nI u then
        bnd (MK B n I' L Q R).1 fun b10 =>
        bnd (hnew (MK B n I' L Q R) (.inr (3, [.int 0, .int 0, .int 0, .long 0, .long 0, .long 0, .int 0]))) fun g11 =>
        ob1 (fX3_init b10 (nI j) (nI k) (nI kd) (Int32.toInt64 (nI b)) (Int32.toInt64 (nI v)) (Int32.toInt64 (nI u)) (nI g) g11) fun g12 =>
        gd (ckO g12 (B + 33) 1) <|
        ob1 (fX1_append (B + 33) b10 g12) fun g15 =>
        some ((1 : Int32), g15)
      else
        some ((0 : Int32), MK B n I' L Q R)) (.inr ((j, k, kd, b, v, u, g), p')) := fun I' kd v u g p' hf hA' hkd hv hu hg => by
    rw [if_neg (nI_pos (by omega)), if_pos (nI_pos' (by omega)), bnd_eq, bnd_eq, nI_l (by omega), nI_l (by omega), nI_l (by omega)]
    exact e_putIt (d := (j, k, kd, b, v, u, g)) (h.tf hf) hm hA' ⟨hkd, by show b ≤ _; omega, by show v ≤ _; omega, by show u ≤ _; omega, hg, by show j < 6; omega, by show k < 6; omega⟩ hj hk hjk (fun a ha => hf.hi ha)
  obtain ⟨I1, r1, r2, r3⟩ := e_eats (L := L) (Q := Q) (R := R) (B := B) (n := n) (c := 43) hA (by decide)
  have r1 : fX7_eats (B + 58) 43 (MK B n I L Q R) = some (bz (chAt t p 43), MK B n I1 L Q R) := r1
  unfold fX7_readRest restP
  rw [r1, ob2_some, bnd_eq]
  dsimp only
  cases c1 : chAt t p 43 with
  | false =>
    rw [c1, if_neg (by decide)] at r3
    rw [if_pos (by decide), if_neg (by decide)]
    exact hJ I1 0 0 0 0 p r2 r3 (by decide) (by decide) (by decide) (by decide)
  | true =>
    rw [c1, if_pos rfl] at r3
    rw [if_neg (by decide), if_pos rfl]
    obtain ⟨I2, t2, t3⟩ := e_num (L := L) (Q := Q) (R := R) (B := B) (n := n) (show 6 ≤ 6 by decide) r3
    have f2 := r2.tr t2
    cases hv : numP t 6 (p + 1) with
    | none =>
      rw [hv] at t3
      obtain ⟨a1, a2, a3⟩ := t3
      have a1 : fX7_readNumber (B + 58) 6 (MK B n I1 L Q R) = some (-1, MK B n I2 L Q R) := a1
      rw [a1, ob2_some, if_pos (by decide), if_pos (by decide)]
      exact fails h f2 a2 r3.2.2 hsame
    | some v =>
      rw [hv] at t3
      obtain ⟨a1, a2, a3⟩ := t3
      have a1 : fX7_readNumber (B + 58) 6 (MK B n I1 L Q R) = some (nI v.1, MK B n I2 L Q R) := a1
      obtain ⟨I3, u1, u2', u3⟩ := e_eats (L := L) (Q := Q) (R := R) (B := B) (n := n) (c := 94) a2 (by decide)
      have u1 : fX7_eats (B + 58) 94 (MK B n I2 L Q R) = some (bz (chAt t v.2 94), MK B n I3 L Q R) := u1
      have f3 := f2.tr u2'
      rw [a1, ob2_some, if_neg (nI_pos (by omega)), u1, ob2_some]
      dsimp only
      cases c2 : chAt t v.2 94 with
      | false =>
        rw [c2, if_neg (by decide)] at u3
        rw [if_pos (show bz false = 0 from by decide), if_neg (show ¬ false = true by decide)]
        exact hJ I3 1 v.1 0 0 v.2 f3 u3 (by decide) a3 (by decide) (by decide)
      | true =>
        rw [c2, if_pos rfl] at u3
        rw [if_neg (by decide), if_pos rfl]
        obtain ⟨I4, w1, w2⟩ := e_knee2 (L := L) (Q := Q) (R := R) (B := B) (n := n) u3
        have f4 := f3.tr w1
        have hv0 : ¬ nI v.1 < 0 := nI_pos (by omega)
        cases hg : kneeP t (v.2 + 1) with
        | none =>
          rw [hg] at w2
          obtain ⟨b1, b2⟩ := w2
          rw [b1, ob2_some, if_pos (by decide), if_neg hv0, if_neg (by decide)]
          exact fails h f4 b2 u3.2.2 hsame
        | some g =>
          rw [hg] at w2
          obtain ⟨b1, b2, b3⟩ := w2
          obtain ⟨I5, x1, x2, x3, x4⟩ := e_expects (L := L) (Q := Q) (R := R) (B := B) (n := n) (c := 58) b2 (by decide)
          have x1 : fX7_expects (B + 58) 58 (MK B n I4 L Q R) = some (bz (chAt t g.2 58), MK B n I5 L Q R) := x1
          have f5 := f4.tr x2
          rw [b1, ob2_some, if_neg (nI_pos (by omega)), x1, ob2_some]
          dsimp only
          cases c3 : chAt t g.2 58 with
          | false =>
            rw [if_pos (by decide), if_neg hv0, if_neg (by decide)]
            exact fails h f5 (x4 c3) b2.2.2 hsame
          | true =>
            have x5 := x3 c3
            obtain ⟨I6, y1, y2⟩ := e_num (L := L) (Q := Q) (R := R) (B := B) (n := n) (show 6 ≤ 6 by decide) x5
            have f6 := f5.tr y1
            rw [if_neg (by decide), if_pos rfl]
            cases hw : numP t 6 (g.2 + 1) with
            | none =>
              rw [hw] at y2
              obtain ⟨z1, z2, z3⟩ := y2
              have z1 : fX7_readNumber (B + 58) 6 (MK B n I5 L Q R) = some (-1, MK B n I6 L Q R) := z1
              rw [z1, ob2_some, if_neg hv0, if_neg (by decide)]
              exact fails h f6 z2 x5.2.2 hsame
            | some w =>
              rw [hw] at y2
              obtain ⟨z1, z2, z3⟩ := y2
              have z1 : fX7_readNumber (B + 58) 6 (MK B n I5 L Q R) = some (nI w.1, MK B n I6 L Q R) := z1
              rw [z1, ob2_some]
              exact hJ I6 2 v.1 w.1 g.1 w.2 f6 z2 (by decide) a3 z3 b3
def roadP (t : TAPE) (N : NET) (p : Nat) : Sum Nat (RD × Nat) := if nM N < 12 then (match townP t (nT N) p none with
  | none => .inl p
  | some a => if chAt t a.2 62 = true then (match townP t (nT N) (a.2 + 1) (some a.1) with
    | none => .inl (a.2 + 1)
    | some b => if chAt t b.2 61 = true then (match numP t 6 (b.2 + 1) with
      | none => .inl (b.2 + 1)
      | some v => restP t a.1 b.1 v.1 v.2) else .inl b.2) else .inl a.2) else .inl p
theorem e_readRoad {B n : Nat} {I : Nat → Nat → Int32} {L : Nat → Nat → Int64} {Q : Nat → Nat → Option Nat} {R : Nat → RDt} {s : STT} {fp : Bool} {fs : Nat → Bool} {fc : Bool} {N : NET} {t : TAPE} {p : Nat} (h : RdS B n I L Q R s fp fs fc N) (hm : nM N ≤ 12) (hA : AtP I t p) :
    PutP B I L s fp fs fc N t (fX7_readRoad (B + 58) (B + 33) (MK B n I L Q R)) (roadP t N p) := by
  have h6 := h.2.2.2.1
  have hN := h.2.1
  have hsame : ∀ a, 108 ≤ a → I a = I a ∧ L a = L a := fun _ _ => ⟨rfl, rfl⟩
  unfold fX7_readRoad roadP
  rw [g_size isN33, ob1_some, hN.2.1]
  by_cases cm : nM N < 12
  · rw [if_pos cm, if_pos (by rw [l12, nI_ltI (by omega) (by omega)]; exact cm)]
    obtain ⟨I1, r1, r2⟩ := e_town (L := L) (Q := Q) (R := R) (B := B) (n := n) (o := none) hA hN.1 h6 (fun v q => by cases q)
    cases ha : townP t (nT N) p none with
    | none =>
      rw [ha] at r2
      obtain ⟨a1, a2⟩ := r2
      have a1 : fX7_readTown (B + 58) (B + 33) (-1) (MK B n I L Q R) = some (-1, MK B n I1 L Q R) := a1
      rw [a1, ob2_some, if_pos (by decide)]
      exact fails h r1 a2 hA.2.2 hsame
    | some a =>
      rw [ha] at r2
      obtain ⟨a1, a2, a3, _⟩ := r2
      have a1 : fX7_readTown (B + 58) (B + 33) (-1) (MK B n I L Q R) = some (nI a.1, MK B n I1 L Q R) := a1
      obtain ⟨I2, u1, u2', u3, u4⟩ := e_expects (L := L) (Q := Q) (R := R) (B := B) (n := n) (c := 62) a2 (by decide)
      have u1 : fX7_expects (B + 58) 62 (MK B n I1 L Q R) = some (bz (chAt t a.2 62), MK B n I2 L Q R) := u1
      have f2 := r1.tr u2'
      rw [a1, ob2_some, if_neg (nI_pos (by omega)), u1, ob2_some]
      dsimp only
      cases c1 : chAt t a.2 62 with
      | false =>
        rw [if_pos (by decide), if_neg (by decide)]
        exact fails h f2 (u4 c1) a2.2.2 hsame
      | true =>
        have u5 := u3 c1
        rw [if_neg (by decide), if_pos rfl]
        obtain ⟨I3, v1, v2⟩ := e_town (L := L) (Q := Q) (R := R) (B := B) (n := n) (o := some a.1) u5 (show I2 33 0 = nI (nT N) by rw [f2.1 33 (by decide)]; exact hN.1) h6 (fun v q => by rw [← Option.some.inj q]; omega)
        have f3 := f2.tr v1
        cases hb : townP t (nT N) (a.2 + 1) (some a.1) with
        | none =>
          rw [hb] at v2
          obtain ⟨b1, b2⟩ := v2
          have b1 : fX7_readTown (B + 58) (B + 33) (nI a.1) (MK B n I2 L Q R) = some (-1, MK B n I3 L Q R) := b1
          rw [b1, ob2_some, if_pos (by decide)]
          exact fails h f3 b2 u5.2.2 hsame
        | some b =>
          rw [hb] at v2
          obtain ⟨b1, b2, b3, b4⟩ := v2
          have b1 : fX7_readTown (B + 58) (B + 33) (nI a.1) (MK B n I2 L Q R) = some (nI b.1, MK B n I3 L Q R) := b1
          obtain ⟨I4, w1, w2, w3, w4⟩ := e_expects (L := L) (Q := Q) (R := R) (B := B) (n := n) (c := 61) b2 (by decide)
          have w1 : fX7_expects (B + 58) 61 (MK B n I3 L Q R) = some (bz (chAt t b.2 61), MK B n I4 L Q R) := w1
          have f4 := f3.tr w2
          rw [b1, ob2_some, if_neg (nI_pos (by omega)), w1, ob2_some]
          dsimp only
          cases c2 : chAt t b.2 61 with
          | false =>
            rw [if_pos (by decide), if_neg (by decide)]
            exact fails h f4 (w4 c2) b2.2.2 hsame
          | true =>
            have w5 := w3 c2
            rw [if_neg (by decide), if_pos rfl]
            obtain ⟨I5, x1, x2⟩ := e_num (L := L) (Q := Q) (R := R) (B := B) (n := n) (show 6 ≤ 6 by decide) w5
            have f5 := f4.tr x1
            cases hv : numP t 6 (b.2 + 1) with
            | none =>
              rw [hv] at x2
              obtain ⟨y1, y2, y3⟩ := x2
              have y1 : fX7_readNumber (B + 58) 6 (MK B n I4 L Q R) = some (-1, MK B n I5 L Q R) := y1
              rw [y1, ob2_some, if_pos (by decide)]
              exact fails h f5 y2 w5.2.2 hsame
            | some v =>
              rw [hv] at x2
              obtain ⟨y1, y2, y3⟩ := x2
              have y1 : fX7_readNumber (B + 58) 6 (MK B n I4 L Q R) = some (nI v.1, MK B n I5 L Q R) := y1
              rw [y1, ob2_some, if_neg (nI_pos (by omega))]
              have hab : a.1 ≠ b.1 := fun q => b4 (by rw [q])
              have hr := e_rest (h.tf f5) hm y2 a3 b3 hab y3
              dsimp only
              cases hx : restP t a.1 b.1 v.1 v.2 with
              | inl f =>
                rw [hx] at hr
                obtain ⟨n', I', L', Q', R', q1, q2, q3, q4, q5⟩ := hr
                refine ⟨n', I', L', Q', R', ?_, q2, q3, q4, fun a ha => ⟨by rw [(q5 a ha).1, f5.hi ha], (q5 a ha).2⟩⟩
                rw [q1, ob2_some, if_pos rfl]
              | inr w =>
                rw [hx] at hr
                obtain ⟨n', I', L', Q', R', q1, q2, q3, q4⟩ := hr
                refine ⟨n', I', L', Q', R', ?_, q2, q3, fun a ha => ⟨by rw [(q4 a ha).1, f5.hi ha], (q4 a ha).2⟩⟩
                rw [q1, ob2_some, if_neg (by decide)]
  · rw [if_neg cm, if_neg (by rw [l12, nI_ltI (by omega) (by omega)]; exact cm), g_at, ob1_some, e_failsAt, ob2_some, show zb 0 = true from zb0, gd_true, hA.2.1]
    exact fails h (TF.u (Or.inr rfl)) u2_eq hA.2.2 hsame
/-! all the roads -/
def allP (t : TAPE) : Nat → NET → Nat → Nat → Sum Nat (NET × Nat)
  | 0, _, p, _ => .inl p
  | f + 1, N, p, c => match roadP t N p with
    | .inl q => .inl q
    | .inr v => if v.2 < t.1 then (if chAt t v.2 59 = true then allP t f (putRd N v.1) (v.2 + 1) (c + 1) else .inl v.2) else .inr (putRd N v.1, c + 1)
def PutA (B : Nat) (I : Nat → Nat → Int32) (L : Nat → Nat → Int64) (s : STT) (fp : Bool) (fs : Nat → Bool) (fc : Bool) (o : Option (Int32 × AH)) (x : Sum Nat (NET × Nat)) : Prop := match x with
  | .inl f => ∃ n' I' L' Q' R', o = some ((-100 : Int32) - nI f, MK B n' I' L' Q' R') ∧ RepC B n' I' L' Q' R' s fp fs fc ∧ f ≤ (stT s).1 ∧ ∀ a, 108 ≤ a → I' a = I a ∧ L' a = L a
  | .inr v => ∃ n' I' L' Q' R', o = some (nI v.2, MK B n' I' L' Q' R') ∧ RdS B n' I' L' Q' R' s fp fs fc v.1 ∧ nM v.1 ≤ 12 ∧ v.2 ≤ 13 ∧ ∀ a, 108 ≤ a → I' a = I a ∧ L' a = L a
theorem e_all_L7 {B : Nat} {Ia : Nat → Nat → Int32} {La : Nat → Nat → Int64} {s : STT} {fp : Bool} {fs : Nat → Bool} {fc : Bool} (k : AH → Option (Int32 × AH)) :
    ∀ (m n' c p : Nat) (N : NET) (n : Nat) (I : Nat → Nat → Int32) (L : Nat → Nat → Int64) (Q : Nat → Nat → Option Nat) (R : Nat → RDt), c + m = 14 → m ≤ n' → c ≤ nM N → nM N ≤ 12 → RdS B n I L Q R s fp fs fc N → AtP I (stT s) p → (∀ a, 108 ≤ a → I a = Ia a ∧ L a = La a) →
    PutA B Ia La s fp fs fc (fX7_readInto_L7 (B + 58) (B + 33) k n' (nI c) (MK B n I L Q R)) (allP (stT s) m N p c) := by
  intro m
  induction m with
  | zero =>
    intro n' c p N n I L Q R hc hn hcm hm12
    omega
  | succ m ih =>
    intro n' c p N n I L Q R hc hn hcm hm12 h hA hF
    obtain ⟨n1, rfl⟩ := suc_of (show m < n' by omega)
    have hr := e_readRoad h hm12 hA
    rw [fX7_readInto_L7, if_neg (by rw [l12, nI_ltI (by omega) (by omega)]; omega), allP]
    cases hx : roadP (stT s) N p with
    | inl f =>
      rw [hx] at hr
      obtain ⟨n2, I2, L2, Q2, R2, q1, q2, q3, q4, q5⟩ := hr
      refine ⟨n2, I2, L2, Q2, R2, ?_, q2.1, q4, fun a ha => ⟨by rw [(q5 a ha).1, (hF a ha).1], by rw [(q5 a ha).2, (hF a ha).2]⟩⟩
      rw [q1, ob2_some, if_pos rfl, g_fault, ob1_some, q3]
    | inr w =>
      have h12 : nM N < 12 := by
        refine Nat.lt_of_not_le fun g => ?_
        rw [roadP, if_neg (by omega)] at hx
        cases hx
      rw [hx] at hr
      obtain ⟨n2, I2, L2, Q2, R2, q1, q2, q3, q4⟩ := hr
      have hF2 : ∀ a, 108 ≤ a → I2 a = Ia a ∧ L2 a = La a := fun a ha => ⟨by rw [(q4 a ha).1, (hF a ha).1], by rw [(q4 a ha).2, (hF a ha).2]⟩
      obtain ⟨⟨t1, t2, t3⟩, a2, a3⟩ := id q3
      have hm' : nM (putRd N w.1) = nM N + 1 := rfl
      rw [q1, ob2_some, if_neg (by decide), g_at, ob1_some, g_tlen, ob1_some, a2, t1]
      dsimp only
      by_cases c1 : w.2 < (stT s).1
      · rw [if_pos c1, if_pos (by rw [nI_ltI (by omega) (by omega)]; exact c1)]
        obtain ⟨I3, u1, u2', u3, u4⟩ := e_expects (L := L2) (Q := Q2) (R := R2) (B := B) (n := n2) (c := 59) q3 (by decide)
        have u1 : fX7_expects (B + 58) 59 (MK B n2 I2 L2 Q2 R2) = some (bz (chAt (stT s) w.2 59), MK B n2 I3 L2 Q2 R2) := u1
        have hF3 : ∀ a, 108 ≤ a → I3 a = Ia a ∧ L2 a = La a := fun a ha => ⟨by rw [u2'.hi ha, (hF2 a ha).1], (hF2 a ha).2⟩
        rw [u1, ob2_some]
        cases c2 : chAt (stT s) w.2 59 with
        | false =>
          rw [if_pos (show bz false = 0 from by decide), if_neg (show ¬ false = true by decide), g_fault, ob1_some, u4 c2]
          exact ⟨n2, I3, L2, Q2, R2, rfl, (q2.tf u2').1, a3, hF3⟩
        | true =>
          rw [if_neg (show ¬ bz true = 0 by decide), if_pos rfl, bnd_eq, nI_1]
          exact ih n1 (c + 1) (w.2 + 1) (putRd N w.1) n2 I3 L2 Q2 R2 (by omega) (by omega) (by omega) (by omega) (q2.tf u2') (u3 c2) hF3
      · rw [if_neg c1, if_neg (by rw [nI_ltI (by omega) (by omega)]; exact c1), nI_1]
        exact ⟨n2, I2, L2, Q2, R2, rfl, q2, by show nM N + 1 ≤ 12; omega, by show c + 1 ≤ 13; omega, hF2⟩
def A_roads (s : STT) : Int32 × STT := match allP (stT s) 14 (stN s) 0 0 with
  | .inl f => ((-100 : Int32) - nI f, setT s (0, (stT s).2))
  | .inr v => (nI v.2, setN (setT s (0, (stT s).2)) v.1)
theorem c_roads {B n : Nat} {I : Nat → Nat → Int32} {L : Nat → Nat → Int64} {Q : Nat → Nat → Option Nat} {R : Nat → RDt} {s : STT} (h : IsC B n I L Q R s) : RunC B I L (fX9_roads B (MK B n I L Q R)) (A_roads s) := by
  obtain ⟨fp, fs, fc, h0⟩ := id h
  have hN := h0.1.2.1
  have hO := h0.1.2.2.1
  have hm12 := h0.1.2.2.2.1
  have hT := h0.1.2.2.2.2.2.1
  obtain ⟨I1, L1, Q1, a1, a2, a3, a4, a5⟩ := e_copyFrom isN33 isN1 (by decide) hN (by omega)
  have hC1 : Core B n I1 L1 Q1 R s := h0.1.sameQ (by rw [a3 0 (by omega)]) (fun a ha => a3 a (by omega)) (fun a ha => a4 a (by omega)) (fun a ha => a5 a ha)
  have hR1 : RepC B n I1 L1 Q1 R s fp fs fc := ⟨hC1, h0.2.1.same (by rw [a3 0 (by omega)]) (by rw [a3 0 (by omega)]) (fun a ha => a3 a (by omega)) (fun a ha => a4 a (by omega)), ⟨h0.2.2.1.same (fun a b1 b2 => a3 a (by omega)), h0.2.2.2.1.same (fun a b1 b2 => a3 a (by omega)), fun x hx => by rw [a4 _ (by unfold isS at hx; omega)]; exact h0.2.2.2.2 x hx⟩⟩
  have hS1 : RdS B n I1 L1 Q1 R s fp fs fc (stN s) := ⟨hR1, a2, hO⟩
  have hS2 : RdS B n (u2 I1 58 2 0) L1 Q1 R s fp fs fc (stN s) := hS1.tf (TF.u (Or.inl rfl))
  have hA2 : AtP (u2 I1 58 2 0) (stT s) 0 := ⟨hS2.1.1.2.2.2.2.2.1, u2_eq, Nat.zero_le _⟩
  have hF2 : ∀ a, 108 ≤ a → u2 I1 58 2 0 a = I a ∧ L1 a = L a := fun a ha => ⟨by rw [u2_nk (by omega), a3 a (by omega)], a4 a (by omega)⟩
  have hr := e_all_L7 (fun (g22 : AH) => ob1 (gI g22 (B + 58) 7 2) fun v23 => some ((-100 : Int32) - v23, g22)) 14 14 0 0 (stN s) n (u2 I1 58 2 0) L1 Q1 R (by omega) (by omega) (by omega) hm12 hS2 hA2 hF2
  have hneg : ∀ f, f ≤ 100 → (-100 : Int32) - nI f < 0 := fun f hf => by
    rw [Int32.lt_iff_toInt_lt, Int32.toInt_sub, nI_toInt (by omega), show (-100 : Int32).toInt = -100 from rfl, show (0 : Int32).toInt = 0 from rfl, Int.bmod_eq_of_le (by omega) (by omega)]
    omega
  unfold fX9_roads A_roads fX7_readInto
  rw [g_WthoughtNet, ob1_some, g_Wnow, ob1_some, k_Net isN33, gd_true, a1, ob1_some, g_Wtape, ob1_some, g_WthoughtNet, ob1_some, k_Tape, gd_true, p_at, ob1_some]
  cases hx : allP (stT s) 14 (stN s) 0 0 with
  | inl f =>
    rw [hx] at hr
    obtain ⟨n', I', L', Q', R', q1, q2, q3, q4⟩ := hr
    have q1 : fX7_readInto_L7 (B + 58) (B + 33) (fun (g22 : AH) => ob1 (gI g22 (B + 58) 7 2) fun v23 => some ((-100 : Int32) - v23, g22)) 14 0 (MK B n (u2 I1 58 2 0) L1 Q1 R) = some ((-100 : Int32) - nI f, MK B n' I' L' Q' R') := q1
    have hc := tape_clear ⟨fp, fs, fc, q2⟩
    refine ⟨n', u2 I' 58 0 0, L', Q', R', ?_, hc, fun a ha => ⟨by rw [u2_nk (by omega), (q4 a ha).1], (q4 a ha).2⟩⟩
    rw [q1, ob2_some, g_Wtape, ob1_some, p_tlen, ob1_some, if_pos (hneg f (by have := hT.2.1; omega))]
  | inr v =>
    rw [hx] at hr
    obtain ⟨n', I', L', Q', R', q1, q2, q3, q4, q5⟩ := hr
    have q1 : fX7_readInto_L7 (B + 58) (B + 33) (fun (g22 : AH) => ob1 (gI g22 (B + 58) 7 2) fun v23 => some ((-100 : Int32) - v23, g22)) 14 0 (MK B n (u2 I1 58 2 0) L1 Q1 R) = some (nI v.2, MK B n' I' L' Q' R') := q1
    obtain ⟨fp3, fs3, fc3, hc⟩ := tape_clear ⟨fp, fs, fc, q2.1⟩
    have hN3 : NetIs B n' (u2 I' 58 0 0) L' Q' R' 33 v.1 := q2.2.1.same (fun k _ _ => u2_nk (by omega)) rfl
    obtain ⟨I4, L4, Q4, b1, b2, b3, b4, b5⟩ := e_copyFrom isN1 isN33 (by decide) hN3 (by omega)
    have hC4 := hc.1.setNow b2 q2.2.2 q3 (fun a ha => b3 a (by omega)) (fun a ha => b4 a ha) (fun a ha => b5 a ha)
    obtain ⟨I5, t1, t2, t3⟩ := done_changed hC4 (hc.2.2.same (fun a c1 c2 => b3 a (by omega)) (fun x hx => b4 _ (by unfold isS at hx; omega)))
    refine ⟨n', I5, L4, Q4, R', ?_, t2, fun a ha => ⟨by rw [t3 a (by omega) (by omega), b3 a (by omega), u2_nk (by omega), (q5 a ha).1], by rw [b4 a (by omega), (q5 a ha).2]⟩⟩
    rw [q1, ob2_some, g_Wtape, ob1_some, p_tlen, ob1_some, if_neg (nI_pos (by omega)), g_Wnow, ob1_some, g_WthoughtNet, ob1_some, k_Net isN1, gd_true, b1, ob1_some, t1, ob1_some]
