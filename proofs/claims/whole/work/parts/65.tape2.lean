def kneeP (t : TAPE) (p : Nat) : Option (Nat × Nat) := match numP t 2 p with
  | some v => if v.1 ≤ 36 then some v else none
  | none => none
theorem e_knee2 {B n : Nat} {I : Nat → Nat → Int32} {L : Nat → Nat → Int64} {Q : Nat → Nat → Option Nat} {R : Nat → RDt} {t : TAPE} {p : Nat} (h : AtP I t p) : ∃ I' : Nat → Nat → Int32, TF I I' ∧ (match kneeP t p with
  | some v => fX7_readKnee (B + 58) (MK B n I L Q R) = some (nI v.1, MK B n I' L Q R) ∧ AtP I' t v.2 ∧ v.1 ≤ 36
  | none => fX7_readKnee (B + 58) (MK B n I L Q R) = some (-1, MK B n I' L Q R) ∧ I' 58 3 = nI p) := by
  obtain ⟨I1, r1, r2⟩ := e_num (L := L) (Q := Q) (R := R) (B := B) (n := n) (show 2 ≤ 6 by decide) h
  unfold kneeP fX7_readKnee
  cases hv : numP t 2 p with
  | none =>
    rw [hv] at r2
    obtain ⟨a1, a2, a3⟩ := r2
    have a1 : fX7_readNumber (B + 58) 2 (MK B n I L Q R) = some (-1, MK B n I1 L Q R) := a1
    refine ⟨I1, r1, ?_, a2⟩
    rw [g_at, ob1_some, a1, ob2_some, if_pos (by decide)]
  | some v =>
    rw [hv] at r2
    obtain ⟨a1, a2, a3⟩ := r2
    have a1 : fX7_readNumber (B + 58) 2 (MK B n I L Q R) = some (nI v.1, MK B n I1 L Q R) := a1
    dsimp only
    rw [g_at, ob1_some, a1, ob2_some]
    by_cases c : v.1 ≤ 36
    · rw [if_pos c, if_pos (by rw [l36, nI_leI (by omega) (by omega)]; exact c)]
      exact ⟨I1, r1, rfl, a2, c⟩
    · rw [if_neg c, if_neg (by rw [l36, nI_leI (by omega) (by omega)]; exact c), h.2.1, e_failsAt, ob2_some]
      exact ⟨u2 I1 58 3 (nI p), r1.tr (TF.u (Or.inr rfl)), rfl, u2_eq⟩
def townP (t : TAPE) (T p : Nat) (o : Option Nat) : Option (Nat × Nat) := match numP t 1 p with
  | some v => if T ≤ v.1 then none else if o = some v.1 then none else some v
  | none => none
theorem e_town {B n : Nat} {I : Nat → Nat → Int32} {L : Nat → Nat → Int64} {Q : Nat → Nat → Option Nat} {R : Nat → RDt} {t : TAPE} {p T : Nat} {o : Option Nat} (h : AtP I t p) (hT : I 33 0 = nI T) (h6 : T ≤ 6) (ho : ∀ v, o = some v → v < 6) : ∃ I' : Nat → Nat → Int32, TF I I' ∧ (match townP t T p o with
  | some v => fX7_readTown (B + 58) (B + 33) (oI o) (MK B n I L Q R) = some (nI v.1, MK B n I' L Q R) ∧ AtP I' t v.2 ∧ v.1 < T ∧ o ≠ some v.1
  | none => fX7_readTown (B + 58) (B + 33) (oI o) (MK B n I L Q R) = some (-1, MK B n I' L Q R) ∧ I' 58 3 = nI p) := by
  obtain ⟨I1, r1, r2⟩ := e_num (L := L) (Q := Q) (R := R) (B := B) (n := n) (show 1 ≤ 6 by decide) h
  have hT1 : I1 33 0 = nI T := by rw [r1.1 33 (by decide)]; exact hT
  unfold townP fX7_readTown
  cases hv : numP t 1 p with
  | none =>
    rw [hv] at r2
    obtain ⟨a1, a2, a3⟩ := r2
    have a1 : fX7_readNumber (B + 58) 1 (MK B n I L Q R) = some (-1, MK B n I1 L Q R) := a1
    refine ⟨I1, r1, ?_, a2⟩
    rw [g_at, ob1_some, a1, ob2_some, g_towns isN33, ob1_some, hT1, if_neg (by rw [m1_lit, le_m1 (by omega)]; exact id), if_pos (by decide)]
  | some v =>
    rw [hv] at r2
    obtain ⟨a1, a2, a3⟩ := r2
    have a1 : fX7_readNumber (B + 58) 1 (MK B n I L Q R) = some (nI v.1, MK B n I1 L Q R) := a1
    dsimp only
    rw [g_at, ob1_some, a1, ob2_some, g_towns isN33, ob1_some, hT1]
    by_cases c : T ≤ v.1
    · rw [if_pos c, if_pos (by rw [nI_leI (by omega) (by omega)]; exact c), h.2.1, e_failsAt, ob2_some]
      exact ⟨u2 I1 58 3 (nI p), r1.tr (TF.u (Or.inr rfl)), rfl, u2_eq⟩
    · have zT : ¬ nI T ≤ nI v.1 := by rw [nI_leI (by omega) (by omega)]; exact c
      have zP : ¬ nI v.1 < 0 := nI_pos (by omega)
      rw [if_neg c, if_neg zT, if_neg zP]
      by_cases e : o = some v.1
      · have zE : nI v.1 = oI o := by rw [e]; rfl
        rw [if_pos e, if_pos zE, h.2.1, e_failsAt, ob2_some]
        exact ⟨u2 I1 58 3 (nI p), r1.tr (TF.u (Or.inr rfl)), rfl, u2_eq⟩
      · have z : ¬ nI v.1 = oI o := fun q => by
          cases o with
          | none =>
            have q : nI v.1 = m1 := q
            rw [eq_m1 (by omega)] at q
            exact q
          | some b =>
            have q : nI v.1 = nI b := q
            have := ho b rfl
            rw [nI_eq (by omega) (by omega)] at q
            exact e (by rw [q])
        rw [if_neg e, if_neg z]
        exact ⟨I1, r1, rfl, a2, by omega, e⟩
def restP (t : TAPE) (j k b p : Nat) : Sum Nat (RD × Nat) := if chAt t p 43 = true then (match numP t 6 (p + 1) with
  | none => .inl (p + 1)
  | some v => if chAt t v.2 94 = true then (match kneeP t (v.2 + 1) with
    | none => .inl (v.2 + 1)
    | some g => if chAt t g.2 58 = true then (match numP t 6 (g.2 + 1) with
      | none => .inl (g.2 + 1)
      | some w => .inr ((j, k, 2, b, v.1, w.1, g.1), w.2)) else .inl g.2) else .inr ((j, k, 1, b, v.1, 0, 0), v.2)) else .inr ((j, k, 0, b, 0, 0, 0), p)
/-- what holds as the roads are read -/
def RdS (B n : Nat) (I : Nat → Nat → Int32) (L : Nat → Nat → Int64) (Q : Nat → Nat → Option Nat) (R : Nat → RDt) (s : STT) (fp : Bool) (fs : Nat → Bool) (fc : Bool) (N : NET) : Prop := RepC B n I L Q R s fp fs fc ∧ NetIs B n I L Q R 33 N ∧ NetOK N
theorem RdS.tf {B n : Nat} {I : Nat → Nat → Int32} {L : Nat → Nat → Int64} {Q : Nat → Nat → Option Nat} {R : Nat → RDt} {I' : Nat → Nat → Int32} {s : STT} {fp : Bool} {fs : Nat → Bool} {fc : Bool} {N : NET} (h : RdS B n I L Q R s fp fs fc N) (hf : TF I I') : RdS B n I' L Q R s fp fs fc N := by
  obtain ⟨h1, h2, h3⟩ := h
  have hC := h1.1
  obtain ⟨g0, g1, g2, g3, g4, g5, g6, g7⟩ := hC
  have hC1 : Core B n I' L Q R s := ⟨g0, g1.same (fun k a b => hf.1 k (by omega)) rfl, g2, g3, g4.same (by rw [hf.1 0 (by decide)]) (fun a a1 a2 => hf.1 a (by omega)) rfl, g5.same (hf.2 0 (by decide) (by decide)) (hf.1 59 (by decide)), fun t ht => (g6 t ht).same (hf.1 _ (by omega)) rfl, fun l hl => (g7 l hl).same (hf.1 _ (by omega)) rfl⟩
  exact ⟨h1.core hC1 rfl (fun a ha => hf.1 a (by omega)) (by rw [hf.1 0 (by decide)]) (by rw [hf.1 0 (by decide)]) (fun _ _ => rfl), h2.same (fun k a b => hf.1 k (by omega)) rfl, h3⟩
def PutP (B : Nat) (I : Nat → Nat → Int32) (L : Nat → Nat → Int64) (s : STT) (fp : Bool) (fs : Nat → Bool) (fc : Bool) (N : NET) (t : TAPE) (o : Option (Int32 × AH)) (x : Sum Nat (RD × Nat)) : Prop := match x with
  | .inl f => ∃ n' I' L' Q' R', o = some (0, MK B n' I' L' Q' R') ∧ RdS B n' I' L' Q' R' s fp fs fc N ∧ I' 58 3 = nI f ∧ f ≤ t.1 ∧ ∀ a, 108 ≤ a → I' a = I a ∧ L' a = L a
  | .inr v => ∃ n' I' L' Q' R', o = some (1, MK B n' I' L' Q' R') ∧ RdS B n' I' L' Q' R' s fp fs fc (putRd N v.1) ∧ AtP I' t v.2 ∧ ∀ a, 108 ≤ a → I' a = I a ∧ L' a = L a
theorem e_putIt {B n : Nat} {I : Nat → Nat → Int32} {L : Nat → Nat → Int64} {Q : Nat → Nat → Option Nat} {R : Nat → RDt} {s : STT} {fp : Bool} {fs : Nat → Bool} {fc : Bool} {N : NET} {t : TAPE} {p : Nat} {d : RD} {Ia : Nat → Nat → Int32} (h : RdS B n I L Q R s fp fs fc N) (hm : nM N ≤ 12) (hA : AtP I t p) (hd : RDok d) (h1 : dFrom d < nT N) (h2 : dTo d < nT N) (h3 : dFrom d ≠ dTo d) (hF : ∀ a, 108 ≤ a → I a = Ia a) :
    PutP B Ia L s fp fs fc N t (ob1 (fX3_init n (nI (dFrom d)) (nI (dTo d)) (nI (dKind d)) (lN (dBase d)) (lN (dSlope d)) (lN (dSteep d)) (nI (dKnee d)) (hnew (MK B n I L Q R) (.inr (3, [.int 0, .int 0, .int 0, .long 0, .long 0, .long 0, .int 0])))) fun g12 =>
        gd (ckO g12 (B + 33) 1) <|
        ob1 (fX1_append (B + 33) n g12) fun g15 =>
        some ((1 : Int32), g15)) (.inr (d, p)) := by
  obtain ⟨hR, hN, hO⟩ := h
  have hn := hR.1.1
  have hg := e_newRoad (B := B) (n := n) (I := I) (L := L) (Q := Q) (R := R) (x1 := nI (dFrom d)) (x2 := nI (dTo d)) (x3 := nI (dKind d)) (x4 := lN (dBase d)) (x6 := lN (dSlope d)) (x8 := lN (dSteep d)) (x10 := nI (dKnee d)) hn
  have hC2 := hR.1.grow (d := rdI d)
  have hN2 := hN.grow (d := rdI d) (by omega)
  obtain ⟨g1, g2⟩ := rda_is (R := R) (d := d) hn
  obtain ⟨p1, p2⟩ := e_append isN33 hN2 (by omega) g2 g1
  have hI : ∀ a, a ≠ 33 → u2 I 33 1 (nI (nM N + 1)) a = I a := fun a ha => u2_nk ha
  have hC3 := hC2.sameQ (I' := u2 I 33 1 (nI (nM N + 1))) (L' := u2 L (33 + 2) (nM N) (lN 0)) (Q' := u2 Q (33 + 1) (nM N) (some n)) (by rw [hI 0 (by decide)]) (fun a ha => hI a (by omega)) (fun a ha => u2_nk (by omega)) (fun a ha => u2_nk (by omega))
  have hR3 : RepC B (n + 1) (u2 I 33 1 (nI (nM N + 1))) (u2 L (33 + 2) (nM N) (lN 0)) (u2 Q (33 + 1) (nM N) (some n)) (updR R n (rdI d)) s fp fs fc := ⟨hC3, hR.2.1.same (by rw [hI 0 (by decide)]) (by rw [hI 0 (by decide)]) (fun a ha => hI a (by omega)) (fun a ha => u2_nk (by omega)), ⟨hR.2.2.1.same (fun a b1 b2 => hI a (by omega)), hR.2.2.2.1.same (fun a b1 b2 => hI a (by omega)), fun x hx => by rw [u2_nk (by unfold isS at hx; omega)]; exact hR.2.2.2.2 x hx⟩⟩
  refine ⟨n + 1, _, _, _, _, ?_, ⟨hR3, p2, putRd_ok hO hm hd h1 h2 h3⟩, ⟨hA.1.same (by rw [hI 58 (by decide)]) (hI 59 (by decide)), by rw [hI 58 (by decide)]; exact hA.2.1, hA.2.2⟩, fun a ha => ⟨by rw [hI a (by omega), hF a ha], u2_nk (by omega)⟩⟩
  rw [hg, ob1_some, k_Net isN33, gd_true]
  have p1' : fX1_append (B + 33) n (MK B (n + 1) I L Q (updR R n (rdI d))) = some (MK B (n + 1) (u2 I 33 1 (nI (nM N + 1))) (u2 L (33 + 2) (nM N) (lN 0)) (u2 Q (33 + 1) (nM N) (some n)) (updR R n (rdI d))) := p1
  have p1'' : fX1_append (B + 33) n (MK B (n + 1) I L Q (updR R n (nI (dFrom d), nI (dTo d), nI (dKind d), lN (dBase d), lN (dSlope d), lN (dSteep d), nI (dKnee d)))) = some (MK B (n + 1) (u2 I 33 1 (nI (nM N + 1))) (u2 L (33 + 2) (nM N) (lN 0)) (u2 Q (33 + 1) (nM N) (some n)) (updR R n (rdI d))) := p1'
  rw [p1'', ob1_some]
