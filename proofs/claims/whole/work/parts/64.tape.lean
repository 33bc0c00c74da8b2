/-! the tape, read -/
def chAt (t : TAPE) (p c : Nat) : Bool := decide (p < t.1 ∧ t.2 p = c)
def dgs (t : TAPE) : Nat → Nat → Nat → Nat × Nat
  | 0, p, a => (a, p)
  | k + 1, p, a => if p < t.1 ∧ 48 ≤ t.2 p ∧ t.2 p ≤ 57 then dgs t k (p + 1) (a * 10 + t.2 p - 48) else (a, p)
def numP (t : TAPE) (k p : Nat) : Option (Nat × Nat) := if (dgs t k p 0).2 = p then none else some (dgs t k p 0)
theorem dgs_b (t : TAPE) : ∀ (k p a : Nat), (dgs t k p a).1 + 1 ≤ (a + 1) * 10 ^ k ∧ p ≤ (dgs t k p a).2 ∧ (dgs t k p a).2 ≤ p + k ∧ (p ≤ t.1 → (dgs t k p a).2 ≤ t.1)
  | 0, p, a => by
    rw [dgs]
    exact ⟨by omega, Nat.le_refl _, Nat.le_refl _, fun h => h⟩
  | k + 1, p, a => by
    rw [dgs]
    by_cases c : p < t.1 ∧ 48 ≤ t.2 p ∧ t.2 p ≤ 57
    · rw [if_pos c]
      obtain ⟨h1, h2, h3, h4⟩ := dgs_b t k (p + 1) (a * 10 + t.2 p - 48)
      refine ⟨?_, by omega, by omega, fun _ => h4 (by omega)⟩
      have e : (a * 10 + t.2 p - 48 + 1) * 10 ^ k ≤ ((a + 1) * 10) * 10 ^ k := Nat.mul_le_mul_right _ (by omega)
      rw [Nat.pow_succ, Nat.mul_comm (10 ^ k) 10, ← Nat.mul_assoc]
      omega
    · rw [if_neg c]
      have : 1 ≤ 10 ^ (k + 1) := Nat.one_le_pow _ _ (by decide)
      have e : (a + 1) * 1 ≤ (a + 1) * 10 ^ (k + 1) := Nat.mul_le_mul_left _ this
      exact ⟨by omega, Nat.le_refl _, by omega, fun h => h⟩
def TF (I I' : Nat → Nat → Int32) : Prop := (∀ a, a ≠ 58 → I' a = I a) ∧ ∀ j, j ≠ 2 → j ≠ 3 → I' 58 j = I 58 j
theorem TF.rf {I : Nat → Nat → Int32} : TF I I := ⟨fun _ _ => rfl, fun _ _ _ => rfl⟩
theorem TF.tr {I I1 I2 : Nat → Nat → Int32} (h : TF I I1) (g : TF I1 I2) : TF I I2 := ⟨fun a ha => by rw [g.1 a ha, h.1 a ha], fun j a b => by rw [g.2 j a b, h.2 j a b]⟩
theorem TF.u {I : Nat → Nat → Int32} {j : Nat} {v : Int32} (h : j = 2 ∨ j = 3) : TF I (u2 I 58 j v) := ⟨fun a ha => u2_nk ha, fun i h1 h2 => u2_ne (by omega)⟩
def AtP (I : Nat → Nat → Int32) (t : TAPE) (p : Nat) : Prop := TapeIs I t ∧ I 58 2 = nI p ∧ p ≤ t.1
theorem AtP.tf {I I' : Nat → Nat → Int32} {t : TAPE} {p q : Nat} (h : AtP I t p) (hf : TF I I') (hq : I' 58 2 = nI q) (hl : q ≤ t.1) : AtP I' t q := ⟨h.1.same (hf.2 0 (by decide) (by decide)) (hf.1 59 (by decide)), hq, hl⟩
theorem e_eats {B n : Nat} {I : Nat → Nat → Int32} {L : Nat → Nat → Int64} {Q : Nat → Nat → Option Nat} {R : Nat → RDt} {t : TAPE} {p c : Nat} (h : AtP I t p) (hc : c < 128) : ∃ I' : Nat → Nat → Int32, fX7_eats (B + 58) (nI c) (MK B n I L Q R) = some (bz (chAt t p c), MK B n I' L Q R) ∧ TF I I' ∧ AtP I' t (if chAt t p c = true then p + 1 else p) := by
  obtain ⟨⟨t1, t2, t3⟩, h2, h3⟩ := id h
  unfold fX7_eats
  rw [g_at, ob1_some, g_tlen, ob1_some, t1, h2]
  by_cases e : p < t.1
  · obtain ⟨b1, b2, b3⟩ := t3 p e
    rw [if_neg (by rw [nI_leI (by omega) (by omega)]; omega), g_bytes, ob1_some, ob1_some, a_bytes (by omega), ob1_some, b1]
    by_cases g : t.2 p = c
    · have hb : chAt t p c = true := decide_eq_true ⟨e, g⟩
      refine ⟨u2 I 58 2 (nI (p + 1)), ?_, TF.u (Or.inl rfl), h.tf (TF.u (Or.inl rfl)) (by rw [hb, if_pos rfl, u2_eq]) (by rw [hb, if_pos rfl]; omega)⟩
      rw [hb, if_pos (by rw [g]), ob1_some, nI_1, p_at, ob1_some]
      rfl
    · have hb : chAt t p c = false := decide_eq_false (fun q => g q.2)
      refine ⟨I, ?_, TF.rf, h.tf TF.rf (by rw [hb, if_neg (by decide)]; exact h2) (by rw [hb, if_neg (by decide)]; exact h3)⟩
      rw [hb, if_neg (by rw [nI_eq (by omega) (by omega)]; exact g)]
      rfl
  · have hb : chAt t p c = false := decide_eq_false (fun q => e q.1)
    refine ⟨I, ?_, TF.rf, h.tf TF.rf (by rw [hb, if_neg (by decide)]; exact h2) (by rw [hb, if_neg (by decide)]; exact h3)⟩
    rw [hb, if_pos (by rw [nI_leI (by omega) (by omega)]; omega)]
    rfl
theorem e_failsAt {B n : Nat} {I : Nat → Nat → Int32} {L : Nat → Nat → Int64} {Q : Nat → Nat → Option Nat} {R : Nat → RDt} {x : Int32} : fX7_failsAt (B + 58) x (MK B n I L Q R) = some (0, MK B n (u2 I 58 3 x) L Q R) := by
  unfold fX7_failsAt
  rw [p_fault, ob1_some]
theorem e_expects {B n : Nat} {I : Nat → Nat → Int32} {L : Nat → Nat → Int64} {Q : Nat → Nat → Option Nat} {R : Nat → RDt} {t : TAPE} {p c : Nat} (h : AtP I t p) (hc : c < 128) : ∃ I' : Nat → Nat → Int32, fX7_expects (B + 58) (nI c) (MK B n I L Q R) = some (bz (chAt t p c), MK B n I' L Q R) ∧ TF I I' ∧ (chAt t p c = true → AtP I' t (p + 1)) ∧ (chAt t p c = false → I' 58 3 = nI p) := by
  obtain ⟨I1, r1, r2, r3⟩ := e_eats (L := L) (Q := Q) (R := R) (B := B) (n := n) h hc
  unfold fX7_expects
  rw [r1, ob2_some]
  cases hb : chAt t p c with
  | true =>
    rw [hb, if_pos rfl] at r3
    exact ⟨I1, by rw [if_neg (by decide)]; rfl, r2, fun _ => r3, fun q => (by cases q)⟩
  | false =>
    rw [hb, if_neg (by decide)] at r3
    refine ⟨u2 I1 58 3 (nI p), ?_, r2.tr (TF.u (Or.inr rfl)), fun q => (by cases q), fun _ => u2_eq⟩
    rw [if_pos (by decide), g_at, ob1_some, r3.2.1, e_failsAt, ob2_some, if_pos rfl]
    rfl
theorem nI_mulx (a b : Nat) : nI a * nI b = nI (a * b) := (Int32.ofNat_mul a b).symm
theorem mul10 {a c : Nat} (h : 48 ≤ c) : nI a * 10 + nI c - 48 = nI (a * 10 + c - 48) := by
  have e : (10 : Int32) = nI 10 := rfl
  have e2 : (48 : Int32) = nI 48 := rfl
  rw [e, e2, nI_mulx, nI_add, pk_sub (by omega)]
theorem e_num_L4 {B n : Nat} {L : Nat → Nat → Int64} {Q : Nat → Nat → Option Nat} {R : Nat → RDt} {t : TAPE} {K : Nat} (hK : K ≤ 6) (k : Int32 → Int32 → AH → Option (Int32 × AH)) :
    ∀ (m n' c a p : Nat) (I : Nat → Nat → Int32), c + m = K → m < n' → AtP I t p →
    ∃ I' : Nat → Nat → Int32, fX7_readNumber_L4 (B + 58) (nI K) k n' (nI a) (nI c) (MK B n I L Q R) = k (nI (dgs t m p a).1) (nI (c + ((dgs t m p a).2 - p))) (MK B n I' L Q R) ∧ TF I I' ∧ AtP I' t (dgs t m p a).2 := by
  intro m
  induction m with
  | zero =>
    intro n' c a p I hc hn h
    obtain ⟨n1, rfl⟩ := suc_of hn
    refine ⟨I, ?_, TF.rf, h⟩
    rw [fX7_readNumber_L4, if_pos (by rw [nI_leI (by omega) (by omega)]; omega)]
    show k (nI a) (nI c) _ = k (nI a) (nI (c + (p - p))) _
    rw [show c + (p - p) = c by omega]
  | succ m ih =>
    intro n' c a p I hc hn h
    obtain ⟨n1, rfl⟩ := suc_of hn
    obtain ⟨⟨t1, t2, t3⟩, h2, h3⟩ := id h
    have stay : dgs t (m + 1) p a = (a, p) → k (nI a) (nI c) (MK B n I L Q R) = k (nI (dgs t (m + 1) p a).1) (nI (c + ((dgs t (m + 1) p a).2 - p))) (MK B n I L Q R) := fun e => by
      rw [e]
      show k (nI a) (nI c) _ = k (nI a) (nI (c + (p - p))) _
      rw [show c + (p - p) = c by omega]
    rw [fX7_readNumber_L4, if_neg (by rw [nI_leI (by omega) (by omega)]; omega), g_at, ob1_some, g_tlen, ob1_some, t1, h2]
    by_cases e : p < t.1
    · obtain ⟨b1, b2, b3⟩ := t3 p e
      rw [if_neg (by rw [nI_leI (by omega) (by omega)]; omega), g_bytes, ob1_some, ob1_some, a_bytes (by omega), ob1_some, b1]
      by_cases g1 : t.2 p < 48
      · have ed : dgs t (m + 1) p a = (a, p) := by rw [dgs, if_neg (by omega)]
        rw [if_pos (by rw [show (48 : Int32) = nI 48 from rfl, nI_ltI (by omega) (by omega)]; exact g1)]
        exact ⟨I, stay ed, TF.rf, by rw [ed]; exact h⟩
      · rw [if_neg (by rw [show (48 : Int32) = nI 48 from rfl, nI_ltI (by omega) (by omega)]; exact g1), ob1_some, ob1_some, a_bytes (by omega), ob1_some, b1]
        by_cases g2 : 57 < t.2 p
        · have ed : dgs t (m + 1) p a = (a, p) := by rw [dgs, if_neg (by omega)]
          rw [if_pos (by rw [show (57 : Int32) = nI 57 from rfl, nI_ltI (by omega) (by omega)]; exact g2)]
          exact ⟨I, stay ed, TF.rf, by rw [ed]; exact h⟩
        · have ed : dgs t (m + 1) p a = dgs t m (p + 1) (a * 10 + t.2 p - 48) := by rw [dgs, if_pos (by omega)]
          have hp2 := (dgs_b t m (p + 1) (a * 10 + t.2 p - 48)).2.1
          rw [if_neg (by rw [show (57 : Int32) = nI 57 from rfl, nI_ltI (by omega) (by omega)]; exact g2), ob1_some, ob1_some, a_bytes (by omega), ob1_some, b1, mul10 (by omega), bnd_eq, bnd_eq, ob1_some, nI_1, nI_1, p_at, ob1_some]
          obtain ⟨I', r1, r2, r3⟩ := ih n1 (c + 1) (a * 10 + t.2 p - 48) (p + 1) (u2 I 58 2 (nI (p + 1))) (by omega) (by omega) (h.tf (TF.u (Or.inl rfl)) u2_eq (by omega))
          refine ⟨I', ?_, (TF.u (Or.inl rfl)).tr r2, by rw [ed]; exact r3⟩
          rw [r1, ed, show c + 1 + ((dgs t m (p + 1) (a * 10 + t.2 p - 48)).2 - (p + 1)) = c + ((dgs t m (p + 1) (a * 10 + t.2 p - 48)).2 - p) by omega]
    · have ed : dgs t (m + 1) p a = (a, p) := by rw [dgs, if_neg (by omega)]
      rw [if_pos (by rw [nI_leI (by omega) (by omega)]; omega)]
      exact ⟨I, stay ed, TF.rf, by rw [ed]; exact h⟩
theorem e_num {B n : Nat} {I : Nat → Nat → Int32} {L : Nat → Nat → Int64} {Q : Nat → Nat → Option Nat} {R : Nat → RDt} {t : TAPE} {p K : Nat} (hK : K ≤ 6) (h : AtP I t p) : ∃ I' : Nat → Nat → Int32, TF I I' ∧ (match numP t K p with
  | some v => fX7_readNumber (B + 58) (nI K) (MK B n I L Q R) = some (nI v.1, MK B n I' L Q R) ∧ AtP I' t v.2 ∧ v.1 < 1000000
  | none => fX7_readNumber (B + 58) (nI K) (MK B n I L Q R) = some (-1, MK B n I' L Q R) ∧ I' 58 3 = nI p ∧ AtP I' t p) := by
  obtain ⟨I', r1, r2, r3⟩ := e_num_L4 (L := L) (Q := Q) (R := R) (B := B) (n := n) (t := t) hK (fun (y33 : Int32) (y34 : Int32) (g35 : AH) =>
    if y34 = (0 : Int32) then
      ob1 (gI g35 (B + 58) 7 2) fun v36 =>
      ob2 (fX7_failsAt (B + 58) v36 g35) fun r38 g39 =>
      some ((-1 : Int32), g39)
    else
      some (y33, g35)) K lf 0 0 p I (by omega) (by show K < 1000; omega) h
  obtain ⟨d1, d2, d3, d4⟩ := dgs_b t K p 0
  have hpow : 10 ^ K ≤ 10 ^ 6 := Nat.pow_le_pow_right (by decide) hK
  unfold numP fX7_readNumber
  have h100 := h.1.2.1
  have h33 := h.2.2
  by_cases e : (dgs t K p 0).2 = p
  · rw [if_pos e]
    rw [e] at r3
    refine ⟨u2 I' 58 3 (nI p), r2.tr (TF.u (Or.inr rfl)), r1.trans ?_, u2_eq, r3.tf (TF.u (Or.inr rfl)) (by rw [u2_ne (by omega)]; exact r3.2.1) r3.2.2⟩
    rw [if_pos (by rw [e, show 0 + (p - p) = 0 by omega]; rfl), g_at, ob1_some, r3.2.1, e_failsAt, ob2_some]
  · rw [if_neg e]
    refine ⟨I', r2, r1.trans ?_, r3, by omega⟩
    rw [if_neg (by rw [l0, nI_eq (by omega) (by omega)]; omega)]
