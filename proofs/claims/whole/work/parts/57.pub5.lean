/-- a fraction's part, in lowest terms -/
def fracN (a b p : Nat) : Nat := if p = 0 then a / Nat.gcd a b else b / Nat.gcd a b
theorem e_frac_L9 {x0 x2 : Int64} {x4 : Int32} (k : Int64 → Option Int64) : ∀ (j a b r n' : Nat), a < 9223372036854775808 → b < 9223372036854775808 → b < 2 ^ j → r + 2 * j ≤ 127 → 200 - r < n' → fX9_fractionPart_L9 x0 x2 x4 k n' (lN a) (lN b) (nI r) = k (lN (Nat.gcd a b)) := by
  have c128 : (128 : Int32) = nI 128 := rfl
  intro j
  induction j with
  | zero =>
    intro a b r n' ha hb hj hr hn
    obtain ⟨n1, rfl⟩ := suc_of hn
    have : b = 0 := by have : b < 1 := hj; omega
    subst this
    rw [fX9_fractionPart_L9, if_neg (by rw [c128, nI_leI (by omega) (by omega)]; omega), if_pos (show lN 0 = (0 : Int64) from rfl), Nat.gcd_zero_right]
  | succ j ih =>
    intro a b r n' ha hb hj hr hn
    obtain ⟨n1, rfl⟩ := suc_of hn
    rw [fX9_fractionPart_L9, if_neg (by rw [c128, nI_leI (by omega) (by omega)]; omega)]
    by_cases h0 : b = 0
    · subst h0
      rw [if_pos (show lN 0 = (0 : Int64) from rfl), Nat.gcd_zero_right]
    · have hz : (decide (¬ lN b = 0)) = true := decide_eq_true (by rw [L0, pk_lEQ (by omega) (by omega)]; exact h0)
      rw [if_neg (of_decide_eq_true hz), hz, gd_true, pk_lRem (by omega) (by omega) (by omega), bnd_eq, bnd_eq, nI_1]
      have hlt := Nat.mod_lt a (show 0 < b by omega)
      have hg : Nat.gcd a b = Nat.gcd b (a % b) := by rw [Nat.gcd_comm, Nat.gcd_rec, Nat.gcd_comm]
      obtain ⟨n2, rfl⟩ := suc_of (show 1 < n1 by omega)
      rw [fX9_fractionPart_L9, if_neg (by rw [c128, nI_leI (by omega) (by omega)]; omega), hg]
      generalize a % b = c at hlt
      by_cases h1 : c = 0
      · subst h1
        rw [if_pos (show lN 0 = (0 : Int64) from rfl), Nat.gcd_zero_right]
      · have hz1 : (decide (¬ lN c = 0)) = true := decide_eq_true (by rw [L0, pk_lEQ (by omega) (by omega)]; exact h1)
        rw [if_neg (of_decide_eq_true hz1), hz1, gd_true, pk_lRem (by omega) (by omega) (by omega), bnd_eq, bnd_eq, nI_1]
        have hlt2 := Nat.mod_lt b (show 0 < c by omega)
        have hhalf : 2 * (b % c) < b := by
          have e1 := Nat.div_add_mod b c
          have e2 : 1 ≤ b / c := (Nat.one_le_div_iff (by omega)).mpr (by omega)
          have e3 : c * 1 ≤ c * (b / c) := Nat.mul_le_mul_left c e2
          omega
        have hg2 : Nat.gcd b c = Nat.gcd c (b % c) := by rw [Nat.gcd_comm b c, Nat.gcd_rec c b, Nat.gcd_comm]
        rw [hg2]
        exact ih c (b % c) (r + 1 + 1) n2 (by omega) (by omega) (by rw [Nat.pow_succ] at hj; omega) (by omega) (by omega)
theorem e_frac {a b p : Nat} (ha : a < 9223372036854775808) (hb : b < 9223372036854775808) (h0 : 0 < b) (hp : p < 2) : fX9_fractionPart (lN a) (lN b) (nI p) = some (lN (fracN a b p)) := by
  unfold fX9_fractionPart
  have hg : 0 < Nat.gcd a b := Nat.gcd_pos_of_pos_right a h0
  have hgb : Nat.gcd a b ≤ b := Nat.gcd_le_right a h0
  have hz : (decide (¬ lN (Nat.gcd a b) = 0)) = true := decide_eq_true (by rw [L0, pk_lEQ (by omega) (by omega)]; omega)
  refine (e_frac_L9 _ 63 a b 0 lf ha hb (by omega) (by decide) (by decide)).trans ?_
  unfold fracN
  rw [if_neg (of_decide_eq_true hz)]
  by_cases e : p = 0
  · subst e
    rw [if_pos (show nI 0 = (0 : Int32) from rfl), if_pos rfl, hz, gd_true, pk_lDiv (by omega) hg (by omega)]
  · rw [if_neg (by rw [l0, nI_eq (by omega) (by omega)]; exact e), if_neg e, hz, gd_true, pk_lDiv (by omega) hg (by omega)]
def A_best (N : NET) : Int64 := bestA N
theorem c_best {B n : Nat} {I : Nat → Nat → Int32} {L : Nat → Nat → Int64} {Q : Nat → Nat → Option Nat} {R : Nat → RDt} {s : STT} (h : IsC B n I L Q R s) : RunC B I L (fX9_best B (MK B n I L Q R)) (A_best (stN s), s) := by
  obtain ⟨fp, fs, fc, h0⟩ := id h
  obtain ⟨I', L', fs', fc', r1, r2, r3, r4, r5⟩ := e_bestOrNo h0
  refine RunC.rep r2 (fun a ha => r5 a (by omega)) ?_
  unfold fX9_best A_best
  rw [r1]
  rfl
def A_worse (N : NET) (m p : Int32) : Int64 := match ix m 3 with
  | some mode => (match ix p 2 with
    | some k => (if canAll N (rowsN N) = true then (if (totN N (stF N mode (rowsN N)).1.1 (nM N)).2 = true then NOv else if (totN N (flAll N 3) (nM N)).2 = true then NOv else if (totN N (flAll N 3) (nM N)).1 = 0 then (if (totN N (stF N mode (rowsN N)).1.1 (nM N)).1 = 0 then lN k else NOv) else lN (fracN ((totN N (stF N mode (rowsN N)).1.1 (nM N)).1 - (totN N (flAll N 3) (nM N)).1) (totN N (flAll N 3) (nM N)).1 k)) else NOv)
    | none => NOv)
  | none => NOv
def A_without (N : NET) (m r : Int32) : Int64 := match ix m 3 with
  | some mode => (match ix r (nM N) with
    | some q => diffA (totS N mode (rowsN N)) (totS N mode (rowsOf N (without q)))
    | none => NOv)
  | none => NOv
theorem c_without {B n : Nat} {I : Nat → Nat → Int32} {L : Nat → Nat → Int64} {Q : Nat → Nat → Option Nat} {R : Nat → RDt} {s : STT} (h : IsC B n I L Q R s) (m r : Int32) : RunC B I L (fX9_without B m r (MK B n I L Q R)) (A_without (stN s) m r, s) := by
  obtain ⟨fp, fs, fc, h0⟩ := id h
  have hN := h0.1.2.1
  have hm := h0.1.2.2.2.1
  unfold A_without fX9_without
  rw [ix3, ob1_some, NO_lit]
  rcases ix_cases m (m := 3) (by decide) with ⟨mode, h1, rfl, h3⟩ | ⟨h1, h2⟩
  · rw [h3, if_neg (bS mode), g_Wnow, ob1_some, k_Net isN1, gd_true, hasRoad_ix isN1 hN (by omega), ob1_some]
    dsimp only
    rcases ix_cases r (m := nM (stN s)) (by omega) with ⟨q, q1, rfl, q3⟩ | ⟨q1, q2⟩
    · rw [q3, if_neg (bS q)]
      dsimp only
      obtain ⟨I1, L1, fs', r1, r2, r3, r4, r5⟩ := e_steadyOf h0 h1
      obtain ⟨I2, L2, t1, t2, t3, t4, t5⟩ := e_steadyWithout r2 h1 q1
      have hs := (t2.2.1.2.2.2.2.1 mode h1 r3).2
      refine RunC.rep t2 (fun a ha => ⟨by rw [(t4 a (by omega)).1, (r5 a (by omega)).1], by rw [(t4 a (by omega)).2, (r5 a (by omega)).2]⟩) ?_
      rw [r1, ob2_some, t1, ob2_some, e_difference (isSm h1) isS48 hs t3, ob1_some]
    · rw [q1, if_pos bN]
      exact RunC.same h rfl
  · rw [h1, if_pos bN]
    exact RunC.same h rfl
def A_paradox (N : NET) (m r : Int32) : Int32 := match ix m 3 with
  | some mode => (match ix r (nM N) with
    | some q => verdS N mode (rowsN N) (rowsOf N (without q))
    | none => -1)
  | none => -1
theorem c_paradox {B n : Nat} {I : Nat → Nat → Int32} {L : Nat → Nat → Int64} {Q : Nat → Nat → Option Nat} {R : Nat → RDt} {s : STT} (h : IsC B n I L Q R s) (m r : Int32) : RunC B I L (fX9_paradox B m r (MK B n I L Q R)) (A_paradox (stN s) m r, s) := by
  obtain ⟨fp, fs, fc, h0⟩ := id h
  have hN := h0.1.2.1
  have hm := h0.1.2.2.2.1
  unfold A_paradox fX9_paradox
  rw [ix3, ob1_some]
  rcases ix_cases m (m := 3) (by decide) with ⟨mode, h1, rfl, h3⟩ | ⟨h1, h2⟩
  · rw [h3, if_neg (bS mode), g_Wnow, ob1_some, k_Net isN1, gd_true, hasRoad_ix isN1 hN (by omega), ob1_some]
    dsimp only
    rcases ix_cases r (m := nM (stN s)) (by omega) with ⟨q, q1, rfl, q3⟩ | ⟨q1, q2⟩
    · rw [q3, if_neg (bS q)]
      dsimp only
      obtain ⟨I1, L1, fs', r1, r2, r3, r4, r5⟩ := e_steadyOf h0 h1
      obtain ⟨I2, L2, t1, t2, t3, t4, t5⟩ := e_steadyWithout r2 h1 q1
      have hs := (t2.2.1.2.2.2.2.1 mode h1 r3).2
      refine RunC.rep t2 (fun a ha => ⟨by rw [(t4 a (by omega)).1, (r5 a (by omega)).1], by rw [(t4 a (by omega)).2, (r5 a (by omega)).2]⟩) ?_
      rw [r1, ob2_some, t1, ob2_some, e_verdict (isSm h1) isS48 hs t3, ob1_some]
    · rw [q1, if_pos bN]
      exact RunC.same h rfl
  · rw [h1, if_pos bN]
    exact RunC.same h rfl
/-- roads of which there is a paradox, as bits -/
def parN (N : NET) (mode : Nat) : Nat → Nat
  | 0 => 0
  | r + 1 => if verdS N mode (rowsN N) (rowsOf N (without r)) = 1 then parN N mode r ||| 2 ^ r else parN N mode r
def A_paradoxes (N : NET) (m : Int32) : Int32 := match ix m 3 with
  | some mode => if canAll N (rowsN N) = true then nI (parN N mode (nM N)) else -3
  | none => -1
theorem e_paradoxes_L31 {B n : Nat} {Q : Nat → Nat → Option Nat} {R : Nat → RDt} {s : STT} {mode : Nat} {fp : Bool} {fs : Nat → Bool} {fc : Bool} {Ia : Nat → Nat → Int32} {La : Nat → Nat → Int64} (hm : mode < 3) (hf : fs mode = true) (k : Int32 → AH → Option (Int32 × AH)) :
    ∀ (m n' r : Nat) (I : Nat → Nat → Int32) (L : Nat → Nat → Int64), r + m = nM (stN s) → m < n' → RepC B n I L Q R s fp fs fc → (∀ a, 108 ≤ a → I a = Ia a ∧ L a = La a) →
    ∃ (I' : Nat → Nat → Int32) (L' : Nat → Nat → Int64), fX9_paradoxes_L31 B (nI mode) (B + (64 + 10 * mode)) k n' (nI (parN (stN s) mode r)) (nI r) (MK B n I L Q R) = k (nI (parN (stN s) mode (nM (stN s)))) (MK B n I' L' Q R) ∧ RepC B n I' L' Q R s fp fs fc ∧ (∀ a, 108 ≤ a → I' a = Ia a ∧ L' a = La a) := by
  intro m
  induction m with
  | zero =>
    intro n' r I L hr hn h hF
    obtain ⟨n1, rfl⟩ := suc_of hn
    have hN := h.1.2.1
    have hm12 := h.1.2.2.2.1
    refine ⟨I, L, ?_, h, hF⟩
    rw [fX9_paradoxes_L31, g_Wnow, ob1_some, g_size isN1, ob1_some, hN.2.1, if_pos (by rw [nI_leI (by omega) (by omega)]; omega), show r = nM (stN s) by omega]
  | succ m ih =>
    intro n' r I L hr hn h hF
    obtain ⟨n1, rfl⟩ := suc_of hn
    have hN := h.1.2.1
    have hm12 := h.1.2.2.2.1
    obtain ⟨I1, L1, t1, t2, t3, t4, t5⟩ := e_steadyWithout (r := r) h hm (by omega)
    have hs := (t2.2.1.2.2.2.2.1 mode hm hf).2
    obtain ⟨I', L', r1, r2⟩ := ih n1 (r + 1) I1 L1 (by omega) (by omega) t2 (fun a ha => ⟨by rw [(t4 a (by omega)).1, (hF a ha).1], by rw [(t4 a (by omega)).2, (hF a ha).2]⟩)
    refine ⟨I', L', ?_, r2⟩
    rw [← r1, fX9_paradoxes_L31, g_Wnow, ob1_some, g_size isN1, ob1_some, hN.2.1, if_neg (by rw [nI_leI (by omega) (by omega)]; omega), t1, ob2_some, e_verdict (isSm hm) isS48 hs t3, ob1_some, parN]
    by_cases c : verdS (stN s) mode (rowsN (stN s)) (rowsOf (stN s) (without r)) = 1
    · rw [if_pos c, if_pos c, bnd_eq, bnd_eq, show (1 : Int32) <<< (nI r &&& 31) = nI (2 ^ r) from shlI (by omega), nI_or, nI_1]
    · rw [if_neg c, if_neg c, bnd_eq, nI_1]
theorem c_paradoxes {B n : Nat} {I : Nat → Nat → Int32} {L : Nat → Nat → Int64} {Q : Nat → Nat → Option Nat} {R : Nat → RDt} {s : STT} (h : IsC B n I L Q R s) (m : Int32) : RunC B I L (fX9_paradoxes B m (MK B n I L Q R)) (A_paradoxes (stN s) m, s) := by
  obtain ⟨fp, fs, fc, h0⟩ := id h
  have hm12 := h0.1.2.2.2.1
  unfold A_paradoxes fX9_paradoxes
  rw [ix3, ob1_some]
  rcases ix_cases m (m := 3) (by decide) with ⟨mode, h1, rfl, h3⟩ | ⟨h1, h2⟩
  · rw [h3, if_neg (bS mode)]
    dsimp only
    obtain ⟨I1, L1, fs', r1, r2, r3, r4, r5⟩ := e_steadyOf h0 h1
    obtain ⟨hC, ⟨c1, c2, c3, c4, c5, c6⟩, hF⟩ := id r2
    obtain ⟨s1, s2⟩ := (c5 mode h1 r3).2
    rw [r1, ob2_some, g_stands (isSm h1), ob1_some, s1]
    cases hc : canAll (stN s) (rowsN (stN s)) with
    | false => exact RunC.rep r2 (fun a ha => r5 a (by omega)) rfl
    | true =>
      rw [if_neg (by decide), if_pos rfl]
      obtain ⟨I2, L2, t1, t2, t3⟩ := e_paradoxes_L31 h1 r3 (fun (y22 : Int32) (g23 : AH) => some (y22, g23)) (nM (stN s)) lf 0 I1 L1 (by omega) (by show _ < 1000; omega) r2 (fun a ha => r5 a (by omega))
      exact RunC.rep t2 t3 t1
  · rw [h1, if_pos bN]
    exact RunC.same h rfl
