/-! the calls of the class, as told: answers and states -/
def ix (x : Int32) (m : Nat) : Option Nat := if ¬ x < 0 ∧ ¬ nI m ≤ x then some x.toNatClampNeg else none
theorem ix_cases (x : Int32) {m : Nat} (hm : m < 2147483648) : (∃ j, j < m ∧ x = nI j ∧ ix x m = some j) ∨ (ix x m = none ∧ ∀ j, j < m → x ≠ nI j) := by
  unfold ix
  rcases pk_ix x hm with h | h | ⟨j, hj, rfl⟩
  · refine Or.inr ⟨if_neg (fun e => e.1 h), fun j hj e => ?_⟩
    rw [e] at h
    exact nI_pos (by omega) h
  · refine Or.inr ⟨if_neg (fun e => e.2 h), fun j hj e => ?_⟩
    rw [e] at h
    exact nI_ge hj (by omega) h
  · refine Or.inl ⟨j, hj, rfl, ?_⟩
    rw [if_pos ⟨nI_pos (by omega), nI_ge hj (by omega)⟩, nI_clamp (by omega)]
theorem e_isOneOf_ix (x : Int32) (m : Nat) : fX9_isOneOf x (nI m) = some (bz (ix x m).isSome) := by
  rw [e_isOneOf]
  unfold ix
  by_cases c : ¬ x < 0 ∧ ¬ nI m ≤ x
  · rw [if_pos c, decide_eq_true c]; rfl
  · rw [if_neg c, decide_eq_false c]; rfl
def lx (x : Int64) (m : Nat) : Option Nat := if ¬ x < 0 ∧ ¬ lN m < x then some x.toNatClampNeg else none
theorem lx_cases (x : Int64) {m : Nat} (hm : m < 9223372036854775808) : (∃ j, j ≤ m ∧ x = lN j ∧ lx x m = some j) ∨ (lx x m = none ∧ (x < 0 ∨ lN m < x)) := by
  unfold lx
  by_cases h : x < 0
  · exact Or.inr ⟨if_neg (fun e => e.1 h), Or.inl h⟩
  · obtain ⟨j, hj, rfl⟩ := pk_lOf h
    by_cases c : lN m < lN j
    · exact Or.inr ⟨if_neg (fun e => e.2 c), Or.inr c⟩
    · have hjm : j ≤ m := by rw [pk_lLT (by omega) (by omega)] at c; omega
      refine Or.inl ⟨j, hjm, rfl, ?_⟩
      rw [if_pos ⟨h, c⟩]
      congr 1
      rw [Int64.toNatClampNeg, pk_lT (by omega)]
      rfl
theorem e_isWithin_lx (x : Int64) (m : Nat) : fX9_isWithin x (lN m) = some (bz (lx x m).isSome) := by
  unfold fX9_isWithin lx
  by_cases h : x < 0
  · rw [if_pos h, if_neg (fun e => e.1 h)]; rfl
  · rw [if_neg h]
    by_cases c : lN m < x
    · rw [if_pos c, if_neg (fun e => e.2 c)]; rfl
    · rw [if_neg c, if_pos ⟨h, c⟩]; rfl
def setN (s : STT) (N : NET) : STT := (N, s.2)
def PostC (B : Nat) (I : Nat → Nat → Int32) (L : Nat → Nat → Int64) (s' : STT) (n' : Nat) (I' : Nat → Nat → Int32) (L' : Nat → Nat → Int64) (Q' : Nat → Nat → Option Nat) (R' : Nat → RDt) : Prop := (∃ fp fs fc, RepC B n' I' L' Q' R' s' fp fs fc) ∧ ∀ a, 108 ≤ a → I' a = I a ∧ L' a = L a
def RunC {α : Type} (B : Nat) (I : Nat → Nat → Int32) (L : Nat → Nat → Int64) (o : Option (α × AH)) (p : α × STT) : Prop := ∃ n' I' L' Q' R', o = some (p.1, MK B n' I' L' Q' R') ∧ PostC B I L p.2 n' I' L' Q' R'
def IsC (B n : Nat) (I : Nat → Nat → Int32) (L : Nat → Nat → Int64) (Q : Nat → Nat → Option Nat) (R : Nat → RDt) (s : STT) : Prop := ∃ fp fs fc, RepC B n I L Q R s fp fs fc
theorem RunC.same {α : Type} {B n : Nat} {I : Nat → Nat → Int32} {L : Nat → Nat → Int64} {Q : Nat → Nat → Option Nat} {R : Nat → RDt} {s : STT} {v : α} {o : Option (α × AH)} (h : IsC B n I L Q R s) (e : o = some (v, (MK B n I L Q R))) : RunC B I L o (v, s) := ⟨n, I, L, Q, R, e, h, fun _ _ => ⟨rfl, rfl⟩⟩
theorem Core.setNow {B n : Nat} {I : Nat → Nat → Int32} {L : Nat → Nat → Int64} {Q : Nat → Nat → Option Nat} {R : Nat → RDt} {I' : Nat → Nat → Int32} {L' : Nat → Nat → Int64} {Q' : Nat → Nat → Option Nat} {s : STT} {N : NET} (h : Core B n I L Q R s) (hN : NetIs B n I' L' Q' R 1 N) (hO : NetOK N) (hm : nM N ≤ 12) (hI : ∀ a, a < 1 ∨ 8 ≤ a → I' a = I a) (hL : ∀ a, a ≠ 3 → L' a = L a) (hQ : ∀ a, a ≠ 2 → Q' a = Q a) : Core B n I' L' Q' R (setN s N) := by
  obtain ⟨h0, h1, h2, h3, h4, h5, h6, h7⟩ := h
  refine ⟨h0, hN, hO, hm, ⟨by rw [hI 0 (by omega)]; exact h4.1, fun M hM => ?_⟩, h5.same (by rw [hI 58 (by omega)]) (hI 59 (by omega)), fun t ht => (h6 t ht).same (hI _ (by omega)) (hQ _ (by omega)), fun l hl => (h7 l hl).same (hI _ (by omega)) (hL _ (by omega))⟩
  obtain ⟨⟨g1, g2, g3, g4, g5, g6⟩, g7⟩ := h4.2 M hM
  have hq : Q' 10 = Q 10 := hQ 10 (by decide)
  have had : ∀ r, adr Q' 9 r = adr Q 9 r := fun r => by unfold adr; rw [hq]
  exact ⟨⟨by rw [hI 9 (by omega)]; exact g1, by rw [hI 9 (by omega)]; exact g2, fun r hr => by rw [had, hq]; exact g3 r hr, fun r hr => by rw [had]; exact g4 r hr, fun r hr => by rw [hL 11 (by decide)]; exact g5 r hr, fun c j hc hj => by rw [hI _ (by omega)]; exact g6 c j hc hj⟩, g7⟩
theorem Fixed.same {I I' : Nat → Nat → Int32} {L L' : Nat → Nat → Int64} (h : Fixed I L) (hI : ∀ a, 17 ≤ a → a < 48 → I' a = I a) (hL : ∀ x, isS x → L' (x + 9) = L (x + 9)) : Fixed I' L' :=
  ⟨h.1.same (fun a b1 b2 => hI a (by omega) (by omega)), h.2.1.same (fun a b1 b2 => hI a (by omega) (by omega)), fun x hx => by rw [hL x hx]; exact h.2.2 x hx⟩
theorem done_changed {B n : Nat} {I : Nat → Nat → Int32} {L : Nat → Nat → Int64} {Q : Nat → Nat → Option Nat} {R : Nat → RDt} {s : STT} (hC : Core B n I L Q R s) (hF : Fixed I L) : ∃ I' : Nat → Nat → Int32, fX9_changed B (MK B n I L Q R) = some (MK B n I' L Q R) ∧ IsC B n I' L Q R s ∧ (∀ a, a ≠ 0 → a ≠ 25 → I' a = I a) := by
  obtain ⟨I', r1, r2, r3, r4⟩ := e_changed (B := B) (n := n) (I := I) (L := L) (Q := Q) (R := R)
  refine ⟨I', r1, ⟨false, fun _ => false, false, hC.same r4 (fun a ha => r3 a (by omega) (by omega)) (fun _ _ => rfl), r2 _, hF.1.same (fun a b1 b2 => r3 a (by omega) (by omega)), hF.2.1.same (fun a b1 b2 => r3 a (by omega) (by omega)), hF.2.2⟩, r3⟩
theorem bzs_none : (bz (none : Option Nat).isSome = (0 : Int32)) = True := eq_true (by decide)
theorem bzs_some (j : Nat) : (bz (some j).isSome = (0 : Int32)) = False := eq_false (by show ¬ bz true = 0; decide)
def A_towns (s : STT) (x : Int32) : Int32 × STT := match ix x 7 with
  | some t => if t < 2 then (-2, s) else (nI (nT (stN s)), setN s (t, 0, nRd (stN s), nTl (stN s), nC (stN s)))
  | none => (-2, s)
theorem c_towns {B n : Nat} {I : Nat → Nat → Int32} {L : Nat → Nat → Int64} {Q : Nat → Nat → Option Nat} {R : Nat → RDt} {s : STT} (h : IsC B n I L Q R s) (x : Int32) : RunC B I L (fX9_towns B x (MK B n I L Q R)) (A_towns s x) := by
  obtain ⟨fp, fs, fc, hC, hK, hF⟩ := id h
  have hN := hC.2.1
  have hO := hC.2.2.1
  unfold A_towns
  rcases ix_cases x (m := 7) (by decide) with ⟨t, h1, rfl, h3⟩ | ⟨h1, h2⟩
  · rw [h3]
    unfold fX9_towns
    by_cases c : t < 2
    · show RunC B I L _ (if t < 2 then (-2, s) else (nI (nT (stN s)), setN s (t, 0, nRd (stN s), nTl (stN s), nC (stN s))))
      rw [if_pos c, if_pos (show nI t < 2 by rw [l2, nI_ltI (by omega) (by omega)]; exact c)]
      exact RunC.same h rfl
    · show RunC B I L _ (if t < 2 then (-2, s) else (nI (nT (stN s)), setN s (t, 0, nRd (stN s), nTl (stN s), nC (stN s))))
      rw [if_neg c, if_neg (show ¬ nI t < 2 by rw [l2, nI_ltI (by omega) (by omega)]; exact c), if_pos (show nI t ≤ 6 by rw [l6, nI_leI (by omega) (by omega)]; omega)]
      have hN' : NetIs B n (u2 (u2 I 1 0 (nI t)) 1 1 0) L Q R 1 (t, 0, nRd (stN s), nTl (stN s), nC (stN s)) := ⟨by rw [u2_ne (by omega), u2_eq]; rfl, u2_eq, hN.2.2.1, fun r hr => absurd hr (Nat.not_lt_zero r), fun r hr => absurd hr (Nat.not_lt_zero r), fun c j hc hj => by rw [u2_ne (by omega), u2_ne (by omega)]; exact hN.2.2.2.2.2 c j hc hj⟩
      have hC1 := hC.setNow hN' ⟨by show 2 ≤ t; omega, by show t ≤ 6; omega, Nat.zero_le _, fun r hr => absurd hr (Nat.not_lt_zero r), hO.2.2.2.2⟩ (Nat.zero_le _) (fun a ha => by rw [u2_nk (by omega), u2_nk (by omega)]) (fun _ _ => rfl) (fun _ _ => rfl)
      obtain ⟨I', r1, r2, r3⟩ := done_changed hC1 (hF.same (fun a b1 b2 => by rw [u2_nk (by omega), u2_nk (by omega)]) (fun _ _ => rfl))
      refine ⟨n, I', L, Q, R, ?_, r2, fun a ha => ⟨by rw [r3 a (by omega) (by omega), u2_nk (by omega), u2_nk (by omega)], rfl⟩⟩
      rw [g_Wnow, ob1_some, g_towns isN1, ob1_some, hN.1, ob1_some, p_towns isN1, ob1_some, g_Wnow, ob1_some, p_size isN1, ob1_some, r1, ob1_some]
  · rw [h1]
    refine RunC.same h ?_
    unfold fX9_towns
    by_cases c : x < 2
    · rw [if_pos c]
    · rw [if_neg c]
      have h0 : ¬ x < 0 := fun e => c (by
        have e1 := Int32.lt_iff_toInt_lt.mp e
        rw [Int32.lt_iff_toInt_lt]
        have : (0 : Int32).toInt = 0 := rfl
        have : (2 : Int32).toInt = 2 := rfl
        omega)
      obtain ⟨j, hj, rfl⟩ := nI_of h0
      rw [if_neg]
      intro e
      rw [l6, nI_leI (by omega) (by omega)] at e
      exact h2 j (by omega) rfl
def A_close (s : STT) (x : Int32) : Int32 × STT := match ix x (nM (stN s)) with
  | some r => (nI (nM (stN s) - 1), setN s (dropRd (stN s) r))
  | none => (-1, s)
theorem hasRoad_ix {B n : Nat} {I : Nat → Nat → Int32} {L : Nat → Nat → Int64} {Q : Nat → Nat → Option Nat} {R : Nat → RDt} {x : Nat} {N : NET} {r : Int32} (hx : isN x) (hN : NetIs B n I L Q R x N) (hm : nM N ≤ 13) : fX1_hasRoad (B + x) r (MK B n I L Q R) = some (bz (ix r (nM N)).isSome) := by
  unfold fX1_hasRoad
  rw [g_size hx, ob1_some, hN.2.1, e_isOneOf_ix, ob1_some, bz_zb, gd_true]
theorem dropRd_ok {N : NET} {g : Nat} (hO : NetOK N) (hg : g < nM N) : NetOK (dropRd N g) := by
  obtain ⟨o1, o2, o3, o4, o5⟩ := hO
  refine ⟨o1, o2, by show nM N - 1 ≤ 13; omega, fun r hr => ?_, o5⟩
  have hr : r < nM N - 1 := hr
  unfold RdN
  show RDok (if r < g then nRd N r else nRd N (r + 1)) ∧ dFrom (if r < g then nRd N r else nRd N (r + 1)) < nT N ∧ dTo (if r < g then nRd N r else nRd N (r + 1)) < nT N ∧ dFrom (if r < g then nRd N r else nRd N (r + 1)) ≠ dTo (if r < g then nRd N r else nRd N (r + 1)) ∧ (if r < g then nTl N r else nTl N (r + 1)) ≤ 1000000000
  by_cases c : r < g
  · simp only [if_pos c]; exact o4 r (by omega)
  · simp only [if_neg c]; exact o4 (r + 1) (by omega)
theorem c_close {B n : Nat} {I : Nat → Nat → Int32} {L : Nat → Nat → Int64} {Q : Nat → Nat → Option Nat} {R : Nat → RDt} {s : STT} (h : IsC B n I L Q R s) (x : Int32) : RunC B I L (fX9_close B x (MK B n I L Q R)) (A_close s x) := by
  obtain ⟨fp, fs, fc, hC, hK, hF⟩ := id h
  have hN := hC.2.1
  have hO := hC.2.2.1
  have hm := hC.2.2.2.1
  unfold A_close fX9_close
  rw [g_Wnow, ob1_some, k_Net isN1, gd_true, hasRoad_ix isN1 hN (by omega), ob1_some]
  rcases ix_cases x (m := nM (stN s)) (by omega) with ⟨r, h1, rfl, h3⟩ | ⟨h1, h2⟩
  · rw [h3, if_neg (by rw [bzs_some]; exact id)]
    obtain ⟨L', Q', r1, r2, r3, r4⟩ := e_drop isN1 hN (by omega) h1
    have hC1 := hC.setNow r2 (dropRd_ok hO h1) (by show nM (stN s) - 1 ≤ 12; omega) (fun a ha => u2_nk (by omega)) r3 r4
    obtain ⟨I', t1, t2, t3⟩ := done_changed hC1 (hF.same (fun a b1 b2 => u2_nk (by omega)) (fun x hx => r3 _ (by unfold isS at hx; omega)))
    refine ⟨n, I', L', Q', R, ?_, t2, fun a ha => ⟨by rw [t3 a (by omega) (by omega), u2_nk (by omega)], r3 a (by omega)⟩⟩
    rw [ob1_some, k_Net isN1, gd_true, r1, ob1_some, t1, ob1_some, g_Wnow, ob1_some, g_size isN1, ob1_some, t3 1 (by decide) (by decide), u2_eq]
  · rw [h1, if_pos (by rw [bzs_none]; trivial)]
    exact RunC.same h rfl
