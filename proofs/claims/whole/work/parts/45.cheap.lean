def lZ (z : Int) : Int64 := Int64.ofInt z
theorem lZ_add (a b : Int) : lZ a + lZ b = lZ (a + b) := (Int64.ofInt_add a b).symm
theorem lZ_nat (n : Nat) : lN n = lZ (n : Int) := (Int64.ofInt_eq_ofNat (n := n)).symm
theorem lZ_dn (a b : Nat) : (-lN a) - lN b = lZ (-((a + b : Nat) : Int)) := by
  rw [lZ_nat, lZ_nat]
  unfold lZ
  rw [← Int64.ofInt_neg, ← Int64.ofInt_sub]
  congr 1
  omega
theorem lZ_lt {a b : Int} (h1 : -9000000000000000000 ≤ a) (h2 : a ≤ 9000000000000000000) (h3 : -9000000000000000000 ≤ b) (h4 : b ≤ 9000000000000000000) : (lZ a < lZ b) = (a < b) := by
  rw [Int64.lt_iff_toInt_lt]
  unfold lZ
  rw [Int64.toInt_ofInt_of_le (by omega) (by omega), Int64.toInt_ofInt_of_le (by omega) (by omega)]
theorem bz_or (a b : Bool) : bz a ||| bz b = bz (a || b) := by cases a <;> cases b <;> decide
theorem bz_zb (a : Bool) : zb (bz a) = true := by cases a <;> decide
/-- how far towns are, in the cells of the class -/
def CB (I : Nat → Nat → Int32) (L : Nat → Nat → Int64) (N : NET) (s : BFS) : Prop :=
  (∀ t, t < 6 → I 29 t = bz (s.1 t).isSome) ∧ (∀ t, t < 6 → L 30 t = lZ ((s.1 t).getD 0)) ∧ ∀ t, t < 6 → t ≠ 0 → s.1 t ≠ none → I 31 t = nI (prevT N t (s.2 t)) ∧ I 32 t = nI (s.2 t)
def CFr (I I' : Nat → Nat → Int32) (L L' : Nat → Nat → Int64) : Prop := (∀ a, a ≠ 29 → a ≠ 31 → a ≠ 32 → I' a = I a) ∧ ∀ a, a ≠ 30 → L' a = L a
theorem CFr.rf {I : Nat → Nat → Int32} {L : Nat → Nat → Int64} : CFr I I L L := ⟨fun _ _ _ _ => rfl, fun _ _ => rfl⟩
theorem CFr.tr {I I1 I2 : Nat → Nat → Int32} {L La Lb : Nat → Nat → Int64} (h : CFr I I1 L La) (g : CFr I1 I2 La Lb) : CFr I I2 L Lb := ⟨fun a h1 h2 h3 => by rw [g.1 a h1 h2 h3, h.1 a h1 h2 h3], fun a h1 => by rw [g.2 a h1, h.2 a h1]⟩
def Bnd (s : BFS) : Prop := ∀ t d, s.1 t = some d → 0 ≤ d ∧ d ≤ 6 * LB
theorem e_come {B n : Nat} {I : Nat → Nat → Int32} {L : Nat → Nat → Int64} {Q : Nat → Nat → Option Nat} {R : Nat → RDt} {N : NET} {s : BFS} {u v r : Nat} {l : Int} (hc : CB I L N s) (hb : Bnd s) (hl : -LB ≤ l ∧ l ≤ LB) (hu : u < 6) (hv : v < 6) (hp : prevT N v r = u) :
    ∃ (I' : Nat → Nat → Int32) (L' : Nat → Nat → Int64), fX0_comeTo (B + 26) (nI v) (nI u) (nI r) (lZ l) (MK B n I L Q R) = some (bz (betterB s u v l).isSome, MK B n I' L' Q R) ∧ CB I' L' N (relax s u v r l) ∧ CFr I I' L L' := by
  obtain ⟨c1, c2, c3⟩ := hc
  have hLB : LB = 114600000000000000 := rfl
  have a1 := c1 u hu
  have a2 := c1 v hv
  have a3 := c2 u hu
  have a4 := c2 v hv
  have z0 : ((0 : Int32) = 0) = True := eq_true rfl
  have hset : ∀ d : Int, betterB s u v l = some d → d = (s.1 u).getD 0 + l → CB (u2 (u2 (u2 I 29 v 1) 31 v (nI u)) 32 v (nI r)) (u2 L 30 v (lZ d)) N (relax s u v r l) ∧ CFr I (u2 (u2 (u2 I 29 v 1) 31 v (nI u)) 32 v (nI r)) L (u2 L 30 v (lZ d)) := by
    intro d hd _
    rw [relax_yes hd]
    refine ⟨⟨fun t ht => ?_, fun t ht => ?_, fun t ht h0 hm => ?_⟩, fun a h1 h2 h3 => by rw [u2_nk h3, u2_nk h2, u2_nk h1], fun a h1 => u2_nk h1⟩
    · show _ = bz (if t = v then some d else s.1 t).isSome
      rw [u2_ne (by omega), u2_ne (by omega)]
      by_cases e : t = v
      · rw [e, u2_eq, if_pos rfl]; rfl
      · rw [u2_ne (Or.inr e), if_neg e]; exact c1 t ht
    · show _ = lZ ((if t = v then some d else s.1 t).getD 0)
      by_cases e : t = v
      · rw [e, u2_eq, if_pos rfl]; rfl
      · rw [u2_ne (Or.inr e), if_neg e]; exact c2 t ht
    · have hm : (if t = v then some d else s.1 t) ≠ none := hm
      show _ = nI (prevT N t (if t = v then r else s.2 t)) ∧ _ = nI (if t = v then r else s.2 t)
      rw [u2_ne (show (31 : Nat) ≠ 32 ∨ t ≠ v by omega)]
      by_cases e : t = v
      · rw [e, u2_eq, u2_eq, if_pos rfl, hp]; exact ⟨rfl, rfl⟩
      · rw [u2_ne (Or.inr e), u2_ne (Or.inr e), u2_ne (by omega), u2_ne (by omega), u2_ne (by omega), if_neg e]
        rw [if_neg e] at hm
        exact c3 t ht h0 hm
  unfold fX0_comeTo
  cases hsu : s.1 u with
  | none =>
    have hbt : betterB s u v l = none := by unfold betterB; rw [hsu]
    rw [hsu] at a1
    rw [hbt, relax_no hbt]
    refine ⟨I, L, ?_, ⟨c1, c2, c3⟩, CFr.rf⟩
    have z1 : (bz (none : Option Int).isSome = (0 : Int32)) = True := eq_true (by decide)
    simp (disch := first | assumption | omega) only [ob1_some, ob2_some, bnd_eq, gd_true, oc_none, oc_some, ↓reduceIte, k_Cheapest, g_csum, g_cloads, g_isMet, g_far, g_cameFrom, g_cameBy, a_cloads, s_cloads, n_cloads, a_isMet, s_isMet, a_far, s_far, a_cameFrom, s_cameFrom, a_cameBy, s_cameBy, a1, z1, if_true]
    rfl
  | some du =>
    have b1 := hb u du hsu
    rw [hsu] at a1 a3
    have z1 : (bz (some du).isSome = (0 : Int32)) = False := eq_false (by show ¬ bz true = 0; decide)
    have a3 : L 30 u = lZ du := a3
    cases hsv : s.1 v with
    | none =>
      have hbt : betterB s u v l = some (du + l) := by unfold betterB; rw [hsu, hsv]
      rw [hsv] at a2
      obtain ⟨g1, g2⟩ := hset _ hbt (by rw [hsu]; rfl)
      rw [hbt]
      refine ⟨_, _, ?_, g1, g2⟩
      have z2 : (bz (none : Option Int).isSome = (0 : Int32)) = True := eq_true (by decide)
      simp (disch := first | assumption | omega) only [ob1_some, ob2_some, bnd_eq, gd_true, oc_none, oc_some, ↓reduceIte, k_Cheapest, g_csum, g_cloads, g_isMet, g_far, g_cameFrom, g_cameBy, a_cloads, s_cloads, n_cloads, a_isMet, s_isMet, a_far, s_far, a_cameFrom, s_cameFrom, a_cameBy, s_cameBy, a1, a2, a3, z1, z2, if_true, if_false, lZ_add, s_isMet (v := 1) hv (Or.inr rfl)]
      rfl
    | some dv =>
      have b2 := hb v dv hsv
      rw [hsv] at a2 a4
      have a4 : L 30 v = lZ dv := a4
      have z2 : (bz (some dv).isSome = (0 : Int32)) = False := eq_false (by show ¬ bz true = 0; decide)
      have hcmp : (lZ (du + l) < lZ dv) = (du + l < dv) := lZ_lt (by omega) (by omega) (by omega) (by omega)
      by_cases c : du + l < dv
      · have hbt : betterB s u v l = some (du + l) := by unfold betterB; rw [hsu, hsv]; exact if_pos c
        obtain ⟨g1, g2⟩ := hset _ hbt (by rw [hsu]; rfl)
        rw [hbt]
        refine ⟨_, _, ?_, g1, g2⟩
        simp (disch := first | assumption | omega) only [ob1_some, ob2_some, bnd_eq, gd_true, oc_none, oc_some, ↓reduceIte, k_Cheapest, g_csum, g_cloads, g_isMet, g_far, g_cameFrom, g_cameBy, a_cloads, s_cloads, n_cloads, a_isMet, s_isMet, a_far, s_far, a_cameFrom, s_cameFrom, a_cameBy, s_cameBy, a1, a2, a3, a4, z1, z2, if_true, if_false, lZ_add, hcmp, c, s_isMet (v := 1) hv (Or.inr rfl)]
        rfl
      · have hbt : betterB s u v l = none := by unfold betterB; rw [hsu, hsv]; exact if_neg c
        rw [hbt, relax_no hbt]
        refine ⟨I, L, ?_, ⟨c1, c2, c3⟩, CFr.rf⟩
        simp (disch := first | assumption | omega) only [ob1_some, ob2_some, bnd_eq, gd_true, oc_none, oc_some, ↓reduceIte, k_Cheapest, g_csum, g_cloads, g_isMet, g_far, g_cameFrom, g_cameBy, a_cloads, s_cloads, n_cloads, a_isMet, s_isMet, a_far, s_far, a_cameFrom, s_cameFrom, a_cameBy, s_cameBy, a1, a2, a3, a4, z1, z2, if_true, if_false, lZ_add, hcmp, c]
        rfl
