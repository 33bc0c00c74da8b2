/-- a row of the ways: parent, last road, end, length, roads as bits, towns as bits; the roads -/
abbrev ROW : Type := Nat × Nat × Nat × Nat × Nat × Nat × List Nat
def wPar (r : ROW) : Nat := r.1
def wLast (r : ROW) : Nat := r.2.1
def wEnd (r : ROW) : Nat := r.2.2.1
def wLen (r : ROW) : Nat := r.2.2.2.1
def wRb (r : ROW) : Nat := r.2.2.2.2.1
def wTb (r : ROW) : Nat := r.2.2.2.2.2.1
def wPath (r : ROW) : List Nat := r.2.2.2.2.2.2
def row0 : ROW := (0, 0, 0, 0, 0, 1, [])
def newRow (N : NET) (i : Nat) (r : ROW) (q : Nat) : ROW := (i, q, dTo (nRd N q), wLen r + 1, wRb r ||| 2 ^ q, wTb r ||| 2 ^ dTo (nRd N q), wPath r ++ [q])
/-- whether a road goes on behind a way -/
def goesOn (N : NET) (A : Nat → Bool) (r : ROW) (q : Nat) : Bool := A q && (decide (dFrom (nRd N q) = wEnd r) && !(wTb r).testBit (dTo (nRd N q)))
def extTo (N : NET) (A : Nat → Bool) (i : Nat) (r : ROW) : Nat → List ROW
  | 0 => []
  | q + 1 => extTo N A i r q ++ (if goesOn N A r q = true then [newRow N i r q] else [])
def bfs (N : NET) (A : Nat → Bool) : Nat → Nat → List ROW → List ROW
  | 0, _, rows => rows
  | f + 1, i, rows => match rows[i]? with
    | none => rows
    | some r => bfs N A f (i + 1) (rows ++ extTo N A i r (nM N))
def rowsOf (N : NET) (A : Nat → Bool) : List ROW := bfs N A 211 0 [row0]
def RowOK (r : ROW) : Prop := wEnd r < 6 ∧ wLen r < 211 ∧ wRb r < 8192 ∧ wTb r < 64
def PathsIs (I : Nat → Nat → Int32) (x : Nat) (rows : List ROW) : Prop :=
  I x 0 = nI rows.length ∧ ∀ (i : Nat) (r : ROW), rows[i]? = some r → I (x + 1) i = nI (wPar r) ∧ I (x + 2) i = nI (wLast r) ∧ I (x + 3) i = nI (wEnd r) ∧ I (x + 4) i = nI (wLen r) ∧ I (x + 5) i = nI (wRb r) ∧ I (x + 6) i = nI (wTb r)
theorem PathsIs.same {I I' : Nat → Nat → Int32} {x : Nat} {rows : List ROW} (h : PathsIs I x rows) (hI : ∀ k, x ≤ k → k < x + 7 → I' k = I k) : PathsIs I' x rows := by
  refine ⟨by rw [hI x (Nat.le_refl _) (by omega)]; exact h.1, fun i r hr => ?_⟩
  rw [hI (x + 1) (by omega) (by omega), hI (x + 2) (by omega) (by omega), hI (x + 3) (by omega) (by omega), hI (x + 4) (by omega) (by omega), hI (x + 5) (by omega) (by omega), hI (x + 6) (by omega) (by omega)]
  exact h.2 i r hr
theorem bit_0 {b r : Nat} (hb : b < 2147483648) (hr : r < 31) : ((nI b >>> (nI r &&& 31)) &&& nI 1 = nI 0) = (b.testBit r = false) := by
  rw [bitI hb hr]
  have h : b / 2 ^ r % 2 < 2 := Nat.mod_lt _ (by decide)
  rw [Nat.testBit_eq_decide_div_mod_eq]
  rw [nI_eq (by omega) (by omega)]
  simp
theorem or_lt {a b k : Nat} (ha : a < 2 ^ k) (hb : b < 2 ^ k) : a ||| b < 2 ^ k := Nat.or_lt_two_pow ha hb
theorem newRow_ok {N : NET} {i q : Nat} {r : ROW} (h : RowOK r) (hl : wLen r < 210) (hq : q < 13) (ht : dTo (nRd N q) < 6) : RowOK (newRow N i r q) := by
  obtain ⟨h1, h2, h3, h4⟩ := h
  refine ⟨ht, by show wLen r + 1 < 211; omega, ?_, ?_⟩
  · exact or_lt (k := 13) h3 (Nat.pow_lt_pow_right (by decide) hq)
  · exact or_lt (k := 6) h4 (Nat.pow_lt_pow_right (by decide) ht)
theorem e_grow_no {B n : Nat} {I : Nat → Nat → Int32} {L : Nat → Nat → Int64} {Q : Nat → Nat → Option Nat} {R : Nat → RDt} {x a i q : Nat} {d : RD} {rows : List ROW} {r : ROW} (hx : isP x) (hP : PathsIs I x rows) (hi : rows[i]? = some r) (hl : rows.length ≤ 211) (hr : RowOK r) (hv : VA B n a) (hd : rda B R a = rdI d) (hk : RDok d) (hq : q < 13) (hg : ¬ (dFrom d = wEnd r ∧ (wTb r).testBit (dTo d) = false)) : fX2_grow (B + x) (nI i) (nI q) a (MK B n I L Q R) = some (MK B n I L Q R) := by
  have hil : i < rows.length := (List.getElem?_eq_some_iff.mp hi).1
  obtain ⟨p0, p⟩ := hP
  obtain ⟨p1, p2, p3, p4, p5, p6⟩ := p i r hi
  obtain ⟨o1, o2, o3, o4⟩ := hr
  obtain ⟨k1, k2, k3, k4, k5, k6, k7⟩ := hk
  unfold fX2_grow
  by_cases h1 : dFrom d = wEnd r
  · have h2 : ¬ (wTb r).testBit (dTo d) = false := fun h => hg ⟨h1, h⟩
    simp (disch := first | assumption | omega) only [ob1_some, ob2_some, bnd_eq, gd_true, oc_none, oc_some, ↓reduceIte, nI_add, nI_1, nI_leI, nI_ltI, nI_eq, l0, l1, l2, l3, L0, if_pos, if_neg, k_Paths, g_count, p_count, g_parents, a_parents, s_parents, g_lastRoads, a_lastRoads, s_lastRoads, g_ends, a_ends, s_ends, g_lengths, a_lengths, s_lengths, g_roadBits, a_roadBits, s_roadBits, g_townBits, a_townBits, s_townBits, u2_eq, u2_ne, rd_from hv, rd_to hv, hd, rdI, p3, p6, bit_0]
  · simp (disch := first | assumption | omega) only [ob1_some, ob2_some, bnd_eq, gd_true, oc_none, oc_some, ↓reduceIte, nI_add, nI_1, nI_leI, nI_ltI, nI_eq, l0, l1, l2, l3, L0, if_pos, if_neg, k_Paths, g_count, p_count, g_parents, a_parents, s_parents, g_lastRoads, a_lastRoads, s_lastRoads, g_ends, a_ends, s_ends, g_lengths, a_lengths, s_lengths, g_roadBits, a_roadBits, s_roadBits, g_townBits, a_townBits, s_townBits, u2_eq, u2_ne, rd_from hv, rd_to hv, hd, rdI, p3, p6, bit_0]
theorem e_grow_yes {B n : Nat} {I : Nat → Nat → Int32} {L : Nat → Nat → Int64} {Q : Nat → Nat → Option Nat} {R : Nat → RDt} {x a i q : Nat} {d : RD} {rows : List ROW} {r : ROW} {N : NET} (hx : isP x) (hP : PathsIs I x rows) (hi : rows[i]? = some r) (hl : rows.length < 211) (hr : RowOK r) (hv : VA B n a) (hd : rda B R a = rdI d) (hk : RDok d) (hq : q < 13) (h1 : dFrom d = wEnd r) (h2 : (wTb r).testBit (dTo d) = false) (hN : nRd N q = d) :
    ∃ I' : Nat → Nat → Int32, fX2_grow (B + x) (nI i) (nI q) a (MK B n I L Q R) = some (MK B n I' L Q R) ∧ PathsIs I' x (rows ++ [newRow N i r q]) ∧ ∀ k, k < x ∨ x + 7 ≤ k → I' k = I k := by
  have hil : i < rows.length := (List.getElem?_eq_some_iff.mp hi).1
  obtain ⟨p0, p⟩ := hP
  obtain ⟨p1, p2, p3, p4, p5, p6⟩ := p i r hi
  obtain ⟨o1, o2, o3, o4⟩ := hr
  obtain ⟨k1, k2, k3, k4, k5, k6, k7⟩ := hk
  have hb1 : 2 ^ q < 2147483648 := Nat.lt_of_lt_of_le (Nat.pow_lt_pow_right (by decide) hq) (by decide)
  refine ⟨u2 (u2 (u2 (u2 (u2 (u2 (u2 I (x + 1) rows.length (nI i)) (x + 2) rows.length (nI q)) (x + 3) rows.length (nI (dTo d))) (x + 4) rows.length (nI (wLen r + 1))) (x + 5) rows.length (nI (wRb r ||| 2 ^ q))) (x + 6) rows.length (nI (wTb r ||| 2 ^ dTo d))) x 0 (nI (rows.length + 1)), ?_, ⟨?_, fun j s hs => ?_⟩, fun k hk => ?_⟩
  · unfold fX2_grow
    simp (disch := first | assumption | omega) only [ob1_some, ob2_some, bnd_eq, gd_true, oc_none, oc_some, ↓reduceIte, nI_add, nI_1, nI_leI, nI_ltI, nI_eq, l0, l1, l2, l3, L0, if_pos, if_neg, k_Paths, g_count, p_count, g_parents, a_parents, s_parents, g_lastRoads, a_lastRoads, s_lastRoads, g_ends, a_ends, s_ends, g_lengths, a_lengths, s_lengths, g_roadBits, a_roadBits, s_roadBits, g_townBits, a_townBits, s_townBits, u2_eq, u2_ne, rd_from hv, rd_to hv, hd, rdI, p0, p3, p4, p5, p6, bit_0, litI 211, shlI, nI_or]
  · rw [u2_eq, List.length_append]
    rfl
  · by_cases e : j = rows.length
    · subst e
      rw [List.getElem?_append_right (Nat.le_refl _), Nat.sub_self] at hs
      cases hs
      show _ = nI i ∧ _ = nI q ∧ _ = nI (dTo (nRd N q)) ∧ _ = nI (wLen r + 1) ∧ _ = nI (wRb r ||| 2 ^ q) ∧ _ = nI (wTb r ||| 2 ^ dTo (nRd N q))
      rw [hN]
      simp (disch := omega) only [u2_eq, u2_ne, and_self]
    · have hj : j < rows.length := by
        have := (List.getElem?_eq_some_iff.mp hs).1
        rw [List.length_append] at this
        simp at this
        omega
      rw [List.getElem?_append_left hj] at hs
      have := p j s hs
      simp (disch := omega) only [u2_eq, u2_ne]
      exact this
  · rw [u2_nk (by omega), u2_nk (by omega), u2_nk (by omega), u2_nk (by omega), u2_nk (by omega), u2_nk (by omega), u2_nk (by omega)]
