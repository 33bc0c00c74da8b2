def rowAt (rows : List ROW) (i : Nat) : ROW := (rows[i]?).getD row0
theorem rowAt_eq {rows : List ROW} {i : Nat} {r : ROW} (h : rows[i]? = some r) : rowAt rows i = r := by unfold rowAt; rw [h]; rfl
theorem rowAt_get {rows : List ROW} {i : Nat} (h : i < rows.length) : rows[i]? = some (rowAt rows i) := by
  unfold rowAt
  rw [List.getElem?_eq_getElem h]
  rfl
/-- how many of the first rows (but row 0) end in a town -/
def cntTo (rows : List ROW) (t : Nat) : Nat → Nat
  | 0 => 0
  | j + 1 => cntTo rows t j + (if 1 ≤ j ∧ wEnd (rowAt rows j) = t then 1 else 0)
theorem cntTo_le (rows : List ROW) (t : Nat) : ∀ j, cntTo rows t j ≤ j
  | 0 => Nat.le_refl _
  | j + 1 => by
    have := cntTo_le rows t j
    rw [cntTo]
    split <;> omega
theorem cntTo_mono (rows : List ROW) (t : Nat) {i : Nat} : ∀ m, cntTo rows t i ≤ cntTo rows t (i + m)
  | 0 => Nat.le_refl _
  | m + 1 => by
    have := cntTo_mono rows t (i := i) m
    show _ ≤ cntTo rows t (i + m + 1)
    rw [cntTo]
    omega
/-- what is asked of rows throughout -/
def AllOK (rows : List ROW) : Prop := rows.length ≤ 211 ∧ ∀ (j : Nat) (r : ROW), rows[j]? = some r → RowOK r ∧ wLen r ≤ j ∧ wPar r ≤ j ∧ wLast r < 13 ∧ (1 ≤ j → wPar r < j)
theorem WFr.all {N : NET} {A : Nat → Bool} {rows : List ROW} (h : WFr N A rows) (hO : NetOK N) (hl : rows.length ≤ 211) : AllOK rows := by
  refine ⟨hl, fun j r hr => ?_⟩
  obtain ⟨h1, h2⟩ := h.ok hO hl (j + 1) j r (by omega) hr
  have h13 := hO.2.2.1
  rcases h j r hr with ⟨h0, h3⟩ | ⟨r', g1, g2, g3, g4, g5⟩
  · rw [h3] at h1 h2 ⊢
    exact ⟨h1, h2, Nat.zero_le _, by decide, fun h => by omega⟩
  · exact ⟨h1, h2, by omega, by omega, fun _ => g1⟩
theorem e_countTo_L4 {B n : Nat} {I : Nat → Nat → Int32} {L : Nat → Nat → Int64} {Q : Nat → Nat → Option Nat} {R : Nat → RDt} {x t : Nat} {rows : List ROW} (hx : isP x) (hP : PathsIs I x rows) (hK : AllOK rows) (ht : t < 2147483648) (k : Int32 → Option Int32) : ∀ (m n' c : Nat), c + m = rows.length → 1 ≤ c → m < n' → fX2_countTo_L4 (B + x) (nI t) (MK B n I L Q R) k n' (nI (cntTo rows t c)) (nI c) = k (nI (cntTo rows t rows.length)) := by
  obtain ⟨k1, k2⟩ := hK
  have h0 := hP.1
  intro m
  induction m with
  | zero =>
    intro n' c hc h1 hn
    obtain ⟨n1, rfl⟩ := suc_of hn
    rw [fX2_countTo_L4, show c = rows.length by omega]
    simp (disch := first | assumption | omega) only [ob1_some, ob2_some, bnd_eq, gd_true, oc_none, oc_some, ↓reduceIte, nI_add, nI_1, nI_leI, nI_ltI, nI_eq, l0, l1, l2, l3, L0, if_pos, if_neg, k_Paths, g_count, p_count, g_parents, a_parents, s_parents, g_lastRoads, a_lastRoads, s_lastRoads, g_ends, a_ends, s_ends, g_lengths, a_lengths, s_lengths, g_roadBits, a_roadBits, s_roadBits, g_townBits, a_townBits, s_townBits, u2_eq, u2_ne, h0]
  | succ m ih =>
    intro n' c hc h1 hn
    obtain ⟨n1, rfl⟩ := suc_of hn
    have hr := rowAt_get (show c < rows.length by omega)
    have hp := hP.2 c _ hr
    have hk := (k2 c _ hr).1
    obtain ⟨k3, k4, k5, k6⟩ := hk
    have := ih n1 (c + 1) (by omega) (by omega) (by omega)
    rw [cntTo] at this
    rw [fX2_countTo_L4]
    by_cases e : wEnd (rowAt rows c) = t
    · rw [if_pos ⟨h1, e⟩] at this
      simp (disch := first | assumption | omega) only [ob1_some, ob2_some, bnd_eq, gd_true, oc_none, oc_some, ↓reduceIte, nI_add, nI_1, nI_leI, nI_ltI, nI_eq, l0, l1, l2, l3, L0, if_pos, if_neg, k_Paths, g_count, p_count, g_parents, a_parents, s_parents, g_lastRoads, a_lastRoads, s_lastRoads, g_ends, a_ends, s_ends, g_lengths, a_lengths, s_lengths, g_roadBits, a_roadBits, s_roadBits, g_townBits, a_townBits, s_townBits, u2_eq, u2_ne, h0, hp.2.2.1]
      exact this
    · rw [if_neg (fun h => e h.2)] at this
      simp (disch := first | assumption | omega) only [ob1_some, ob2_some, bnd_eq, gd_true, oc_none, oc_some, ↓reduceIte, nI_add, nI_1, nI_leI, nI_ltI, nI_eq, l0, l1, l2, l3, L0, if_pos, if_neg, k_Paths, g_count, p_count, g_parents, a_parents, s_parents, g_lastRoads, a_lastRoads, s_lastRoads, g_ends, a_ends, s_ends, g_lengths, a_lengths, s_lengths, g_roadBits, a_roadBits, s_roadBits, g_townBits, a_townBits, s_townBits, u2_eq, u2_ne, h0, hp.2.2.1]
      exact this
theorem PathsIs.pos {I : Nat → Nat → Int32} {x : Nat} {rows : List ROW} (h : 1 ≤ rows.length) : cntTo rows 0 1 = 0 := by
  rw [cntTo, cntTo, if_neg (by omega)]
theorem cntTo_1 (rows : List ROW) (t : Nat) : cntTo rows t 1 = 0 := by
  rw [cntTo, cntTo, if_neg (by omega)]
theorem e_countTo {B n : Nat} {I : Nat → Nat → Int32} {L : Nat → Nat → Int64} {Q : Nat → Nat → Option Nat} {R : Nat → RDt} {x t : Nat} {rows : List ROW} (hx : isP x) (hP : PathsIs I x rows) (hK : AllOK rows) (h1 : 1 ≤ rows.length) (ht : t < 2147483648) : fX2_countTo (B + x) (nI t) (MK B n I L Q R) = some (nI (cntTo rows t rows.length)) := by
  unfold fX2_countTo
  have hl := hK.1
  have := e_countTo_L4 (L := L) (Q := Q) (R := R) (B := B) (n := n) hx hP hK ht (fun y => some y) (rows.length - 1) lf 1 (by omega) (by omega) (by show rows.length - 1 < 1000; omega)
  rw [cntTo_1] at this
  exact this
/-- the row of the way of a number to a town -/
theorem e_rowTo_L5 {B n : Nat} {I : Nat → Nat → Int32} {L : Nat → Nat → Int64} {Q : Nat → Nat → Option Nat} {R : Nat → RDt} {x t w : Nat} {rows : List ROW} (hx : isP x) (hP : PathsIs I x rows) (hK : AllOK rows) (ht : t < 2147483648) (hw : w < 2147483648) (k : Option Int32) : ∀ (m n' c : Nat), c + m = rows.length → 1 ≤ c → m < n' → cntTo rows t c ≤ w →
    (∃ j, c ≤ j ∧ j < rows.length ∧ wEnd (rowAt rows j) = t ∧ cntTo rows t j = w ∧ fX2_rowTo_L5 (B + x) (nI t) (nI w) (MK B n I L Q R) k n' (nI (cntTo rows t c)) (nI c) = some (nI j)) ∨ (cntTo rows t rows.length ≤ w ∧ fX2_rowTo_L5 (B + x) (nI t) (nI w) (MK B n I L Q R) k n' (nI (cntTo rows t c)) (nI c) = k) := by
  obtain ⟨k1, k2⟩ := hK
  have h0 := hP.1
  intro m
  induction m with
  | zero =>
    intro n' c hc h1 hn hcw
    obtain ⟨n1, rfl⟩ := suc_of hn
    rw [show c = rows.length by omega] at hcw ⊢
    refine Or.inr ⟨hcw, ?_⟩
    rw [fX2_rowTo_L5]
    simp (disch := first | assumption | omega) only [ob1_some, ob2_some, bnd_eq, gd_true, oc_none, oc_some, ↓reduceIte, nI_add, nI_1, nI_leI, nI_ltI, nI_eq, l0, l1, l2, l3, L0, if_pos, if_neg, k_Paths, g_count, p_count, g_parents, a_parents, s_parents, g_lastRoads, a_lastRoads, s_lastRoads, g_ends, a_ends, s_ends, g_lengths, a_lengths, s_lengths, g_roadBits, a_roadBits, s_roadBits, g_townBits, a_townBits, s_townBits, u2_eq, u2_ne, h0]
  | succ m ih =>
    intro n' c hc h1 hn hcw
    obtain ⟨n1, rfl⟩ := suc_of hn
    have hr := rowAt_get (show c < rows.length by omega)
    have hp := hP.2 c _ hr
    have hk := (k2 c _ hr).1
    obtain ⟨k3, k4, k5, k6⟩ := hk
    have hcl := cntTo_le rows t c
    rw [fX2_rowTo_L5]
    by_cases e : wEnd (rowAt rows c) = t
    · by_cases e2 : cntTo rows t c = w
      · refine Or.inl ⟨c, Nat.le_refl _, by omega, e, e2, ?_⟩
        simp (disch := first | assumption | omega) only [ob1_some, ob2_some, bnd_eq, gd_true, oc_none, oc_some, ↓reduceIte, nI_add, nI_1, nI_leI, nI_ltI, nI_eq, l0, l1, l2, l3, L0, if_pos, if_neg, k_Paths, g_count, p_count, g_parents, a_parents, s_parents, g_lastRoads, a_lastRoads, s_lastRoads, g_ends, a_ends, s_ends, g_lengths, a_lengths, s_lengths, g_roadBits, a_roadBits, s_roadBits, g_townBits, a_townBits, s_townBits, u2_eq, u2_ne, h0, hp.2.2.1]
      · have := ih n1 (c + 1) (by omega) (by omega) (by omega) (by rw [cntTo, if_pos ⟨h1, e⟩]; omega)
        rw [show cntTo rows t (c + 1) = cntTo rows t c + 1 by rw [cntTo, if_pos ⟨h1, e⟩]] at this
        rcases this with ⟨j, j1, j2⟩ | ⟨j1, j2⟩
        · refine Or.inl ⟨j, by omega, j2.1, j2.2.1, j2.2.2.1, ?_⟩
          simp (disch := first | assumption | omega) only [ob1_some, ob2_some, bnd_eq, gd_true, oc_none, oc_some, ↓reduceIte, nI_add, nI_1, nI_leI, nI_ltI, nI_eq, l0, l1, l2, l3, L0, if_pos, if_neg, k_Paths, g_count, p_count, g_parents, a_parents, s_parents, g_lastRoads, a_lastRoads, s_lastRoads, g_ends, a_ends, s_ends, g_lengths, a_lengths, s_lengths, g_roadBits, a_roadBits, s_roadBits, g_townBits, a_townBits, s_townBits, u2_eq, u2_ne, h0, hp.2.2.1]
          exact j2.2.2.2
        · refine Or.inr ⟨j1, ?_⟩
          simp (disch := first | assumption | omega) only [ob1_some, ob2_some, bnd_eq, gd_true, oc_none, oc_some, ↓reduceIte, nI_add, nI_1, nI_leI, nI_ltI, nI_eq, l0, l1, l2, l3, L0, if_pos, if_neg, k_Paths, g_count, p_count, g_parents, a_parents, s_parents, g_lastRoads, a_lastRoads, s_lastRoads, g_ends, a_ends, s_ends, g_lengths, a_lengths, s_lengths, g_roadBits, a_roadBits, s_roadBits, g_townBits, a_townBits, s_townBits, u2_eq, u2_ne, h0, hp.2.2.1]
          exact j2
    · have := ih n1 (c + 1) (by omega) (by omega) (by omega) (by rw [cntTo, if_neg (fun h => e h.2)]; omega)
      rw [show cntTo rows t (c + 1) = cntTo rows t c by rw [cntTo, if_neg (fun h => e h.2)]; rfl] at this
      rcases this with ⟨j, j1, j2⟩ | ⟨j1, j2⟩
      · refine Or.inl ⟨j, by omega, j2.1, j2.2.1, j2.2.2.1, ?_⟩
        simp (disch := first | assumption | omega) only [ob1_some, ob2_some, bnd_eq, gd_true, oc_none, oc_some, ↓reduceIte, nI_add, nI_1, nI_leI, nI_ltI, nI_eq, l0, l1, l2, l3, L0, if_pos, if_neg, k_Paths, g_count, p_count, g_parents, a_parents, s_parents, g_lastRoads, a_lastRoads, s_lastRoads, g_ends, a_ends, s_ends, g_lengths, a_lengths, s_lengths, g_roadBits, a_roadBits, s_roadBits, g_townBits, a_townBits, s_townBits, u2_eq, u2_ne, h0, hp.2.2.1]
        exact j2.2.2.2
      · refine Or.inr ⟨j1, ?_⟩
        simp (disch := first | assumption | omega) only [ob1_some, ob2_some, bnd_eq, gd_true, oc_none, oc_some, ↓reduceIte, nI_add, nI_1, nI_leI, nI_ltI, nI_eq, l0, l1, l2, l3, L0, if_pos, if_neg, k_Paths, g_count, p_count, g_parents, a_parents, s_parents, g_lastRoads, a_lastRoads, s_lastRoads, g_ends, a_ends, s_ends, g_lengths, a_lengths, s_lengths, g_roadBits, a_roadBits, s_roadBits, g_townBits, a_townBits, s_townBits, u2_eq, u2_ne, h0, hp.2.2.1]
        exact j2
/-- a negative number is no count -/
theorem e_rowTo_neg {B n : Nat} {I : Nat → Nat → Int32} {L : Nat → Nat → Int64} {Q : Nat → Nat → Option Nat} {R : Nat → RDt} {x t : Nat} {w : Int32} {rows : List ROW} (hx : isP x) (hP : PathsIs I x rows) (hK : AllOK rows) (ht : t < 2147483648) (hw : w < 0) (k : Option Int32) : ∀ (m n' c : Nat), c + m = rows.length → 1 ≤ c → m < n' → fX2_rowTo_L5 (B + x) (nI t) w (MK B n I L Q R) k n' (nI (cntTo rows t c)) (nI c) = k := by
  obtain ⟨k1, k2⟩ := hK
  have h0 := hP.1
  have hne : ∀ a, a < 2147483648 → (nI a = w) = False := fun a ha => eq_false fun h => by rw [← h] at hw; exact nI_pos (by omega) hw
  intro m
  induction m with
  | zero =>
    intro n' c hc h1 hn
    obtain ⟨n1, rfl⟩ := suc_of hn
    rw [fX2_rowTo_L5, show c = rows.length by omega]
    simp (disch := first | assumption | omega) only [ob1_some, ob2_some, bnd_eq, gd_true, oc_none, oc_some, ↓reduceIte, nI_add, nI_1, nI_leI, nI_ltI, nI_eq, l0, l1, l2, l3, L0, if_pos, if_neg, k_Paths, g_count, p_count, g_parents, a_parents, s_parents, g_lastRoads, a_lastRoads, s_lastRoads, g_ends, a_ends, s_ends, g_lengths, a_lengths, s_lengths, g_roadBits, a_roadBits, s_roadBits, g_townBits, a_townBits, s_townBits, u2_eq, u2_ne, h0]
  | succ m ih =>
    intro n' c hc h1 hn
    obtain ⟨n1, rfl⟩ := suc_of hn
    have hr := rowAt_get (show c < rows.length by omega)
    have hp := hP.2 c _ hr
    have hk := (k2 c _ hr).1
    obtain ⟨k3, k4, k5, k6⟩ := hk
    have hcl := cntTo_le rows t c
    have := ih n1 (c + 1) (by omega) (by omega) (by omega)
    rw [cntTo] at this
    have hne1 := hne (cntTo rows t c) (by omega)
    rw [fX2_rowTo_L5]
    by_cases e : wEnd (rowAt rows c) = t
    · rw [if_pos ⟨h1, e⟩] at this
      simp (disch := first | assumption | omega) only [ob1_some, ob2_some, bnd_eq, gd_true, oc_none, oc_some, ↓reduceIte, nI_add, nI_1, nI_leI, nI_ltI, nI_eq, l0, l1, l2, l3, L0, if_pos, if_neg, k_Paths, g_count, p_count, g_parents, a_parents, s_parents, g_lastRoads, a_lastRoads, s_lastRoads, g_ends, a_ends, s_ends, g_lengths, a_lengths, s_lengths, g_roadBits, a_roadBits, s_roadBits, g_townBits, a_townBits, s_townBits, u2_eq, u2_ne, h0, hp.2.2.1, hne1, if_false]
      exact this
    · rw [if_neg (fun h => e h.2)] at this
      simp (disch := first | assumption | omega) only [ob1_some, ob2_some, bnd_eq, gd_true, oc_none, oc_some, ↓reduceIte, nI_add, nI_1, nI_leI, nI_ltI, nI_eq, l0, l1, l2, l3, L0, if_pos, if_neg, k_Paths, g_count, p_count, g_parents, a_parents, s_parents, g_lastRoads, a_lastRoads, s_lastRoads, g_ends, a_ends, s_ends, g_lengths, a_lengths, s_lengths, g_roadBits, a_roadBits, s_roadBits, g_townBits, a_townBits, s_townBits, u2_eq, u2_ne, h0, hp.2.2.1, hne1, if_false]
      exact this
theorem e_rowTo {B n : Nat} {I : Nat → Nat → Int32} {L : Nat → Nat → Int64} {Q : Nat → Nat → Option Nat} {R : Nat → RDt} {x t : Nat} {w : Int32} {rows : List ROW} (hx : isP x) (hP : PathsIs I x rows) (hK : AllOK rows) (h1 : 1 ≤ rows.length) (ht : t < 2147483648) :
    (∃ v j, w = nI v ∧ 1 ≤ j ∧ j < rows.length ∧ wEnd (rowAt rows j) = t ∧ cntTo rows t j = v ∧ fX2_rowTo (B + x) (nI t) w (MK B n I L Q R) = some (nI j)) ∨ ((∀ v, v < cntTo rows t rows.length → w ≠ nI v) ∧ fX2_rowTo (B + x) (nI t) w (MK B n I L Q R) = some (-1)) := by
  have hl := hK.1
  have hf : rows.length - 1 < lf := by show _ < 1000; omega
  have hc := cntTo_le rows t rows.length
  unfold fX2_rowTo
  by_cases hw : w < 0
  · have := e_rowTo_neg (L := L) (Q := Q) (R := R) (B := B) (n := n) hx hP hK ht hw (some (-1)) (rows.length - 1) lf 1 (by omega) (by omega) hf
    rw [cntTo_1] at this
    exact Or.inr ⟨fun v hv e => by rw [e] at hw; exact nI_pos (by omega) hw, this⟩
  · obtain ⟨v, hv, rfl⟩ := nI_of hw
    have := e_rowTo_L5 (L := L) (Q := Q) (R := R) (B := B) (n := n) (w := v) hx hP hK ht (by omega) (some (-1)) (rows.length - 1) lf 1 (by omega) (by omega) hf (by rw [cntTo_1]; exact Nat.zero_le _)
    rw [cntTo_1] at this
    rcases this with ⟨j, j1, j2, j3, j4, j5⟩ | ⟨j1, j2⟩
    · exact Or.inl ⟨v, j, rfl, j1, j2, j3, j4, j5⟩
    · refine Or.inr ⟨fun v' h' e => ?_, j2⟩
      rw [nI_eq (by omega) (by omega)] at e
      omega
theorem e_uses {B n : Nat} {I : Nat → Nat → Int32} {L : Nat → Nat → Int64} {Q : Nat → Nat → Option Nat} {R : Nat → RDt} {x i q : Nat} {rows : List ROW} {r : ROW} (hx : isP x) (hP : PathsIs I x rows) (hi : rows[i]? = some r) (hl : rows.length ≤ 211) (hr : RowOK r) (hq : q < 31) : fX2_uses (B + x) (nI i) (nI q) (MK B n I L Q R) = some (bz ((wRb r).testBit q)) := by
  have hil : i < rows.length := (List.getElem?_eq_some_iff.mp hi).1
  obtain ⟨p0, p⟩ := hP
  obtain ⟨p1, p2, p3, p4, p5, p6⟩ := p i r hi
  obtain ⟨o1, o2, o3, o4⟩ := hr
  unfold fX2_uses
  by_cases h : (wRb r).testBit q = true
  · simp (disch := first | assumption | omega) only [ob1_some, ob2_some, bnd_eq, gd_true, oc_none, oc_some, ↓reduceIte, nI_add, nI_1, nI_leI, nI_ltI, nI_eq, l0, l1, l2, l3, L0, if_pos, if_neg, k_Paths, g_count, p_count, g_parents, a_parents, s_parents, g_lastRoads, a_lastRoads, s_lastRoads, g_ends, a_ends, s_ends, g_lengths, a_lengths, s_lengths, g_roadBits, a_roadBits, s_roadBits, g_townBits, a_townBits, s_townBits, u2_eq, u2_ne, p5, bit_if, h]
    rfl
  · simp (disch := first | assumption | omega) only [ob1_some, ob2_some, bnd_eq, gd_true, oc_none, oc_some, ↓reduceIte, nI_add, nI_1, nI_leI, nI_ltI, nI_eq, l0, l1, l2, l3, L0, if_pos, if_neg, k_Paths, g_count, p_count, g_parents, a_parents, s_parents, g_lastRoads, a_lastRoads, s_lastRoads, g_ends, a_ends, s_ends, g_lengths, a_lengths, s_lengths, g_roadBits, a_roadBits, s_roadBits, g_townBits, a_townBits, s_townBits, u2_eq, u2_ne, p5, bit_if]
    rw [Bool.not_eq_true] at h
    rw [h]
    rfl
theorem WFr.len {N : NET} {A : Nat → Bool} {rows : List ROW} (h : WFr N A rows) : ∀ (m j : Nat) (r : ROW), j < m → rows[j]? = some r → (wPath r).length = wLen r := by
  intro m
  induction m with
  | zero => intro j r hj; omega
  | succ m ih =>
    intro j r hj hr
    rcases h j r hr with ⟨_, h⟩ | ⟨r', h1, h2, h3, h4, h5⟩
    · rw [h]; rfl
    · have := ih (wPar r) r' (by omega) h2
      rw [h3]
      show (wPath r' ++ [wLast r]).length = wLen r' + 1
      rw [List.length_append, this]
      rfl
/-- a row but row 0 is its parent's, and one road more -/
theorem WFr.par {N : NET} {A : Nat → Bool} {rows : List ROW} (h : WFr N A rows) {j : Nat} (hj : j < rows.length) (h1 : 1 ≤ j) : wPar (rowAt rows j) < j ∧ rowAt rows j = newRow N (wPar (rowAt rows j)) (rowAt rows (wPar (rowAt rows j))) (wLast (rowAt rows j)) ∧ wLast (rowAt rows j) < nM N ∧ goesOn N A (rowAt rows (wPar (rowAt rows j))) (wLast (rowAt rows j)) = true := by
  rcases h j _ (rowAt_get hj) with ⟨h0, _⟩ | ⟨r', g1, g2, g3, g4, g5⟩
  · omega
  · rw [rowAt_eq g2]
    exact ⟨g1, g3, g4, g5⟩
theorem WFr.zero {N : NET} {A : Nat → Bool} {rows : List ROW} (h : WFr N A rows) (hj : 0 < rows.length) : rowAt rows 0 = row0 := by
  rcases h 0 _ (rowAt_get hj) with ⟨_, h1⟩ | ⟨r', g1, _⟩
  · exact h1
  · omega
/-- the k-th road of a row's way -/
theorem e_roadAt_L10 {B n : Nat} {I : Nat → Nat → Int32} {L : Nat → Nat → Int64} {Q : Nat → Nat → Option Nat} {R : Nat → RDt} {x : Nat} {N : NET} {A : Nat → Bool} {rows : List ROW} (hx : isP x) (hP : PathsIs I x rows) (hK : AllOK rows) (hW : WFr N A rows) (c : Nat) (k : Int32 → Option Int32) : ∀ (m n' j : Nat), wLen (rowAt rows j) = c + 1 + m → j < rows.length → m < n' →
    ∃ j', j' < rows.length ∧ wLen (rowAt rows j') = c + 1 ∧ (wPath (rowAt rows j'))[c]? = (wPath (rowAt rows j))[c]? ∧ fX2_roadAt_L10 (B + x) (nI c) (MK B n I L Q R) k n' (nI j) (nI (wLen (rowAt rows j))) = k (nI j') := by
  obtain ⟨k1, k2⟩ := hK
  intro m
  induction m with
  | zero =>
    intro n' j hl hj hn
    obtain ⟨n1, rfl⟩ := suc_of hn
    have hr := rowAt_get hj
    have hk := (k2 j _ hr).1.2.1
    refine ⟨j, hj, by omega, rfl, ?_⟩
    rw [fX2_roadAt_L10, if_pos (show nI (wLen (rowAt rows j)) ≤ nI c + 1 by rw [nI_1, nI_leI (by omega) (by omega)]; omega)]
  | succ m ih =>
    intro n' j hl hj hn
    obtain ⟨n1, rfl⟩ := suc_of hn
    have hr := rowAt_get hj
    have hk := (k2 j _ hr).1.2.1
    have h1 : 1 ≤ j := by
      rcases Nat.eq_zero_or_pos j with e | e
      · rw [e, hW.zero (by omega)] at hl
        have : wLen row0 = 0 := rfl
        omega
      · exact e
    obtain ⟨g1, g2, g3, g4⟩ := hW.par hj h1
    have hlen := hW.len (j + 1) (wPar (rowAt rows j)) _ (by omega) (rowAt_get (show wPar (rowAt rows j) < rows.length by omega))
    have hpl : wLen (rowAt rows j) = wLen (rowAt rows (wPar (rowAt rows j))) + 1 := congrArg wLen g2
    have hpp : wPath (rowAt rows j) = wPath (rowAt rows (wPar (rowAt rows j))) ++ [wLast (rowAt rows j)] := congrArg wPath g2
    obtain ⟨j', f1, f2, f3, f4⟩ := ih n1 (wPar (rowAt rows j)) (by omega) (by omega) (by omega)
    refine ⟨j', f1, f2, ?_, ?_⟩
    · rw [f3, hpp, List.getElem?_append_left (by omega)]
    · rw [fX2_roadAt_L10, if_neg (show ¬ nI (wLen (rowAt rows j)) ≤ nI c + 1 by rw [nI_1, nI_leI (by omega) (by omega)]; omega)]
      have p1 := (hP.2 j _ hr).1
      rw [hpl]
      simp (disch := first | assumption | omega) only [ob1_some, ob2_some, bnd_eq, gd_true, oc_none, oc_some, ↓reduceIte, k_Paths, g_count, p_count, g_parents, a_parents, s_parents, g_lastRoads, a_lastRoads, s_lastRoads, g_ends, a_ends, s_ends, g_lengths, a_lengths, s_lengths, g_roadBits, a_roadBits, s_roadBits, g_townBits, a_townBits, s_townBits, p1, pk_m1]
      exact f4
theorem e_roadAt {B n : Nat} {I : Nat → Nat → Int32} {L : Nat → Nat → Int64} {Q : Nat → Nat → Option Nat} {R : Nat → RDt} {x j c : Nat} {N : NET} {A : Nat → Bool} {rows : List ROW} (hx : isP x) (hP : PathsIs I x rows) (hK : AllOK rows) (hW : WFr N A rows) (hj : j < rows.length) (hc : c < wLen (rowAt rows j)) : ∃ q, (wPath (rowAt rows j))[c]? = some q ∧ fX2_roadAt (B + x) (nI j) (nI c) (MK B n I L Q R) = some (nI q) := by
  have hr := rowAt_get hj
  have hk := (hK.2 j _ hr).1.2.1
  have hl := hK.1
  obtain ⟨j', f1, f2, f3, f4⟩ := e_roadAt_L10 (L := L) (Q := Q) (R := R) (B := B) (n := n) hx hP hK hW c (fun (y11 : Int32) => ob1 (gR (MK B n I L Q R) (B + x) 2 2) fun b12 => ob1 (aI (MK B n I L Q R) b12 0 y11) fun v14 => some v14) (wLen (rowAt rows j) - c - 1) lf j (by omega) hj (by show _ < 1000; omega)
  have h1 : 1 ≤ j' := by
    rcases Nat.eq_zero_or_pos j' with e | e
    · rw [e, hW.zero (by omega)] at f2
      have : wLen row0 = 0 := rfl
      omega
    · exact e
  obtain ⟨g1, g2, g3, g4⟩ := hW.par f1 h1
  have hlen := hW.len (j' + 1) (wPar (rowAt rows j')) _ (by omega) (rowAt_get (show wPar (rowAt rows j') < rows.length by omega))
  have hpl : wLen (rowAt rows j') = wLen (rowAt rows (wPar (rowAt rows j'))) + 1 := congrArg wLen g2
  have hpp : wPath (rowAt rows j') = wPath (rowAt rows (wPar (rowAt rows j'))) ++ [wLast (rowAt rows j')] := congrArg wPath g2
  refine ⟨wLast (rowAt rows j'), ?_, ?_⟩
  · rw [← f3, hpp, List.getElem?_append_right (by omega), show c - (wPath (rowAt rows (wPar (rowAt rows j')))).length = 0 by omega]
    rfl
  · have p4 := (hP.2 j _ hr).2.2.2.1
    have p2 := (hP.2 j' _ (rowAt_get f1)).2.1
    unfold fX2_roadAt
    rw [g_lengths hx, ob1_some, a_lengths hx (by omega), ob1_some, p4, f4]
    simp (disch := first | assumption | omega) only [ob1_some, ob2_some, bnd_eq, gd_true, oc_none, oc_some, ↓reduceIte, k_Paths, g_count, p_count, g_parents, a_parents, s_parents, g_lastRoads, a_lastRoads, s_lastRoads, g_ends, a_ends, s_ends, g_lengths, a_lengths, s_lengths, g_roadBits, a_roadBits, s_roadBits, g_townBits, a_townBits, s_townBits, p2]
