/-! the ways by their length -/
def sh (r : ROW) : ROW := (0, wLast r, wEnd r, wLen r, wRb r, wTb r, wPath r)
def ext (N : NET) (A : Nat → Bool) (r : ROW) : List ROW := extTo N A 0 r (nM N)
theorem sh_ext {N : NET} {A : Nat → Bool} {i : Nat} {r : ROW} : ∀ k, (extTo N A i r k).map sh = extTo N A 0 (sh r) k
  | 0 => rfl
  | k + 1 => by
    rw [extTo, extTo, List.map_append, sh_ext k]
    have e : goesOn N A (sh r) k = goesOn N A r k := rfl
    rw [e]
    by_cases c : goesOn N A r k = true
    · rw [if_pos c, if_pos c]; rfl
    · rw [if_neg c, if_neg c]; rfl
def extL (N : NET) (A : Nat → Bool) : Nat → List ROW → List ROW
  | _, [] => []
  | i, r :: l => extTo N A i r (nM N) ++ extL N A (i + 1) l
theorem sh_extL {N : NET} {A : Nat → Bool} : ∀ (l : List ROW) (i : Nat), (extL N A i l).map sh = (l.map sh).flatMap (ext N A)
  | [], _ => rfl
  | r :: l, i => by
    rw [extL, List.map_append, sh_ext, sh_extL l, List.map_cons, List.flatMap_cons]
    rfl
theorem bfs_run {N : NET} {A : Nat → Bool} (f : Nat) : ∀ (Q D E : List ROW), bfs N A (f + Q.length) D.length (D ++ Q ++ E) = bfs N A f (D.length + Q.length) (D ++ Q ++ (E ++ extL N A D.length Q))
  | [], D, E => by
    show bfs N A f D.length (D ++ [] ++ E) = bfs N A f D.length (D ++ [] ++ (E ++ []))
    rw [List.append_nil E]
  | r :: Q, D, E => by
    have h := bfs_run (N := N) (A := A) f Q (D ++ [r]) (E ++ extTo N A D.length r (nM N))
    have e1 : f + (r :: Q).length = (f + Q.length) + 1 := rfl
    have e2 : (D ++ (r :: Q) ++ E)[D.length]? = some r := by
      rw [List.append_assoc, List.getElem?_append_right (Nat.le_refl _), Nat.sub_self]
      rfl
    have e3 : (D ++ [r]).length = D.length + 1 := by rw [List.length_append]; rfl
    rw [e3] at h
    rw [e1, bfs, e2]
    show bfs N A (f + Q.length) (D.length + 1) (D ++ (r :: Q) ++ E ++ extTo N A D.length r (nM N)) = _
    rw [extL]
    have e4 : D ++ (r :: Q) ++ E ++ extTo N A D.length r (nM N) = D ++ [r] ++ Q ++ (E ++ extTo N A D.length r (nM N)) := by simp
    have e5 : D ++ (r :: Q) ++ (E ++ (extTo N A D.length r (nM N) ++ extL N A (D.length + 1) Q)) = D ++ [r] ++ Q ++ (E ++ extTo N A D.length r (nM N) ++ extL N A (D.length + 1) Q) := by simp
    rw [e4, e5, h, List.length_cons, show D.length + 1 + Q.length = D.length + (Q.length + 1) by omega]
def lvS (N : NET) (A : Nat → Bool) : Nat → List ROW
  | 0 => [row0]
  | d + 1 => (lvS N A d).flatMap (ext N A)
def lvU (N : NET) (A : Nat → Bool) : Nat → List ROW
  | 0 => []
  | d + 1 => lvU N A d ++ lvS N A d
theorem ext_mem {N : NET} {A : Nat → Bool} {i : Nat} {r s : ROW} : ∀ k, s ∈ extTo N A i r k → ∃ q, q < k ∧ goesOn N A r q = true ∧ s = newRow N i r q
  | 0, h => by cases h
  | k + 1, h => by
    rw [extTo] at h
    rcases List.mem_append.mp h with h | h
    · obtain ⟨q, a, b⟩ := ext_mem k h
      exact ⟨q, by omega, b⟩
    · by_cases c : goesOn N A r k = true
      · rw [if_pos c] at h
        exact ⟨k, by omega, c, List.mem_singleton.mp h⟩
      · rw [if_neg c] at h; cases h
/-- what is known of a row of a level -/
def LvOK (d : Nat) (r : ROW) : Prop := pc6 (wTb r) = d + 1 ∧ wLen r = d ∧ (wPath r).length = d ∧ wEnd r < 6 ∧ wTb r < 64 ∧ (wTb r).testBit (wEnd r) = true ∧ ∀ q, q ∈ wPath r → q < 13
theorem ext_ok {N : NET} {A : Nat → Bool} {d : Nat} {r s : ROW} (hO : NetOK N) (h : LvOK d r) (hs : s ∈ ext N A r) : LvOK (d + 1) s := by
  obtain ⟨q, q1, q2, rfl⟩ := ext_mem _ hs
  obtain ⟨h1, h2, h3, h4, h5, h6, h7⟩ := h
  obtain ⟨g1, g2, g3⟩ := goesOn_iff.mp q2
  have ht := (hO.2.2.2.1 q q1).1.2.2.2.2.2.2
  have h13 := hO.2.2.1
  refine ⟨?_, by show wLen r + 1 = d + 1; omega, ?_, ht, ?_, ?_, fun p hp => ?_⟩
  · show pc6 (wTb r ||| 2 ^ dTo (nRd N q)) = d + 1 + 1
    rw [pc6_or ht g3, h1]
  · show (wPath r ++ [q]).length = d + 1
    rw [List.length_append, h3]
    rfl
  · exact or_lt (k := 6) h5 (Nat.pow_lt_pow_right (by decide) ht)
  · show (wTb r ||| 2 ^ dTo (nRd N q)).testBit (dTo (nRd N q)) = true
    rw [Nat.testBit_or, Nat.testBit_two_pow_self, Bool.or_true]
  · have hp : p ∈ wPath r ++ [q] := hp
    rcases List.mem_append.mp hp with h | h
    · exact h7 p h
    · rw [List.mem_singleton.mp h]; omega
theorem lvS_ok {N : NET} {A : Nat → Bool} (hO : NetOK N) : ∀ d r, r ∈ lvS N A d → LvOK d r
  | 0, r, h => by
    rw [List.mem_singleton.mp h]
    exact ⟨by decide, rfl, rfl, by decide, by decide, by decide, fun q hq => by cases hq⟩
  | d + 1, s, h => by
    obtain ⟨r, h1, h2⟩ := List.mem_flatMap.mp h
    exact ext_ok hO (lvS_ok hO d r h1) h2
theorem lvS_6 {N : NET} {A : Nat → Bool} (hO : NetOK N) : lvS N A 6 = [] := by
  cases e : lvS N A 6 with
  | nil => rfl
  | cons r l =>
    have h := lvS_ok (A := A) hO 6 r (by rw [e]; exact List.mem_cons_self)
    have := pc6_le (wTb r)
    have := h.1
    omega
theorem rows_lv {N : NET} {A : Nat → Bool} (hO : NetOK N) : ∀ d, ∃ D Ld : List ROW, rowsOf N A = bfs N A (211 - D.length) D.length (D ++ Ld) ∧ D.length ≤ 211 ∧ D.map sh = lvU N A d ∧ Ld.map sh = lvS N A d
  | 0 => ⟨[], [row0], rfl, Nat.zero_le _, rfl, rfl⟩
  | d + 1 => by
    obtain ⟨D, Ld, h1, h2, h3, h4⟩ := rows_lv hO d
    have hl := rows_le (A := A) hO
    have hb := bfs_len (N := N) (A := A) (211 - D.length) D.length (D ++ Ld)
    rw [← h1, List.length_append] at hb
    refine ⟨D ++ Ld, extL N A D.length Ld, ?_, by rw [List.length_append]; omega, by rw [List.map_append, h3, h4]; rfl, by rw [sh_extL, h4]; rfl⟩
    have hr := bfs_run (N := N) (A := A) (211 - D.length - Ld.length) Ld D []
    rw [List.append_nil, List.nil_append, show 211 - D.length - Ld.length + Ld.length = 211 - D.length by omega] at hr
    rw [h1, hr, List.length_append, show 211 - D.length - Ld.length = 211 - (D.length + Ld.length) by omega]
theorem rows_sh {N : NET} {A : Nat → Bool} (hO : NetOK N) : (rowsOf N A).map sh = lvU N A 6 := by
  obtain ⟨D, Ld, h1, h2, h3, h4⟩ := rows_lv (A := A) hO 6
  rw [lvS_6 hO] at h4
  have h5 : Ld = [] := List.map_eq_nil_iff.mp h4
  rw [h5, List.append_nil] at h1
  have h6 : bfs N A (211 - D.length) D.length D = D := by
    cases 211 - D.length with
    | zero => rfl
    | succ f => rw [bfs, List.getElem?_eq_none (Nat.le_refl _)]
  rw [h1, h6, h3]
/-! those that lead to a town, as the model finds them -/
def isTo (t : Nat) (r : ROW) : Bool := decide (wEnd r = t)
def noTo (t : Nat) (r : ROW) : Bool := !decide (wEnd r = t)
def lvM (N : NET) (A : Nat → Bool) (t : Nat) : Nat → List ROW
  | 0 => [row0]
  | d + 1 => ((lvM N A t d).flatMap (ext N A)).filter (noTo t)
def lvW (N : NET) (A : Nat → Bool) (t : Nat) : Nat → List ROW
  | 0 => []
  | d + 1 => lvW N A t d ++ ((lvM N A t d).flatMap (ext N A)).filter (isTo t)
def offB (t : Nat) (r : ROW) : Bool := !(wTb r).testBit t
theorem ext_off {N : NET} {A : Nat → Bool} {t : Nat} {r s : ROW} (hs : s ∈ ext N A r) : offB t s = (offB t r && noTo t s) ∧ (isTo t s = true → offB t r = true) := by
  obtain ⟨q, q1, q2, rfl⟩ := ext_mem _ hs
  obtain ⟨g1, g2, g3⟩ := goesOn_iff.mp q2
  have e : (wTb (newRow N 0 r q)).testBit t = ((wTb r).testBit t || decide (dTo (nRd N q) = t)) := by
    show (wTb r ||| 2 ^ dTo (nRd N q)).testBit t = _
    rw [Nat.testBit_or, Nat.testBit_two_pow]
  have e2 : wEnd (newRow N 0 r q) = dTo (nRd N q) := rfl
  constructor
  · unfold offB noTo
    rw [e, e2, Bool.not_or]
  · unfold offB isTo
    rw [e2]
    intro h
    rw [← of_decide_eq_true h, g3]
    rfl
theorem flat_no {N : NET} {A : Nat → Bool} {t : Nat} : ∀ l : List ROW, (l.flatMap (ext N A)).filter (offB t) = ((l.filter (offB t)).flatMap (ext N A)).filter (noTo t)
  | [] => rfl
  | r :: l => by
    have ih := flat_no (N := N) (A := A) (t := t) l
    rw [List.flatMap_cons, List.filter_append, ih, List.filter_cons]
    cases c : offB t r with
    | true =>
      rw [if_pos rfl, List.flatMap_cons, List.filter_append]
      congr 1
      refine List.filter_congr fun s hs => ?_
      rw [(ext_off hs).1, c, Bool.true_and]
    | false =>
      rw [if_neg (by decide)]
      have : (ext N A r).filter (offB t) = [] := by
        rw [List.filter_eq_nil_iff]
        intro s hs
        rw [(ext_off hs).1, c, Bool.false_and]
        decide
      rw [this, List.nil_append]
theorem flat_is {N : NET} {A : Nat → Bool} {t : Nat} : ∀ l : List ROW, (l.flatMap (ext N A)).filter (isTo t) = ((l.filter (offB t)).flatMap (ext N A)).filter (isTo t)
  | [] => rfl
  | r :: l => by
    have ih := flat_is (N := N) (A := A) (t := t) l
    rw [List.flatMap_cons, List.filter_append, ih, List.filter_cons]
    cases c : offB t r with
    | true => rw [if_pos rfl, List.flatMap_cons, List.filter_append]
    | false =>
      rw [if_neg (by decide)]
      have : (ext N A r).filter (isTo t) = [] := by
        rw [List.filter_eq_nil_iff]
        intro s hs h
        have := (ext_off hs).2 h
        rw [c] at this
        cases this
      rw [this, List.nil_append]
theorem lvM_eq {N : NET} {A : Nat → Bool} {t : Nat} (h0 : t ≠ 0) : ∀ d, lvM N A t d = (lvS N A d).filter (offB t)
  | 0 => by
    have : offB t row0 = true := by
      show (!(1 : Nat).testBit t) = true
      rw [show (1 : Nat) = 2 ^ 0 from rfl, Nat.testBit_two_pow, decide_eq_false (fun h => h0 h.symm)]
      rfl
    show [row0] = List.filter (offB t) [row0]
    rw [List.filter_cons, if_pos this]
    rfl
  | d + 1 => by
    rw [lvM, lvS, lvM_eq h0 d, flat_no]
theorem lvW_eq {N : NET} {A : Nat → Bool} {t : Nat} (h0 : t ≠ 0) : ∀ d, lvW N A t d = (lvU N A (d + 1)).filter (isTo t)
  | 0 => by
    have : isTo t row0 = false := decide_eq_false (fun h => h0 h.symm)
    show [] = List.filter (isTo t) ([] ++ [row0])
    rw [List.nil_append, List.filter_cons, if_neg (by rw [this]; decide)]
    rfl
  | d + 1 => by
    have e : lvU N A (d + 1 + 1) = lvU N A (d + 1) ++ (lvS N A d).flatMap (ext N A) := rfl
    rw [lvW, lvW_eq h0 d, lvM_eq h0 d, e, List.filter_append, ← flat_is]
theorem lvW_rows {N : NET} {A : Nat → Bool} {t : Nat} (hO : NetOK N) (h0 : t ≠ 0) : lvW N A t 5 = ((rowsOf N A).map sh).filter (isTo t) := by
  rw [rows_sh hO, lvW_eq h0 5]
/-- the way of a number is the row that counts it -/
theorem filter_at {t : Nat} : ∀ (rows : List ROW) (j : Nat), j < rows.length → isTo t (rowAt rows j) = true → (rows.filter (isTo t))[((rows.take j).filter (isTo t)).length]? = some (rowAt rows j)
  | [], j, h, _ => absurd h (Nat.not_lt_zero _)
  | r :: l, 0, _, hi => by
    have hi : isTo t r = true := hi
    rw [List.filter_cons, if_pos hi]
    rfl
  | r :: l, j + 1, h, hi => by
    have hi : isTo t (rowAt l j) = true := hi
    have ih := filter_at l j (Nat.lt_of_succ_lt_succ h) hi
    have e : rowAt (r :: l) (j + 1) = rowAt l j := rfl
    rw [e, List.take_succ_cons, List.filter_cons, List.filter_cons]
    by_cases c : isTo t r = true
    · rw [if_pos c, if_pos c, List.length_cons, List.getElem?_cons_succ]; exact ih
    · rw [if_neg c, if_neg c]; exact ih
theorem cnt_filter {rows : List ROW} {t : Nat} (h0 : t ≠ 0) (hz : rowAt rows 0 = row0) : ∀ j, j ≤ rows.length → ((rows.take j).filter (isTo t)).length = cntTo rows t j
  | 0, _ => by rw [List.take_zero]; rfl
  | j + 1, h => by
    have ih := cnt_filter h0 hz j (by omega)
    rw [List.take_succ, rowAt_get (show j < rows.length by omega), List.filter_append, List.length_append, ih, cntTo]
    congr 1
    show (List.filter (isTo t) [rowAt rows j]).length = _
    by_cases c : wEnd (rowAt rows j) = t
    · have c1 : 1 ≤ j := by
        rcases Nat.eq_zero_or_pos j with e | e
        · rw [e, hz] at c
          exact absurd c.symm h0
        · exact e
      rw [if_pos ⟨c1, c⟩, List.filter_cons, if_pos (show isTo t (rowAt rows j) = true from decide_eq_true c)]
      rfl
    · rw [if_neg (fun q => c q.2), List.filter_cons, if_neg (by unfold isTo; rw [decide_eq_false c]; decide)]
      rfl
