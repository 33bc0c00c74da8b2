theorem mem_extTo {N : NET} {A : Nat → Bool} {i : Nat} {r s : ROW} : ∀ q : Nat, s ∈ extTo N A i r q → ∃ p, p < q ∧ goesOn N A r p = true ∧ s = newRow N i r p
  | 0, h => by simp [extTo] at h
  | q + 1, h => by
    rw [extTo, List.mem_append] at h
    rcases h with h | h
    · obtain ⟨p, h1, h2⟩ := mem_extTo q h
      exact ⟨p, by omega, h2⟩
    · by_cases e : goesOn N A r q = true
      · rw [if_pos e] at h
        exact ⟨q, by omega, e, List.mem_singleton.mp h⟩
      · rw [if_neg e] at h
        simp at h
theorem extTo_le {N : NET} {A : Nat → Bool} {i : Nat} {r : ROW} {q : Nat} : ∀ m : Nat, (extTo N A i r q).length ≤ (extTo N A i r (q + m)).length
  | 0 => Nat.le_refl _
  | m + 1 => by
    have := extTo_le (N := N) (A := A) (i := i) (r := r) (q := q) m
    show _ ≤ (extTo N A i r (q + m + 1)).length
    rw [extTo, List.length_append]
    omega
/-- rows that grew each out of an earlier one -/
def WFr (N : NET) (A : Nat → Bool) (rows : List ROW) : Prop := ∀ (j : Nat) (r : ROW), rows[j]? = some r → (j = 0 ∧ r = row0) ∨ ∃ r' : ROW, wPar r < j ∧ rows[wPar r]? = some r' ∧ r = newRow N (wPar r) r' (wLast r) ∧ wLast r < nM N ∧ goesOn N A r' (wLast r) = true
theorem WFr.ext {N : NET} {A : Nat → Bool} {rows : List ROW} {i : Nat} {r : ROW} (h : WFr N A rows) (hi : rows[i]? = some r) {q : Nat} (hq : q ≤ nM N) : WFr N A (rows ++ extTo N A i r q) := by
  intro j s hs
  have hil : i < rows.length := (List.getElem?_eq_some_iff.mp hi).1
  by_cases hj : j < rows.length
  · rw [List.getElem?_append_left hj] at hs
    rcases h j s hs with h | ⟨r', h1, h2, h3⟩
    · exact Or.inl h
    · exact Or.inr ⟨r', h1, by rw [List.getElem?_append_left (by omega)]; exact h2, h3⟩
  · rw [List.getElem?_append_right (by omega)] at hs
    obtain ⟨p, h1, h2, h3⟩ := mem_extTo q (List.mem_of_getElem? hs)
    refine Or.inr ⟨r, ?_, ?_, ?_, ?_, ?_⟩
    · rw [h3]; show i < j; omega
    · rw [h3]; show (rows ++ extTo N A i r q)[i]? = _; rw [List.getElem?_append_left hil]; exact hi
    · rw [h3]; rfl
    · rw [h3]; show p < nM N; omega
    · rw [h3]; exact h2
theorem WFr.one (N : NET) (A : Nat → Bool) : WFr N A [row0] := by
  intro j r h
  have hj : j < 1 := (List.getElem?_eq_some_iff.mp h).1
  rw [show j = 0 by omega] at h
  cases h
  exact Or.inl ⟨by omega, rfl⟩
theorem WFr.ok {N : NET} {A : Nat → Bool} {rows : List ROW} (h : WFr N A rows) (hO : NetOK N) (hl : rows.length ≤ 211) : ∀ (m j : Nat) (r : ROW), j < m → rows[j]? = some r → RowOK r ∧ wLen r ≤ j := by
  intro m
  induction m with
  | zero => intro j r hj; omega
  | succ m ih =>
    intro j r hj hr
    have hjl : j < rows.length := (List.getElem?_eq_some_iff.mp hr).1
    rcases h j r hr with ⟨_, h⟩ | ⟨r', h1, h2, h3, h4, h5⟩
    · rw [h]
      exact ⟨⟨by decide, by decide, by decide, by decide⟩, Nat.zero_le _⟩
    · obtain ⟨g1, g2⟩ := ih (wPar r) r' (by omega) h2
      obtain ⟨o1, o2, o3, o4, o5⟩ := hO
      have := (o4 _ h4).1
      rw [h3]
      refine ⟨newRow_ok g1 (by omega) (by omega) this.2.2.2.2.2.2, ?_⟩
      show wLen r' + 1 ≤ j
      omega
theorem bfs_wf {N : NET} {A : Nat → Bool} : ∀ (f i : Nat) (rows : List ROW), WFr N A rows → WFr N A (bfs N A f i rows)
  | 0, _, rows, h => h
  | f + 1, i, rows, h => by
    rw [bfs]
    cases e : rows[i]? with
    | none => exact h
    | some r => exact bfs_wf f (i + 1) _ (h.ext e (Nat.le_refl _))
theorem bfs_len {N : NET} {A : Nat → Bool} : ∀ (f i : Nat) (rows : List ROW), rows.length ≤ (bfs N A f i rows).length
  | 0, _, rows => Nat.le_refl _
  | f + 1, i, rows => by
    rw [bfs]
    cases e : rows[i]? with
    | none => exact Nat.le_refl _
    | some r =>
      have := bfs_len (N := N) (A := A) f (i + 1) (rows ++ extTo N A i r (nM N))
      rw [List.length_append] at this
      show rows.length ≤ (bfs N A f (i + 1) (rows ++ extTo N A i r (nM N))).length
      omega
theorem goesOn_iff {N : NET} {A : Nat → Bool} {r : ROW} {q : Nat} : goesOn N A r q = true ↔ A q = true ∧ dFrom (nRd N q) = wEnd r ∧ (wTb r).testBit (dTo (nRd N q)) = false := by
  unfold goesOn
  simp
theorem e_find_L25 {B n : Nat} {Ia : Nat → Nat → Int32} {L : Nat → Nat → Int64} {Q : Nat → Nat → Option Nat} {R : Nat → RDt} {x y i : Nat} {N : NET} {A : Nat → Bool} {x2 : Int32} {rows : List ROW} {r : ROW} (hx : isP x) (hy : isN y) (hN : NetIs B n Ia L Q R y N) (hO : NetOK N) (hA : ∀ q, q < 13 → (nI q = x2 ↔ A q = false)) (hi : rows[i]? = some r) (hr : RowOK r) (hb : (rows ++ extTo N A i r (nM N)).length ≤ 211) (k : AH → Option AH) : ∀ (m n' q : Nat) (I : Nat → Nat → Int32), q + m = nM N → m < n' → PathsIs I x (rows ++ extTo N A i r q) → (∀ k, k < x ∨ x + 7 ≤ k → I k = Ia k) →
    ∃ I' : Nat → Nat → Int32, fX2_find_L25 (B + x) (B + y) x2 (nI i) k n' (nI q) (MK B n I L Q R) = k (MK B n I' L Q R) ∧ PathsIs I' x (rows ++ extTo N A i r (nM N)) ∧ (∀ k, k < x ∨ x + 7 ≤ k → I' k = Ia k) := by
  have hil : i < rows.length := (List.getElem?_eq_some_iff.mp hi).1
  have hap : y + 7 ≤ x ∨ x + 7 ≤ y := by unfold isP at hx; unfold isN at hy; omega
  obtain ⟨o1, o2, o3, o4, o5⟩ := id hO
  intro m
  induction m with
  | zero =>
    intro n' q I hq hn hP hF
    obtain ⟨n1, rfl⟩ := suc_of hn
    have hN' : NetIs B n I L Q R y N := hN.same (fun k h1 h2 => hF k (by omega)) rfl
    have hM := hN'.2.1
    rw [show q = nM N by omega] at hP ⊢
    refine ⟨I, ?_, hP, hF⟩
    rw [fX2_find_L25]
    simp (disch := first | assumption | omega) only [ob1_some, ob2_some, bnd_eq, gd_true, oc_none, oc_some, ↓reduceIte, nI_add, nI_1, nI_leI, nI_ltI, nI_eq, l0, l1, l2, l3, L0, if_pos, if_neg, k_Net, g_towns, p_towns, g_size, p_size, g_roads, g_tolls, g_crowds, a_tolls, s_tolls, r_crowds, a_crowd, s_crowd, q_roads, w_roads, u2_eq, u2_ne, hM]
  | succ m ih =>
    intro n' q I hq hn hP hF
    obtain ⟨n1, rfl⟩ := suc_of hn
    have hN' : NetIs B n I L Q R y N := hN.same (fun k h1 h2 => hF k (by omega)) rfl
    have hM := hN'.2.1
    have hv := hN'.2.2.1 q (by omega)
    have hd := hN'.2.2.2.1 q (by omega)
    have hk := (o4 q (by omega)).1
    have hq1 := q_roads (B := B) (n := n) (I := I) (L := L) (R := R) hy (show q < 13 by omega) hv.1
    have hi' : (rows ++ extTo N A i r q)[i]? = some r := by rw [List.getElem?_append_left hil]; exact hi
    have hl : (rows ++ extTo N A i r q).length ≤ 211 := by
      have := extTo_le (N := N) (A := A) (i := i) (r := r) (q := q) (m + 1)
      rw [hq] at this
      rw [List.length_append] at hb ⊢
      omega
    by_cases hg : goesOn N A r q = true
    · obtain ⟨g1, g2, g3⟩ := goesOn_iff.mp hg
      have hl2 : (rows ++ extTo N A i r q).length < 211 := by
        have := extTo_le (N := N) (A := A) (i := i) (r := r) (q := q + 1) m
        rw [show q + 1 + m = nM N by omega, extTo, if_pos hg, List.length_append] at this
        rw [List.length_append] at hb ⊢
        simp at this
        omega
      obtain ⟨I1, e1, e2, e3⟩ := e_grow_yes (N := N) (L := L) (Q := Q) hx hP hi' hl2 hr hv.2 hd hk (by omega) g2 g3 rfl
      have hP1 : PathsIs I1 x (rows ++ extTo N A i r (q + 1)) := by
        rw [extTo, if_pos hg, ← List.append_assoc]
        exact e2
      obtain ⟨I', f1, f2, f3⟩ := ih n1 (q + 1) I1 (by omega) (by omega) hP1 (fun k hk => by rw [e3 k hk, hF k hk])
      refine ⟨I', ?_, f2, f3⟩
      have hne : ¬ nI q = x2 := fun h => by rw [(hA q (by omega)).mp h] at g1; cases g1
      rw [fX2_find_L25]
      simp (disch := first | assumption | omega) only [ob1_some, ob2_some, bnd_eq, gd_true, oc_none, oc_some, ↓reduceIte, nI_add, nI_1, nI_leI, nI_ltI, nI_eq, l0, l1, l2, l3, L0, if_pos, if_neg, k_Net, g_towns, p_towns, g_size, p_size, g_roads, g_tolls, g_crowds, a_tolls, s_tolls, r_crowds, a_crowd, s_crowd, q_roads, w_roads, u2_eq, u2_ne, hM, hq1, e1, hne, if_false]
      exact f1
    · have hP1 : PathsIs I x (rows ++ extTo N A i r (q + 1)) := by
        rw [extTo, if_neg hg, List.append_nil]
        exact hP
      obtain ⟨I', f1, f2, f3⟩ := ih n1 (q + 1) I (by omega) (by omega) hP1 hF
      refine ⟨I', ?_, f2, f3⟩
      rw [fX2_find_L25]
      by_cases hs : nI q = x2
      · subst hs
        simp (disch := first | assumption | omega) only [ob1_some, ob2_some, bnd_eq, gd_true, oc_none, oc_some, ↓reduceIte, nI_add, nI_1, nI_leI, nI_ltI, nI_eq, l0, l1, l2, l3, L0, if_pos, if_neg, k_Net, g_towns, p_towns, g_size, p_size, g_roads, g_tolls, g_crowds, a_tolls, s_tolls, r_crowds, a_crowd, s_crowd, q_roads, w_roads, u2_eq, u2_ne, hM]
        exact f1
      · have hA1 : A q = true := by
          cases h : A q
          · exact absurd ((hA q (by omega)).mpr h) hs
          · rfl
        have e1 := e_grow_no (L := L) (Q := Q) hx hP hi' hl hr hv.2 hd hk (show q < 13 by omega) (fun h => hg (goesOn_iff.mpr ⟨hA1, h.1, h.2⟩))
        simp (disch := first | assumption | omega) only [ob1_some, ob2_some, bnd_eq, gd_true, oc_none, oc_some, ↓reduceIte, nI_add, nI_1, nI_leI, nI_ltI, nI_eq, l0, l1, l2, l3, L0, if_pos, if_neg, k_Net, g_towns, p_towns, g_size, p_size, g_roads, g_tolls, g_crowds, a_tolls, s_tolls, r_crowds, a_crowd, s_crowd, q_roads, w_roads, u2_eq, u2_ne, hM, hq1, e1, hs, if_false]
        exact f1
theorem e_find_L7 {B n : Nat} {Ia : Nat → Nat → Int32} {L : Nat → Nat → Int64} {Q : Nat → Nat → Option Nat} {R : Nat → RDt} {x y : Nat} {N : NET} {A : Nat → Bool} {x2 : Int32} (hx : isP x) (hy : isN y) (hN : NetIs B n Ia L Q R y N) (hO : NetOK N) (hA : ∀ q, q < 13 → (nI q = x2 ↔ A q = false)) (k : AH → Option AH) : ∀ (f n' i : Nat) (rows : List ROW) (I : Nat → Nat → Int32), f + i = 211 → f < n' → WFr N A rows → (bfs N A f i rows).length ≤ 211 → PathsIs I x rows → (∀ k, k < x ∨ x + 7 ≤ k → I k = Ia k) →
    ∃ I' : Nat → Nat → Int32, fX2_find_L7 (B + x) (B + y) x2 k n' (nI i) (MK B n I L Q R) = k (MK B n I' L Q R) ∧ PathsIs I' x (bfs N A f i rows) ∧ (∀ k, k < x ∨ x + 7 ≤ k → I' k = Ia k) := by
  have hap : y + 7 ≤ x ∨ x + 7 ≤ y := by unfold isP at hx; unfold isN at hy; omega
  intro f
  induction f with
  | zero =>
    intro n' i rows I hi hn hW hb hP hF
    obtain ⟨n1, rfl⟩ := suc_of hn
    refine ⟨I, ?_, hP, hF⟩
    have hb : rows.length ≤ 211 := hb
    have h0 := hP.1
    rw [fX2_find_L7]
    simp (disch := first | assumption | omega) only [ob1_some, ob2_some, bnd_eq, gd_true, oc_none, oc_some, ↓reduceIte, nI_add, nI_1, nI_leI, nI_ltI, nI_eq, l0, l1, l2, l3, L0, if_pos, if_neg, k_Paths, g_count, p_count, g_parents, a_parents, s_parents, g_lastRoads, a_lastRoads, s_lastRoads, g_ends, a_ends, s_ends, g_lengths, a_lengths, s_lengths, g_roadBits, a_roadBits, s_roadBits, g_townBits, a_townBits, s_townBits, u2_eq, u2_ne, h0]
  | succ f ih =>
    intro n' i rows I hi hn hW hb hP hF
    obtain ⟨n1, rfl⟩ := suc_of hn
    have h0 := hP.1
    have hl := Nat.le_trans (bfs_len (N := N) (A := A) (f + 1) i rows) hb
    rw [bfs] at hb ⊢
    rw [fX2_find_L7]
    cases e : rows[i]? with
    | none =>
      rw [e] at hb
      have : rows.length ≤ i := List.getElem?_eq_none_iff.mp e
      refine ⟨I, ?_, hP, hF⟩
      simp (disch := first | assumption | omega) only [ob1_some, ob2_some, bnd_eq, gd_true, oc_none, oc_some, ↓reduceIte, nI_add, nI_1, nI_leI, nI_ltI, nI_eq, l0, l1, l2, l3, L0, if_pos, if_neg, k_Paths, g_count, p_count, g_parents, a_parents, s_parents, g_lastRoads, a_lastRoads, s_lastRoads, g_ends, a_ends, s_ends, g_lengths, a_lengths, s_lengths, g_roadBits, a_roadBits, s_roadBits, g_townBits, a_townBits, s_townBits, u2_eq, u2_ne, h0]
    | some r =>
      rw [e] at hb
      have hb : (bfs N A f (i + 1) (rows ++ extTo N A i r (nM N))).length ≤ 211 := hb
      have hil : i < rows.length := (List.getElem?_eq_some_iff.mp e).1
      have hl2 := Nat.le_trans (bfs_len (N := N) (A := A) f (i + 1) (rows ++ extTo N A i r (nM N))) hb
      have hr := (hW.ok hO hl (i + 1) i r (by omega) e).1
      have hm := hO.2.2.1
      obtain ⟨I1, e1, e2, e3⟩ := e_find_L25 hx hy hN hO hA e hr hl2 (fun (g17 : AH) =>
          bnd (nI i + (1 : Int32)) fun y18 =>
          fX2_find_L7 (B + x) (B + y) x2 k n1 y18 g17) (nM N) lf 0 I (by omega) (by show nM N < 1000; omega) (by rw [extTo, List.append_nil]; exact hP) hF
      obtain ⟨I', f1, f2, f3⟩ := ih n1 (i + 1) _ I1 (by omega) (by omega) (hW.ext e (Nat.le_refl _)) hb e2 e3
      refine ⟨I', ?_, f2, f3⟩
      have c1 : ¬ nI rows.length ≤ nI i := by rw [nI_leI (by omega) (by omega)]; omega
      have c2 : ¬ (211 : Int32) ≤ nI i := by rw [l211, nI_leI (by omega) (by omega)]; omega
      rw [g_count hx, ob1_some, h0, if_neg c1, if_neg c2]
      refine Eq.trans e1 ?_
      rw [bnd_eq, nI_1]
      exact f1
theorem e_find {B n : Nat} {I : Nat → Nat → Int32} {L : Nat → Nat → Int64} {Q : Nat → Nat → Option Nat} {R : Nat → RDt} {x y : Nat} {N : NET} {A : Nat → Bool} {x2 : Int32} (hx : isP x) (hy : isN y) (hN : NetIs B n I L Q R y N) (hO : NetOK N) (hA : ∀ q, q < 13 → (nI q = x2 ↔ A q = false)) (hb : (rowsOf N A).length ≤ 211) (h6 : I (x + 6) 0 = nI 1) (h3 : I (x + 3) 0 = nI 0) (h1 : I (x + 1) 0 = nI 0) (h2 : I (x + 2) 0 = nI 0) (h4 : I (x + 4) 0 = nI 0) (h5 : I (x + 5) 0 = nI 0) :
    ∃ I' : Nat → Nat → Int32, fX2_find (B + x) (B + y) x2 (MK B n I L Q R) = some (MK B n I' L Q R) ∧ PathsIs I' x (rowsOf N A) ∧ (∀ k, k < x ∨ x + 7 ≤ k → I' k = I k) := by
  obtain ⟨I', f1, f2, f3⟩ := e_find_L7 (Ia := I) hx hy hN hO hA (fun (g21 : AH) => some g21) 211 lf 0 [row0] (u2 I x 0 (nI 1)) (by omega) (by decide) (WFr.one N A) hb (by
    refine ⟨u2_eq, fun i r h => ?_⟩
    have hj : i < 1 := (List.getElem?_eq_some_iff.mp h).1
    rw [show i = 0 by omega] at h ⊢
    cases h
    simp (disch := omega) only [u2_ne, h1, h2, h3, h4, h5, h6]
    exact ⟨rfl, rfl, rfl, rfl, rfl, rfl⟩) (fun k hk => u2_nk (by omega))
  refine ⟨I', ?_, f2, f3⟩
  unfold fX2_find
  rw [show (1 : Int32) = nI 1 from rfl, p_count hx, ob1_some]
  exact f1
/-- row 0 of the arrays, which no call changes -/
def Row0 (I : Nat → Nat → Int32) (x : Nat) : Prop := I (x + 6) 0 = nI 1 ∧ I (x + 3) 0 = nI 0 ∧ I (x + 1) 0 = nI 0 ∧ I (x + 2) 0 = nI 0 ∧ I (x + 4) 0 = nI 0 ∧ I (x + 5) 0 = nI 0
