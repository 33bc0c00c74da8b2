/-- reachable by roads -/
def Rch (N : NET) (t : Nat) : Prop := ∀ S : Nat → Prop, S 0 → (∀ r, r < nM N → S (dFrom (nRd N r)) → S (dTo (nRd N r))) → S t
theorem Rch.zero (N : NET) : Rch N 0 := fun _ h _ => h
theorem Rch.go {N : NET} {r : Nat} (hr : r < nM N) (h : Rch N (dFrom (nRd N r))) : Rch N (dTo (nRd N r)) := fun S h0 hs => hs r hr (h S h0 hs)
/-- a flow on roads that can be reached -/
def OnR (N : NET) (fl : Nat → Nat) : Prop := ∀ r, r < nM N → 0 < fl r → Rch N (dFrom (nRd N r))
theorem Rch.edge {N : NET} {fl : Nat → Nat} (hw : OnR N fl) {u v r : Nat} {l : Int} (he : Edge N fl u v r l) (hu : Rch N u) : Rch N v := by
  obtain ⟨hr, ⟨a, b, _⟩ | ⟨hp, a, b, _⟩⟩ := he
  · rw [a] at hu; rw [b]; exact hu.go hr
  · rw [b]; exact hw r hr hp
theorem bf0_some {t : Nat} {d : Int} (h : bf0.1 t = some d) : t = 0 ∧ d = 0 := by
  have h : (if t = 0 then some 0 else none) = some d := h
  by_cases c : t = 0
  · rw [if_pos c] at h
    exact ⟨c, (Option.some.inj h).symm⟩
  · rw [if_neg c] at h
    cases h
theorem bf0_in6 : In6 bf0 := by
  intro t ht
  by_cases c : t = 0
  · omega
  · exact absurd (if_neg c) ht
/-- by which road a town was met -/
def Chain (N : NET) (fl : Nat → Nat) (π : Nat → Int) (s : BFS) (rk : Nat → Nat) : Prop :=
  s.1 0 = some 0 ∧ (∀ t d, s.1 t = some d → π t ≤ d ∧ Rch N t) ∧ ∀ v d, v ≠ 0 → s.1 v = some d → ∃ u l du, Edge N fl u v (s.2 v) l ∧ s.1 u = some du ∧ du + l ≤ d ∧ (du + l = d → rk u < rk v)
theorem Chain.relax {N : NET} {fl : Nat → Nat} {π : Nat → Int} {s : BFS} {rk : Nat → Nat} (hf : Feas N fl π) (hw : OnR N fl) (h6 : In6 s) (h : Chain N fl π s rk) {u v r : Nat} {l : Int} (he : Edge N fl u v r l) : ∃ rk', Chain N fl π (relax s u v r l) rk' := by
  obtain ⟨h1, h2, h3⟩ := h
  cases hb : betterB s u v l with
  | none => rw [relax_no hb]; exact ⟨rk, h1, h2, h3⟩
  | some d =>
    rw [relax_yes hb]
    obtain ⟨du, b1, b2, b3⟩ := better_is hb
    have hl := hf.2.2 u v r l he
    have hu := h2 u du b1
    have hu6 : u < 6 := h6 u (by rw [b1]; exact fun e => by cases e)
    have hv0 : v ≠ 0 := by
      intro e
      have := b3 0 (by rw [e]; exact h1)
      have := hf.1
      rw [e] at hl
      omega
    have huv : u ≠ v := by
      intro e
      have := b3 du (by rw [← e]; exact b1)
      rw [e] at hl
      omega
    have hrk : rk u ≤ sumN 6 rk := sumN_ge 6 hu6
    refine ⟨fun t => if t = v then sumN 6 rk + 1 else rk t, ?_, fun t e ht => ?_, fun w e hw0 ht => ?_⟩
    · show (if 0 = v then some d else s.1 0) = _
      rw [if_neg (fun e => hv0 e.symm)]
      exact h1
    · have ht : (if t = v then some d else s.1 t) = some e := ht
      by_cases c : t = v
      · rw [if_pos c] at ht
        cases ht
        rw [c]
        exact ⟨by omega, Rch.edge hw he hu.2⟩
      · rw [if_neg c] at ht
        exact h2 t e ht
    · have ht : (if w = v then some d else s.1 w) = some e := ht
      by_cases c : w = v
      · rw [if_pos c] at ht
        cases ht
        refine ⟨u, l, du, ?_, ?_, by omega, fun _ => ?_⟩
        · show Edge N fl u w (if w = v then r else s.2 w) l
          rw [if_pos c, c]; exact he
        · show (if u = v then some d else s.1 u) = _
          rw [if_neg huv]; exact b1
        · show (if u = v then sumN 6 rk + 1 else rk u) < (if w = v then sumN 6 rk + 1 else rk w)
          rw [if_neg huv, if_pos c]
          omega
      · rw [if_neg c] at ht
        obtain ⟨a, l', da, g1, g2, g3, g4⟩ := h3 w e hw0 ht
        have g1' : Edge N fl a w (if w = v then r else s.2 w) l' := by rw [if_neg c]; exact g1
        by_cases ca : a = v
        · have hd := b3 da (by rw [← ca]; exact g2)
          refine ⟨a, l', d, g1', if_pos ca, by omega, fun h => by omega⟩
        · refine ⟨a, l', da, g1', ?_, g3, fun h => ?_⟩
          · show (if a = v then some d else s.1 a) = _
            rw [if_neg ca]; exact g2
          · show (if a = v then sumN 6 rk + 1 else rk a) < (if w = v then sumN 6 rk + 1 else rk w)
            rw [if_neg ca, if_neg c]
            exact g4 h
theorem bf_chain {N : NET} {fl : Nat → Nat} {π : Nat → Int} (hO : NetOK N) (hf : Feas N fl π) (hw : OnR N fl) (k : Nat) : ∃ rk, Chain N fl π (bfN N fl k) rk ∧ In6 (bfN N fl k) := by
  have := bf_keeps (N := N) (fl := fl) (P := fun s => (∃ rk, Chain N fl π s rk) ∧ In6 s) (fun s u v r l he ⟨⟨rk, h⟩, h6⟩ => ⟨h.relax hf hw h6 he, h6.relax hO he⟩) ⟨⟨fun _ => 0, rfl, fun t d ht => by
    obtain ⟨rfl, rfl⟩ := bf0_some ht
    exact ⟨Int.le_of_eq hf.1, Rch.zero N⟩, fun v d hv ht => absurd (bf0_some ht).1 hv⟩, bf0_in6⟩ k
  obtain ⟨⟨rk, h⟩, h6⟩ := this
  exact ⟨rk, h, h6⟩
/-- upper ends: what is met is no farther than so many dearest roads -/
def LB : Int := 114600000000000000
theorem edge_le {N : NET} {fl : Nat → Nat} (hO : NetOK N) (hb : ∀ r, r < nM N → fl r ≤ 36) {u v r : Nat} {l : Int} (he : Edge N fl u v r l) : -LB ≤ l ∧ l ≤ LB := by
  obtain ⟨hr, ⟨_, _, a⟩ | ⟨hp, _, _, a⟩⟩ := he
  · have h1 := rCost_le hO hr (show fl r + 1 ≤ 37 by have := hb r hr; omega)
    have h2 := rLoss_le hO hr (show fl r + 1 ≤ 37 by have := hb r hr; omega)
    unfold upN at a
    unfold LB
    omega
  · have h1 := rCost_le hO hr (show fl r ≤ 37 by have := hb r hr; omega)
    have h2 := rLoss_le hO hr (show fl r ≤ 37 by have := hb r hr; omega)
    unfold dnN at a
    unfold LB
    omega
def metN (s : BFS) : Nat := sumN 6 fun t => if s.1 t = none then 0 else 1
def Up (s : BFS) : Prop := (∀ t d, s.1 t = some d → d + LB ≤ (metN s : Int) * LB) ∧ In6 s
theorem metN_le (s : BFS) : metN s ≤ 6 := by
  have := sumN_le (f := fun t => if s.1 t = none then 0 else 1) (b := 1) 6 (fun j _ => by split <;> omega)
  unfold metN
  omega
theorem Up.relax {N : NET} {fl : Nat → Nat} (hO : NetOK N) (hb : ∀ r, r < nM N → fl r ≤ 36) {s : BFS} (h : Up s) {u v r : Nat} {l : Int} (he : Edge N fl u v r l) : Up (relax s u v r l) := by
  refine ⟨?_, h.2.relax hO he⟩
  have hv6 : v < 6 := by
    have hk := (hO.2.2.2.1 r he.1).1.2.2.2.2.2
    rcases he.2 with ⟨_, e, _⟩ | ⟨_, _, e, _⟩ <;> omega
  have hl := edge_le hO hb he
  cases hbt : betterB s u v l with
  | none => rw [relax_no hbt]; exact h.1
  | some d =>
    rw [relax_yes hbt]
    obtain ⟨du, b1, b2, b3⟩ := better_is hbt
    have h1 := h.1 u du b1
    have hm := sumN_upd (f := fun t => if (setB s v r d).1 t = none then 0 else 1) (g := fun t => if s.1 t = none then 0 else 1) 6 hv6 (fun j _ hj => by
      show (if (if j = v then some d else s.1 j) = none then 0 else 1) = _
      rw [if_neg hj])
    have hv1 : (if (setB s v r d).1 v = none then 0 else 1) = 1 := by
      rw [if_neg]
      show (if v = v then some d else s.1 v) ≠ none
      rw [if_pos rfl]
      exact fun e => by cases e
    have hLB : LB = 114600000000000000 := rfl
    intro t e ht
    have ht : (if t = v then some d else s.1 t) = some e := ht
    have hm2 : metN (setB s v r d) + (if s.1 v = none then 0 else 1) = metN s + 1 := by
      rw [hv1] at hm
      exact hm
    have hmono : (metN s : Int) * LB ≤ (metN (setB s v r d) : Int) * LB := by
      have : metN s ≤ metN (setB s v r d) := by
        have : (if s.1 v = none then 0 else 1) ≤ 1 := by split <;> omega
        omega
      rw [hLB]
      omega
    by_cases c : t = v
    · rw [if_pos c] at ht
      cases ht
      cases hv : s.1 v with
      | none =>
        rw [hv, if_pos rfl] at hm2
        rw [show metN (setB s v r d) = metN s + 1 by omega, hLB]
        rw [hLB] at h1 hl
        omega
      | some ev =>
        have := b3 ev hv
        have := h.1 v ev hv
        omega
    · rw [if_neg c] at ht
      have := h.1 t e ht
      omega
theorem bf_up {N : NET} {fl : Nat → Nat} (hO : NetOK N) (hb : ∀ r, r < nM N → fl r ≤ 36) (k : Nat) : Up (bfN N fl k) :=
  bf_keeps (P := Up) (fun s u v r l he h => h.relax hO hb he) ⟨fun t d ht => by
    obtain ⟨rfl, rfl⟩ := bf0_some ht
    decide, bf0_in6⟩ k
