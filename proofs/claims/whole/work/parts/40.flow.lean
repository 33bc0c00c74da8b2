/-! flows: nearest ways by rounds, and why what they make is the cheapest -/
theorem rCost_succ (d : RD) (x : Nat) : rCost d (x + 1) = rCost d x + rGrow d (x + 1) := by
  have h1 : dSlope d * (x + 1) = dSlope d * x + dSlope d := Nat.mul_succ _ _
  have h2 : dSteep d * (x + 1 - dKnee d) = dSteep d * (x - dKnee d) + (if dKnee d < x + 1 then dSteep d else 0) := by
    by_cases h : dKnee d < x + 1
    · rw [if_pos h, show x + 1 - dKnee d = (x - dKnee d) + 1 by omega, Nat.mul_succ]
    · rw [if_neg h, show x + 1 - dKnee d = 0 by omega, show x - dKnee d = 0 by omega]
      rfl
  unfold rCost rGrow
  by_cases k1 : 1 ≤ dKind d
  · by_cases k2 : 2 ≤ dKind d
    · simp only [k1, k2, if_true, true_and, h1, h2]
      omega
    · simp only [k1, k2, if_true, if_false, false_and, h1]
      omega
  · have k2 : ¬ 2 ≤ dKind d := by omega
    simp only [k1, k2, if_false, false_and]
theorem rGrow_mono (d : RD) {x y : Nat} (h : x ≤ y) : rGrow d x ≤ rGrow d y := by
  unfold rGrow
  by_cases k : 2 ≤ dKind d ∧ dKnee d < x
  · have e1 : (if 2 ≤ dKind d ∧ dKnee d < x then dSteep d else 0) = dSteep d := if_pos k
    have e2 : (if 2 ≤ dKind d ∧ dKnee d < y then dSteep d else 0) = dSteep d := if_pos ⟨k.1, by omega⟩
    omega
  · rw [if_neg k]
    omega
theorem rCost_mono (d : RD) {x : Nat} : ∀ m, rCost d x ≤ rCost d (x + m)
  | 0 => Nat.le_refl _
  | m + 1 => by
    have := rCost_mono d (x := x) m
    have := rCost_succ d (x + m)
    show _ ≤ rCost d (x + m + 1)
    omega
theorem rLoss_mono (d : RD) {x y : Nat} (h : x ≤ y) : rLoss d x ≤ rLoss d y := Nat.mul_le_mul (by omega) (rGrow_mono d h)
/-- what one more makes dearer; what one less saves -/
def upN (N : NET) (r x : Nat) : Nat := rCost (nRd N r) (x + 1) + rLoss (nRd N r) (x + 1)
def dnN (N : NET) (r x : Nat) : Nat := rCost (nRd N r) x + rLoss (nRd N r) x
theorem dn_up (N : NET) (r x : Nat) : dnN N r (x + 1) = upN N r x := rfl
theorem up_mono (N : NET) (r : Nat) {x y : Nat} (h : x ≤ y) : upN N r x ≤ upN N r y := by
  have h1 := rCost_mono (nRd N r) (x := x + 1) (y - x)
  rw [show x + 1 + (y - x) = y + 1 by omega] at h1
  have h2 := rLoss_mono (nRd N r) (show x + 1 ≤ y + 1 by omega)
  unfold upN
  omega
/-- what all on a road pay together -/
def allN (N : NET) (r x : Nat) : Nat := x * rCost (nRd N r) x
theorem all_up (N : NET) (r x : Nat) : allN N r (x + 1) = allN N r x + upN N r x := by
  unfold allN upN
  have h : rLoss (nRd N r) (x + 1) = x * rGrow (nRd N r) (x + 1) := rfl
  rw [h, Nat.succ_mul]
  have := rCost_succ (nRd N r) x
  have h2 : x * rCost (nRd N r) (x + 1) = x * rCost (nRd N r) x + x * rGrow (nRd N r) (x + 1) := by rw [this, Nat.mul_add]
  omega
/-- how far towns are, if they are met; by which road -/
abbrev BFS : Type := (Nat → Option Int) × (Nat → Nat)
def setB (s : BFS) (v r : Nat) (d : Int) : BFS := (fun t => if t = v then some d else s.1 t, fun t => if t = v then r else s.2 t)
def betterB (s : BFS) (u v : Nat) (l : Int) : Option Int := match s.1 u with
  | none => none
  | some d => match s.1 v with
    | none => some (d + l)
    | some e => if d + l < e then some (d + l) else none
def relax (s : BFS) (u v r : Nat) (l : Int) : BFS := match betterB s u v l with
  | some d => setB s v r d
  | none => s
def relaxR (N : NET) (fl : Nat → Nat) (s : BFS) (r : Nat) : BFS :=
  if 0 < fl r then relax (relax s (dFrom (nRd N r)) (dTo (nRd N r)) r (upN N r (fl r) : Int)) (dTo (nRd N r)) (dFrom (nRd N r)) r (-(dnN N r (fl r) : Int))
  else relax s (dFrom (nRd N r)) (dTo (nRd N r)) r (upN N r (fl r) : Int)
def rnd (N : NET) (fl : Nat → Nat) : Nat → BFS → BFS
  | 0, s => s
  | k + 1, s => relaxR N fl (rnd N fl k s) k
def bf0 : BFS := (fun t => if t = 0 then some 0 else none, fun _ => 0)
def bfN (N : NET) (fl : Nat → Nat) : Nat → BFS
  | 0 => bf0
  | k + 1 => rnd N fl (nM N) (bfN N fl k)
/-- a road on which one more may go, or one less -/
def Edge (N : NET) (fl : Nat → Nat) (u v r : Nat) (l : Int) : Prop := r < nM N ∧ ((u = dFrom (nRd N r) ∧ v = dTo (nRd N r) ∧ l = (upN N r (fl r) : Int)) ∨ (0 < fl r ∧ u = dTo (nRd N r) ∧ v = dFrom (nRd N r) ∧ l = -(dnN N r (fl r) : Int)))
theorem better_is {s : BFS} {u v : Nat} {l d : Int} (h : betterB s u v l = some d) : ∃ du, s.1 u = some du ∧ d = du + l ∧ ∀ e, s.1 v = some e → d < e := by
  unfold betterB at h
  cases hu : s.1 u with
  | none => rw [hu] at h; cases h
  | some du =>
    rw [hu] at h
    refine ⟨du, rfl, ?_⟩
    cases hv : s.1 v with
    | none => rw [hv] at h; cases h; exact ⟨rfl, fun e he => by cases he⟩
    | some e =>
      rw [hv] at h
      by_cases c : du + l < e
      · simp only [if_pos c] at h
        cases h
        exact ⟨rfl, fun e' he => by cases he; exact c⟩
      · simp only [if_neg c] at h
        cases h
theorem better_no {s : BFS} {u v : Nat} {l du : Int} (h : betterB s u v l = none) (hu : s.1 u = some du) : ∃ e, s.1 v = some e ∧ e ≤ du + l := by
  unfold betterB at h
  rw [hu] at h
  cases hv : s.1 v with
  | none => rw [hv] at h; cases h
  | some e =>
    rw [hv] at h
    by_cases c : du + l < e
    · simp only [if_pos c] at h
      cases h
    · exact ⟨e, rfl, by omega⟩
/-- what each relaxing by an edge keeps, all of them keep -/
theorem rnd_keeps {N : NET} {fl : Nat → Nat} {P : BFS → Prop} (h : ∀ s u v r l, Edge N fl u v r l → P s → P (relax s u v r l)) : ∀ (k : Nat) (s : BFS), k ≤ nM N → P s → P (rnd N fl k s)
  | 0, _, _, hs => hs
  | k + 1, s, hk, hs => by
    have h1 := rnd_keeps h k s (by omega) hs
    have h2 := h _ _ _ k _ (show Edge N fl (dFrom (nRd N k)) (dTo (nRd N k)) k (upN N k (fl k) : Int) from ⟨by omega, Or.inl ⟨rfl, rfl, rfl⟩⟩) h1
    rw [rnd, relaxR]
    by_cases c : 0 < fl k
    · rw [if_pos c]
      exact h _ _ _ k _ ⟨by omega, Or.inr ⟨c, rfl, rfl, rfl⟩⟩ h2
    · rw [if_neg c]
      exact h2
theorem bf_keeps {N : NET} {fl : Nat → Nat} {P : BFS → Prop} (h : ∀ s u v r l, Edge N fl u v r l → P s → P (relax s u v r l)) (h0 : P bf0) : ∀ k : Nat, P (bfN N fl k)
  | 0 => h0
  | k + 1 => rnd_keeps h _ _ (Nat.le_refl _) (bf_keeps h h0 k)
/-- each edge is relaxed in each round: behind it, and behind all later relaxings -/
theorem rnd_hits {N : NET} {fl : Nat → Nat} {P Z : BFS → Prop} (h : ∀ s u v r l, Edge N fl u v r l → P s → P (relax s u v r l)) (hz : ∀ s u v r l, Edge N fl u v r l → P s → Z s → Z (relax s u v r l)) {u v r : Nat} {l : Int} (he : Edge N fl u v r l) (hh : ∀ s, P s → Z (relax s u v r l)) : ∀ (k : Nat) (s : BFS), k ≤ nM N → P s → r < k → Z (rnd N fl k s)
  | 0, _, _, _, hr => absurd hr (Nat.not_lt_zero _)
  | k + 1, s, hk, hs, hr => by
    have h1 := rnd_keeps h k s (by omega) hs
    have e1 : Edge N fl (dFrom (nRd N k)) (dTo (nRd N k)) k (upN N k (fl k) : Int) := ⟨by omega, Or.inl ⟨rfl, rfl, rfl⟩⟩
    have h2 := h _ _ _ k _ e1 h1
    rw [rnd, relaxR]
    by_cases c : 0 < fl k
    · rw [if_pos c]
      have e2 : Edge N fl (dTo (nRd N k)) (dFrom (nRd N k)) k (-(dnN N k (fl k) : Int)) := ⟨by omega, Or.inr ⟨c, rfl, rfl, rfl⟩⟩
      by_cases hk2 : r = k
      · subst hk2
        rcases he.2 with ⟨a, b, d⟩ | ⟨_, a, b, d⟩
        · subst a; subst b; subst d
          exact hz _ _ _ _ _ e2 h2 (hh _ h1)
        · subst a; subst b; subst d
          exact hh _ h2
      · have h3 := rnd_hits h hz he hh k s (by omega) hs (by omega)
        exact hz _ _ _ _ _ e2 h2 (hz _ _ _ _ _ e1 h1 h3)
    · rw [if_neg c]
      by_cases hk2 : r = k
      · subst hk2
        rcases he.2 with ⟨a, b, d⟩ | ⟨hp, _⟩
        · subst a; subst b; subst d
          exact hh _ h1
        · exact absurd hp c
      · have h3 := rnd_hits h hz he hh k s (by omega) hs (by omega)
        exact hz _ _ _ _ _ e1 h1 h3
theorem relax_at {s : BFS} {u v r t : Nat} {l : Int} : (relax s u v r l).1 t = (match betterB s u v l with | some d => if t = v then some d else s.1 t | none => s.1 t) := by
  unfold relax
  cases betterB s u v l <;> rfl
theorem relax_no {s : BFS} {u v r : Nat} {l : Int} (h : betterB s u v l = none) : relax s u v r l = s := by unfold relax; rw [h]
theorem relax_yes {s : BFS} {u v r : Nat} {l d : Int} (h : betterB s u v l = some d) : relax s u v r l = setB s v r d := by unfold relax; rw [h]
/-- potentials: by them no edge is shorter than nothing -/
def Feas (N : NET) (fl : Nat → Nat) (π : Nat → Int) : Prop := π 0 = 0 ∧ (∀ t, 0 ≤ π t) ∧ ∀ u v r l, Edge N fl u v r l → 0 ≤ l + π u - π v
/-- a set of towns that are as near as they will be -/
def Done (N : NET) (fl : Nat → Nat) (π : Nat → Int) (S : Nat → Prop) (D0 : Nat → Int) (s : BFS) : Prop :=
  (∀ t, S t → s.1 t = some (D0 t)) ∧ (∀ t d, ¬ S t → s.1 t = some d → ∀ w, S w → D0 w - π w ≤ d - π t) ∧
  (∀ u v r l, Edge N fl u v r l → S u → S v → D0 v ≤ D0 u + l) ∧ (∀ u v r l, Edge N fl u v r l → S u → ¬ S v → ∀ w, S w → D0 w - π w ≤ D0 u + l - π v)
theorem Done.relax {N : NET} {fl : Nat → Nat} {π : Nat → Int} {S : Nat → Prop} {D0 : Nat → Int} {s : BFS} (hf : Feas N fl π) (h : Done N fl π S D0 s) {u v r : Nat} {l : Int} (he : Edge N fl u v r l) : Done N fl π S D0 (relax s u v r l) := by
  obtain ⟨h1, h2, h3, h4⟩ := h
  cases hb : betterB s u v l with
  | none => rw [relax_no hb]; exact ⟨h1, h2, h3, h4⟩
  | some d =>
    rw [relax_yes hb]
    obtain ⟨du, b1, b2, b3⟩ := better_is hb
    have hl := hf.2.2 u v r l he
    have key : ∀ w, S w → D0 w - π w ≤ d - π v := by
      intro w hw
      by_cases hu : S u
      · have hdu : du = D0 u := by rw [h1 u hu] at b1; cases b1; rfl
        by_cases hv : S v
        · have := h3 u v r l he hu hv
          have := b3 _ (h1 v hv)
          omega
        · have := h4 u v r l he hu hv w hw
          omega
      · have := h2 u du hu b1 w hw
        omega
    have hv : ¬ S v := by
      intro hv
      have := b3 _ (h1 v hv)
      have := key v hv
      omega
    refine ⟨fun t ht => ?_, fun t e ht hs w hw => ?_, h3, h4⟩
    · show (if t = v then some d else s.1 t) = _
      rw [if_neg (fun e : t = v => hv (e ▸ ht))]
      exact h1 t ht
    · have hs : (if t = v then some d else s.1 t) = some e := hs
      by_cases c : t = v
      · rw [if_pos c] at hs
        cases hs
        rw [c]
        exact key w hw
      · rw [if_neg c] at hs
        exact h2 t e ht hs w hw
theorem least6 (p : Nat → Prop) (f : Nat → Int) : ∀ k : Nat, (∀ t, t < k → ¬ p t) ∨ ∃ t, t < k ∧ p t ∧ ∀ w, w < k → p w → f t ≤ f w
  | 0 => Or.inl fun t h => absurd h (Nat.not_lt_zero t)
  | k + 1 => by
    rcases least6 p f k with h | ⟨t, h1, h2, h3⟩
    · by_cases c : p k
      · refine Or.inr ⟨k, by omega, c, fun w hw hp => ?_⟩
        by_cases e : w = k
        · rw [e]; exact Int.le_refl _
        · exact absurd hp (h w (by omega))
      · refine Or.inl fun t ht => ?_
        by_cases e : t = k
        · rw [e]; exact c
        · exact h t (by omega)
    · by_cases c : p k ∧ f k < f t
      · refine Or.inr ⟨k, by omega, c.1, fun w hw hp => ?_⟩
        by_cases e : w = k
        · rw [e]; exact Int.le_refl _
        · have := h3 w (by omega) hp
          omega
      · refine Or.inr ⟨t, by omega, h2, fun w hw hp => ?_⟩
        by_cases e : w = k
        · subst e
          have : ¬ f w < f t := fun h => c ⟨hp, h⟩
          omega
        · exact h3 w (by omega) hp
/-- towns stay below 6, on roads and on the way -/
def In6 (s : BFS) : Prop := ∀ t, s.1 t ≠ none → t < 6
theorem In6.relax {N : NET} {fl : Nat → Nat} (hO : NetOK N) {s : BFS} (h : In6 s) {u v r : Nat} {l : Int} (he : Edge N fl u v r l) : In6 (relax s u v r l) := by
  obtain ⟨hr, he⟩ := he
  have hk := (hO.2.2.2.1 r hr).1.2.2.2.2.2
  cases hb : betterB s u v l with
  | none => rw [relax_no hb]; exact h
  | some d =>
    rw [relax_yes hb]
    intro t ht
    by_cases c : t = v
    · rcases he with ⟨_, e, _⟩ | ⟨_, _, e, _⟩ <;> omega
    · exact h t (by intro e; exact ht (by show (if t = v then some d else s.1 t) = none; rw [if_neg c, e]))

