def sizeB (S : Nat → Bool) : Nat := sumN 6 fun t => if S t = true then 1 else 0
theorem sizeB_le (S : Nat → Bool) : sizeB S ≤ 6 := by
  have := sumN_le (f := fun t => if S t = true then 1 else 0) (b := 1) 6 (fun j _ => by split <;> omega)
  unfold sizeB
  omega
def DoneB (N : NET) (fl : Nat → Nat) (π : Nat → Int) (S : Nat → Bool) (D0 : Nat → Int) (s : BFS) : Prop := Done N fl π (fun t => S t = true) D0 s
/-- nothing outside the set is met, and no edge leads there -/
def Shut (N : NET) (fl : Nat → Nat) (S : Nat → Bool) (s : BFS) : Prop := (∀ t, s.1 t ≠ none → S t = true) ∧ ∀ u v r l, Edge N fl u v r l → S u = true → S v = true
theorem Shut.relax {N : NET} {fl : Nat → Nat} {S : Nat → Bool} {s : BFS} (h : Shut N fl S s) {u v r : Nat} {l : Int} (he : Edge N fl u v r l) : Shut N fl S (relax s u v r l) := by
  cases hb : betterB s u v l with
  | none => rw [relax_no hb]; exact h
  | some d =>
    rw [relax_yes hb]
    obtain ⟨du, b1, b2, b3⟩ := better_is hb
    refine ⟨fun t ht => ?_, h.2⟩
    by_cases c : t = v
    · rw [c]
      exact h.2 u v r l he (h.1 u (by rw [b1]; exact fun e => by cases e))
    · exact h.1 t (by intro e; exact ht (by show (if t = v then some d else s.1 t) = none; rw [if_neg c, e]))
theorem round_grow {N : NET} {fl : Nat → Nat} {π : Nat → Int} {S : Nat → Bool} {D0 : Nat → Int} {s : BFS} (hO : NetOK N) (hf : Feas N fl π) (hd : DoneB N fl π S D0 s) (h6 : In6 s) :
    (DoneB N fl π S D0 (rnd N fl (nM N) s) ∧ Shut N fl S (rnd N fl (nM N) s)) ∨ ∃ (S' : Nat → Bool) (D1 : Nat → Int), DoneB N fl π S' D1 (rnd N fl (nM N) s) ∧ sizeB S' = sizeB S + 1 := by
  have hk : ∀ s u v r l, Edge N fl u v r l → (DoneB N fl π S D0 s ∧ In6 s) → (DoneB N fl π S D0 (relax s u v r l) ∧ In6 (relax s u v r l)) := fun s u v r l he h => ⟨h.1.relax hf he, h.2.relax hO he⟩
  obtain ⟨d1, d2⟩ := rnd_keeps hk (nM N) s (Nat.le_refl _) ⟨hd, h6⟩
  have hit : ∀ u v r l, Edge N fl u v r l → S u = true → S v ≠ true → ∃ dv, (rnd N fl (nM N) s).1 v = some dv ∧ dv ≤ D0 u + l := by
    intro u v r l he hu hv
    refine rnd_hits (Z := fun s => ∃ dv, s.1 v = some dv ∧ dv ≤ D0 u + l) hk ?_ he ?_ (nM N) s (Nat.le_refl _) ⟨hd, h6⟩ he.1
    · intro s a b r' l' he' _ ⟨dv, z1, z2⟩
      cases hb : betterB s a b l' with
      | none => rw [relax_no hb]; exact ⟨dv, z1, z2⟩
      | some d =>
        rw [relax_yes hb]
        obtain ⟨du, b1, b2, b3⟩ := better_is hb
        by_cases c : v = b
        · refine ⟨d, if_pos c, ?_⟩
          have := b3 dv (by rw [← c]; exact z1)
          omega
        · exact ⟨dv, by show (if v = b then some d else s.1 v) = _; rw [if_neg c, z1], z2⟩
    · intro s ⟨hs, _⟩
      have hu1 := hs.1 u hu
      cases hb : betterB s u v l with
      | none => rw [relax_no hb]; exact better_no hb hu1
      | some d =>
        rw [relax_yes hb]
        obtain ⟨du, b1, b2, b3⟩ := better_is hb
        rw [hu1] at b1
        cases b1
        exact ⟨d, if_pos rfl, by omega⟩
  generalize rnd N fl (nM N) s = s' at d1 d2 hit
  rcases least6 (fun t => S t ≠ true ∧ s'.1 t ≠ none) (fun t => (s'.1 t).getD 0 - π t) 6 with h | ⟨t, t1, ⟨t2, t3⟩, t4⟩
  · refine Or.inl ⟨d1, fun t ht => ?_, fun u v r l he hu => ?_⟩
    · cases e : S t with
      | true => rfl
      | false => exact absurd ⟨by rw [e]; decide, ht⟩ (h t (d2 t ht))
    · cases e : S v with
      | true => rfl
      | false =>
        obtain ⟨dv, z1, z2⟩ := hit u v r l he hu (by rw [e]; decide)
        exact absurd ⟨by rw [e]; decide, by rw [z1]; exact fun e => by cases e⟩ (h v (d2 v (by rw [z1]; exact fun e => by cases e)))
  · obtain ⟨dt, hdt⟩ : ∃ d, s'.1 t = some d := by
      cases e : s'.1 t with
      | none => exact absurd e t3
      | some d => exact ⟨d, rfl⟩
    have hmin : ∀ w d, S w ≠ true → s'.1 w = some d → dt - π t ≤ d - π w := by
      intro w d hw hd
      have := t4 w (d2 w (by rw [hd]; exact fun e => by cases e)) ⟨hw, by rw [hd]; exact fun e => by cases e⟩
      simp only [hdt, hd, Option.getD_some] at this
      exact this
    have hD : ∀ w, (if w = t then true else S w) = true ↔ w = t ∨ S w = true := by
      intro w
      by_cases c : w = t
      · rw [if_pos c]; exact ⟨fun _ => Or.inl c, fun _ => rfl⟩
      · rw [if_neg c]; exact ⟨Or.inr, fun h => h.resolve_left c⟩
    obtain ⟨e1, e2, e3, e4⟩ := d1
    have hne : ∀ w, S w = true → w ≠ t := fun w hw e => t2 (e ▸ hw)
    refine Or.inr ⟨fun w => if w = t then true else S w, fun w => if w = t then dt else D0 w, ⟨fun w hw => ?_, fun w d hw hd x hx => ?_, fun u v r l he hu hv => ?_, fun u v r l he hu hv x hx => ?_⟩, ?_⟩
    · show s'.1 w = some (if w = t then dt else D0 w)
      by_cases c : w = t
      · rw [if_pos c, c]; exact hdt
      · rw [if_neg c]; exact e1 w (((hD w).mp hw).resolve_left c)
    · have hw1 : S w ≠ true := fun h => hw ((hD w).mpr (Or.inr h))
      show (if x = t then dt else D0 x) - π x ≤ d - π w
      by_cases c : x = t
      · rw [if_pos c, c]; exact hmin w d hw1 hd
      · rw [if_neg c]; exact e2 w d hw1 hd x (((hD x).mp hx).resolve_left c)
    · show (if v = t then dt else D0 v) ≤ (if u = t then dt else D0 u) + l
      have hl := hf.2.2 u v r l he
      by_cases cu : u = t
      · rw [if_pos cu]
        by_cases cv : v = t
        · rw [if_pos cv]; rw [cu, cv] at hl; omega
        · rw [if_neg cv]
          have hv1 := ((hD v).mp hv).resolve_left cv
          have := e2 t dt t2 hdt v hv1
          rw [cu] at hl
          omega
      · rw [if_neg cu]
        have hu1 := ((hD u).mp hu).resolve_left cu
        by_cases cv : v = t
        · rw [if_pos cv]
          obtain ⟨dv, z1, z2⟩ := hit u v r l he hu1 (by rw [cv]; exact t2)
          rw [cv, hdt] at z1
          cases z1
          exact z2
        · rw [if_neg cv]
          exact e3 u v r l he hu1 (((hD v).mp hv).resolve_left cv)
    · show (if x = t then dt else D0 x) - π x ≤ (if u = t then dt else D0 u) + l - π v
      have hl := hf.2.2 u v r l he
      have hv1 : S v ≠ true := fun h => hv ((hD v).mpr (Or.inr h))
      have hvt : v ≠ t := fun h => hv ((hD v).mpr (Or.inl h))
      have hx1 : (if x = t then dt else D0 x) - π x ≤ dt - π t := by
        by_cases c : x = t
        · rw [if_pos c, c]; exact Int.le_refl _
        · rw [if_neg c]; exact e2 t dt t2 hdt x (((hD x).mp hx).resolve_left c)
      by_cases cu : u = t
      · rw [if_pos cu]; rw [cu] at hl; omega
      · rw [if_neg cu]
        have hu1 := ((hD u).mp hu).resolve_left cu
        obtain ⟨dv, z1, z2⟩ := hit u v r l he hu1 hv1
        have := hmin v dv hv1 z1
        omega
    · have := sumN_upd (f := fun w => if (if w = t then true else S w) = true then 1 else 0) (g := fun w => if S w = true then 1 else 0) 6 t1 (fun j _ hj => by rw [if_neg hj])
      rw [if_neg t2] at this
      simp only [if_true] at this
      show sumN 6 (fun w => if (if w = t then true else S w) = true then 1 else 0) = sumN 6 (fun w => if S w = true then 1 else 0) + 1
      omega
theorem bf_done {N : NET} {fl : Nat → Nat} {π : Nat → Int} (hO : NetOK N) (hf : Feas N fl π) : ∀ k : Nat, (∃ (S : Nat → Bool) (D0 : Nat → Int), DoneB N fl π S D0 (bfN N fl k) ∧ Shut N fl S (bfN N fl k)) ∨ ∃ (S : Nat → Bool) (D0 : Nat → Int), DoneB N fl π S D0 (bfN N fl k) ∧ k + 1 ≤ sizeB S
  | 0 => by
    refine Or.inr ⟨fun t => decide (t = 0), fun _ => 0, ⟨fun t ht => ?_, fun t d ht hd w hw => ?_, fun u v r l he hu hv => ?_, fun u v r l he hu hv w hw => ?_⟩, by decide⟩
    · have ht := of_decide_eq_true ht
      rw [ht]; rfl
    · have ht : ¬ t = 0 := fun e => ht (decide_eq_true e)
      have hd : (if t = 0 then some 0 else none) = some d := hd
      rw [if_neg ht] at hd
      cases hd
    · have hl := hf.2.2 u v r l he
      rw [of_decide_eq_true hu, of_decide_eq_true hv] at hl
      show (0 : Int) ≤ 0 + l
      omega
    · have hl := hf.2.2 u v r l he
      rw [of_decide_eq_true hu] at hl
      rw [of_decide_eq_true hw]
      show (0 : Int) - π 0 ≤ 0 + l - π v
      omega
  | k + 1 => by
    have h6 : In6 (bfN N fl k) := bf_keeps (P := In6) (fun s u v r l he h => h.relax hO he) (fun t ht => by
      by_cases c : t = 0
      · omega
      · exact absurd (if_neg c) ht) k
    rcases bf_done hO hf k with ⟨S, D0, h1, h2⟩ | ⟨S, D0, h1, h2⟩
    · exact Or.inl ⟨S, D0, (rnd_keeps (P := fun s => DoneB N fl π S D0 s ∧ Shut N fl S s) (fun s u v r l he h => ⟨h.1.relax hf he, h.2.relax he⟩) (nM N) _ (Nat.le_refl _) ⟨h1, h2⟩)⟩
    · rcases round_grow hO hf h1 h6 with ⟨g1, g2⟩ | ⟨S', D1, g1, g2⟩
      · exact Or.inl ⟨S, D0, g1, g2⟩
      · exact Or.inr ⟨S', D1, g1, by omega⟩
/-- behind six rounds nothing is nearer any more -/
theorem bf_fix {N : NET} {fl : Nat → Nat} {π : Nat → Int} (hO : NetOK N) (hf : Feas N fl π) : ∀ u v r l du, Edge N fl u v r l → (bfN N fl 6).1 u = some du → ∃ dv, (bfN N fl 6).1 v = some dv ∧ dv ≤ du + l := by
  rcases bf_done hO hf 6 with ⟨S, D0, h1, h2⟩ | ⟨S, D0, h1, h2⟩
  · intro u v r l du he hu
    have su := h2.1 u (by rw [hu]; exact fun e => by cases e)
    have sv := h2.2 u v r l he su
    refine ⟨D0 v, h1.1 v sv, ?_⟩
    have hu1 := h1.1 u su
    rw [hu] at hu1
    cases hu1
    exact h1.2.2.1 u v r l he su sv
  · have := sizeB_le S
    omega
