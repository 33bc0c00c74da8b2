def potN (s : BFS) (t : Nat) : Int := (s.1 t).getD (6 * LB)
theorem Rch.met {N : NET} {fl : Nat → Nat} {s : BFS} (h0 : s.1 0 = some 0) (hfix : ∀ u v r l du, Edge N fl u v r l → s.1 u = some du → ∃ dv, s.1 v = some dv ∧ dv ≤ du + l) {t : Nat} (h : Rch N t) : ∃ d, s.1 t = some d := by
  refine h (fun t => ∃ d, s.1 t = some d) ⟨0, h0⟩ fun r hr ⟨d, hd⟩ => ?_
  obtain ⟨dv, h1, _⟩ := hfix _ _ r _ d (show Edge N fl (dFrom (nRd N r)) (dTo (nRd N r)) r (upN N r (fl r) : Int) from ⟨hr, Or.inl ⟨rfl, rfl, rfl⟩⟩) hd
  exact ⟨dv, h1⟩
theorem aug_feas {N : NET} {fl F : Nat → Nat} {π : Nat → Int} {s : BFS} {rk rk' : Nat → Nat} (hO : NetOK N) (hc : Chain N fl π s rk) (hu : Up s) (hf : Feas N fl π) (hw : OnR N fl) (hfix : ∀ u v r l du, Edge N fl u v r l → s.1 u = some du → ∃ dv, s.1 v = some dv ∧ dv ≤ du + l) (hT : Touched N fl s rk' 0 F) : Feas N F (potN s) ∧ OnR N F ∧ ∀ r, r < nM N → F r ≤ fl r + 1 := by
  have hLB : LB = 114600000000000000 := rfl
  have hle : ∀ t, potN s t ≤ 6 * LB := by
    intro t
    unfold potN
    cases e : s.1 t with
    | none => exact Int.le_refl _
    | some d =>
      have h1 := hu.1 t d e
      have h2 := metN_le s
      have h3 : (metN s : Int) * LB ≤ 6 * LB := by rw [hLB]; omega
      show d ≤ 6 * LB
      rw [hLB] at h1 h3 ⊢
      omega
  have hge : ∀ t, 0 ≤ potN s t := by
    intro t
    unfold potN
    cases e : s.1 t with
    | none => show (0 : Int) ≤ 6 * LB; rw [hLB]; omega
    | some d =>
      have h1 := (hc.2.1 t d e).1
      have h2 := hf.2.1 t
      show 0 ≤ d
      omega
  have hsome : ∀ t d, s.1 t = some d → potN s t = d := fun t d h => by unfold potN; rw [h]; rfl
  have hnone : ∀ t, s.1 t = none → potN s t = 6 * LB := fun t h => by unfold potN; rw [h]; rfl
  -- what each touched road is
  have key : ∀ r, r < nM N → (F r = fl r) ∨ (F r = fl r + 1 ∧ potN s (dTo (nRd N r)) = potN s (dFrom (nRd N r)) + (upN N r (fl r) : Int) ∧ Rch N (dFrom (nRd N r))) ∨ (0 < fl r ∧ F r = fl r - 1 ∧ potN s (dFrom (nRd N r)) = potN s (dTo (nRd N r)) - (dnN N r (fl r) : Int)) := by
    intro r hr
    rcases hT r hr with h | ⟨w, d, w1, w2, w3, _, w5⟩
    · exact Or.inl h
    · obtain ⟨u, l, du, he, hu1, hle1, _⟩ := hc.2.2 w d w1 w2
      obtain ⟨dv, hdv, hle2⟩ := hfix u w (s.2 w) l du he hu1
      rw [w2] at hdv
      cases hdv
      rw [w3] at he
      have hft := (hO.2.2.2.1 r hr).2.2.2.1
      unfold stepF at w5
      rw [if_pos rfl] at w5
      rcases he.2 with ⟨a, b, e⟩ | ⟨hp, a, b, e⟩
      · rw [if_pos b.symm] at w5
        refine Or.inr (Or.inl ⟨w5, ?_, ?_⟩)
        · rw [← a, ← b, hsome _ _ w2, hsome _ _ hu1]
          omega
        · rw [← a]
          exact (hc.2.1 u du hu1).2
      · rw [if_neg (fun e => hft (by rw [← b, e]))] at w5
        refine Or.inr (Or.inr ⟨hp, w5, ?_⟩)
        rw [← a, ← b, hsome _ _ w2, hsome _ _ hu1]
        omega
  refine ⟨⟨hsome 0 0 hc.1, hge, fun u v r l he => ?_⟩, fun r hr hp => ?_, fun r hr => ?_⟩
  · obtain ⟨hr, hcase⟩ := he
    rcases hcase with ⟨a, b, e⟩ | ⟨hp, a, b, e⟩
    · rw [a, b, e]
      rcases key r hr with h | ⟨h1, h2, _⟩ | ⟨h0, h1, h2⟩
      · rw [h]
        cases hd : s.1 (dFrom (nRd N r)) with
        | none =>
          rw [hnone _ hd]
          have := hle (dTo (nRd N r))
          omega
        | some d =>
          obtain ⟨dv, g1, g2⟩ := hfix _ _ r _ d (show Edge N fl (dFrom (nRd N r)) (dTo (nRd N r)) r (upN N r (fl r) : Int) from ⟨hr, Or.inl ⟨rfl, rfl, rfl⟩⟩) hd
          rw [hsome _ _ hd, hsome _ _ g1]
          omega
      · have := up_mono N r (show fl r ≤ F r by omega)
        omega
      · obtain ⟨f, hf1⟩ := suc_of h0
        have h5 := dn_up N r f
        rw [h1, hf1, Nat.add_sub_cancel]
        rw [hf1] at h2
        omega
    · rw [a, b, e]
      rcases key r hr with h | ⟨h1, h2, _⟩ | ⟨h0, h1, h2⟩
      · rw [h] at hp ⊢
        have hrch := hw r hr hp
        obtain ⟨d1, hd1⟩ := hrch.met hc.1 hfix
        obtain ⟨d2, hd2⟩ := (hrch.go hr).met hc.1 hfix
        obtain ⟨dv, g1, g2⟩ := hfix _ _ r _ d2 (show Edge N fl (dTo (nRd N r)) (dFrom (nRd N r)) r (-(dnN N r (fl r) : Int)) from ⟨hr, Or.inr ⟨hp, rfl, rfl, rfl⟩⟩) hd2
        rw [hsome _ _ hd2, hsome _ _ g1]
        omega
      · rw [h1, dn_up]
        omega
      · obtain ⟨f, hf1⟩ := suc_of h0
        obtain ⟨g, hg⟩ := suc_of hp
        have h5 := dn_up N r f
        have h6 := dn_up N r g
        have h7 := up_mono N r (show g ≤ f by omega)
        rw [hg]
        rw [hf1] at h2
        omega
  · rcases key r hr with h | ⟨h1, h2, h3⟩ | ⟨h0, h1, h2⟩
    · exact hw r hr (by omega)
    · exact h3
    · exact hw r hr h0
  · rcases key r hr with h | ⟨h1, _⟩ | ⟨h0, h1, _⟩ <;> omega
/-- one more of them is sent -/
def sendN (N : NET) (fl : Nat → Nat) (t : Nat) : Nat → Nat := augN N (bfN N fl 6).2 6 t fl
/-- a cheapest flow of so many -/
def Cheap (N : NET) (fl : Nat → Nat) (k : Nat) : Prop := (∃ π, Feas N fl π) ∧ OnR N fl ∧ ∀ r, r < nM N → fl r ≤ k
theorem send_ok {N : NET} {fl : Nat → Nat} {k t : Nat} (hO : NetOK N) (h : Cheap N fl k) (hk : k ≤ 35) (ht : Rch N t) :
    ∃ d : Int, (bfN N fl 6).1 t = some d ∧ 0 ≤ d ∧ d ≤ 6 * LB ∧ Cheap N (sendN N fl t) (k + 1) ∧ (∀ w, netF N (sendN N fl t) w = netF N fl w + (if t = w then 1 else 0) - (if 0 = w then 1 else 0)) ∧ costF N (sendN N fl t) = costF N fl + d ∧ augOK N (bfN N fl 6) 6 t fl ∧ (∃ π rk, Feas N fl π ∧ Chain N fl π (bfN N fl 6) rk ∧ In6 (bfN N fl 6)) := by
  obtain ⟨⟨π, hf⟩, hw, hb⟩ := h
  obtain ⟨rk, hc, h6⟩ := bf_chain hO hf hw 6
  have hfix := bf_fix hO hf
  have hu := bf_up (fl := fl) hO (fun r hr => by have := hb r hr; omega) 6
  obtain ⟨d, hd⟩ := ht.met hc.1 hfix
  have h1 := (hc.2.1 t d hd).1
  have h2 := hf.2.1 t
  have h3 := hu.1 t d hd
  have h4 := metN_le (bfN N fl 6)
  have hLB : LB = 114600000000000000 := rfl
  have h5 : (metN (bfN N fl 6) : Int) * LB ≤ 6 * LB := by rw [hLB]; omega
  have ht6 : t < 6 := h6 t (by rw [hd]; exact fun e => by cases e)
  have hcnt : (sumN 6 fun u => if (bfN N fl 6).1 u ≠ none ∧ rk u < rk t then 1 else 0) < 6 := by
    have g1 := sumN_upd (f := fun u => if (bfN N fl 6).1 u ≠ none ∧ rk u < rk t then 1 else 0) (g := fun u => if u = t then 1 else (if (bfN N fl 6).1 u ≠ none ∧ rk u < rk t then 1 else 0)) 6 ht6 (fun j _ hj => by rw [if_neg hj])
    have g2 := sumN_le (f := fun u => if u = t then 1 else (if (bfN N fl 6).1 u ≠ none ∧ rk u < rk t then 1 else 0)) (b := 1) 6 (fun j _ => by
      show (if j = t then 1 else (if (bfN N fl 6).1 j ≠ none ∧ rk j < rk t then 1 else 0)) ≤ 1
      by_cases e : j = t
      · rw [if_pos e]; exact Nat.le_refl _
      · rw [if_neg e]
        by_cases g : (bfN N fl 6).1 j ≠ none ∧ rk j < rk t
        · rw [if_pos g]; exact Nat.le_refl _
        · rw [if_neg g]; exact Nat.zero_le _)
    have g3 : (if (bfN N fl 6).1 t ≠ none ∧ rk t < rk t then 1 else 0) = 0 := if_neg (fun h => Nat.lt_irrefl _ h.2)
    have g4 : (if t = t then 1 else (if (bfN N fl 6).1 t ≠ none ∧ rk t < rk t then 1 else 0)) = 1 := if_pos rfl
    omega
  obtain ⟨rk', r1, r2, r3, r4⟩ := aug_run hO hc h6 hfix (v0 := t) (c0 := costF N fl + d) (n0 := netF N fl) 6 t fl d hcnt hd (fun r _ => Or.inl rfl) (fun w => by omega) (by omega)
  obtain ⟨f1, f2, f3⟩ := aug_feas hO hc hu hf hw hfix r1
  have h9 : d ≤ 6 * LB := by
    rw [hLB] at h3 h5 ⊢
    omega
  exact ⟨d, hd, by omega, h9, ⟨⟨_, f1⟩, f2, fun r hr => by have := f3 r hr; have := hb r hr; unfold sendN; omega⟩, r2, r3, r4, π, rk, hf, hc, h6⟩
/-- a road's pay is convex -/
theorem all_conv {N : NET} {r f : Nat} {p : Int} (h1 : p ≤ (upN N r f : Int)) (h2 : 0 < f → (dnN N r f : Int) ≤ p) (g : Nat) : (allN N r f : Int) + p * ((g : Int) - f) ≤ (allN N r g : Int) := by
  have up : ∀ m : Nat, (allN N r f : Int) + p * m ≤ (allN N r (f + m) : Int) := by
    intro m
    induction m with
    | zero => simp
    | succ m ih =>
      have a1 := all_up N r (f + m)
      have a2 := up_mono N r (show f ≤ f + m by omega)
      have a3 : p * ((m + 1 : Nat) : Int) = p * m + p := by rw [Int.natCast_succ, Int.mul_add, Int.mul_one]
      rw [a3]
      show _ ≤ (allN N r (f + m + 1) : Int)
      omega
  have dn : ∀ m : Nat, m ≤ f → (allN N r f : Int) - p * m ≤ (allN N r (f - m) : Int) := by
    intro m
    induction m with
    | zero => intro _; simp
    | succ m ih =>
      intro hm
      have ih := ih (by omega)
      obtain ⟨x, hx⟩ : ∃ x, f - m = x + 1 := ⟨f - m - 1, by omega⟩
      have a1 := all_up N r x
      have a2 : dnN N r (x + 1) ≤ dnN N r f := by
        obtain ⟨y, hy⟩ : ∃ y, f = y + 1 := ⟨f - 1, by omega⟩
        rw [hy, dn_up, dn_up]
        exact up_mono N r (by omega)
      have a3 := h2 (by omega)
      have a4 := dn_up N r x
      have a5 : p * ((m + 1 : Nat) : Int) = p * m + p := by rw [Int.natCast_succ, Int.mul_add, Int.mul_one]
      rw [a5, show f - (m + 1) = x by omega]
      rw [hx] at ih
      omega
  by_cases c : f ≤ g
  · have := up (g - f)
    rw [show f + (g - f) = g by omega] at this
    rw [show ((g : Int) - f) = ((g - f : Nat) : Int) by omega]
    exact this
  · have := dn (f - g) (by omega)
    rw [show f - (f - g) = g by omega] at this
    rw [show ((g : Int) - f) = -((f - g : Nat) : Int) by omega, Int.mul_neg]
    omega
theorem swap_sum {N : NET} {π : Nat → Int} {x : Nat → Int} (hO : NetOK N) : ∀ k : Nat, k ≤ nM N → sumZ k (fun r => (π (dTo (nRd N r)) - π (dFrom (nRd N r))) * x r) = sumZ 6 (fun t => π t * sumZ k (fun r => inc N r t * x r))
  | 0, _ => by
    have : (fun t => π t * sumZ 0 (fun r => inc N r t * x r)) = fun _ => 0 := by funext t; exact Int.mul_zero _
    rw [this, sumZ_0]
    rfl
  | k + 1, hk => by
    have hr := (hO.2.2.2.1 k (by omega)).1.2.2.2.2.2
    have h1 : (fun t => π t * sumZ (k + 1) (fun r => inc N r t * x r)) = fun t => π t * sumZ k (fun r => inc N r t * x r) + ((if dTo (nRd N k) = t then π t * x k else 0) + (if dFrom (nRd N k) = t then -(π t * x k) else 0)) := by
      funext t
      rw [sumZ, Int.mul_add]
      congr 1
      unfold inc
      by_cases a : dTo (nRd N k) = t
      · by_cases b : dFrom (nRd N k) = t
        · rw [if_pos a, if_pos b, if_pos a, if_pos b]; simp; omega
        · rw [if_pos a, if_neg b, if_pos a, if_neg b]; simp
      · by_cases b : dFrom (nRd N k) = t
        · rw [if_neg a, if_pos b, if_neg a, if_pos b]; simp [Int.mul_neg]
        · rw [if_neg a, if_neg b, if_neg a, if_neg b]; simp
    rw [h1, sumZ_add, ← swap_sum hO k (by omega), sumZ_add, sumZ_pick (h := fun t => π t * x k) hr.2, sumZ_pick (h := fun t => -(π t * x k)) hr.1, sumZ, Int.sub_mul]
    omega
/-- no flow of as many to the same towns is cheaper -/
theorem cheap_least {N : NET} {f g : Nat → Nat} {π : Nat → Int} (hO : NetOK N) (hf : Feas N f π) (hn : ∀ t, 1 ≤ t → netF N f t = netF N g t) : costF N f ≤ costF N g := by
  have h1 : sumZ (nM N) (fun r => (allN N r (f r) : Int) + (π (dTo (nRd N r)) - π (dFrom (nRd N r))) * ((g r : Int) - f r)) ≤ sumZ (nM N) (fun r => (allN N r (g r) : Int)) := by
    refine sumZ_le _ fun r hr => ?_
    have e1 := hf.2.2 _ _ r _ (show Edge N f (dFrom (nRd N r)) (dTo (nRd N r)) r (upN N r (f r) : Int) from ⟨hr, Or.inl ⟨rfl, rfl, rfl⟩⟩)
    refine all_conv (by omega) (fun hp => ?_) (g r)
    have e2 := hf.2.2 _ _ r _ (show Edge N f (dTo (nRd N r)) (dFrom (nRd N r)) r (-(dnN N r (f r) : Int)) from ⟨hr, Or.inr ⟨hp, rfl, rfl, rfl⟩⟩)
    omega
  rw [sumZ_add, swap_sum hO _ (Nat.le_refl _)] at h1
  have h2 : sumZ 6 (fun t => π t * sumZ (nM N) (fun r => inc N r t * ((g r : Int) - f r))) = 0 := by
    rw [sumZ_cong (g := fun _ => 0) 6 fun t _ => ?_, sumZ_0]
    by_cases c : t = 0
    · rw [c, hf.1, Int.zero_mul]
    · have h3 := hn t (by omega)
      have h4 : sumZ (nM N) (fun r => inc N r t * ((g r : Int) - f r)) + netF N f t = netF N g t := by
        unfold netF
        rw [← sumZ_add]
        exact sumZ_cong _ fun r _ => by rw [← Int.mul_add]; congr 1; omega
      have h5 : sumZ (nM N) (fun r => inc N r t * ((g r : Int) - f r)) = 0 := by omega
      rw [h5, Int.mul_zero]
  rw [h2] at h1
  unfold costF
  omega
theorem bf_zero {N : NET} (hO : NetOK N) : Cheap N (fun _ => 0) 0 := by
  refine ⟨⟨fun _ => 0, rfl, fun _ => Int.le_refl _, fun u v r l he => ?_⟩, fun r hr hp => absurd hp (Nat.lt_irrefl 0), fun _ _ => Nat.le_refl _⟩
  rcases he.2 with ⟨_, _, e⟩ | ⟨hp, _⟩
  · rw [e]
    show (0 : Int) ≤ _ + 0 - 0
    omega
  · exact absurd hp (Nat.lt_irrefl 0)
