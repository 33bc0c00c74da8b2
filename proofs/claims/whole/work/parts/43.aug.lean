def sumZ : Nat → (Nat → Int) → Int
  | 0, _ => 0
  | k + 1, f => sumZ k f + f k
theorem sumZ_cong {f g : Nat → Int} : ∀ k : Nat, (∀ j, j < k → f j = g j) → sumZ k f = sumZ k g
  | 0, _ => rfl
  | k + 1, h => by rw [sumZ, sumZ, sumZ_cong k (fun j hj => h j (by omega)), h k (by omega)]
theorem sumZ_add {f g : Nat → Int} : ∀ k : Nat, sumZ k (fun j => f j + g j) = sumZ k f + sumZ k g
  | 0 => rfl
  | k + 1 => by
    rw [sumZ, sumZ, sumZ, sumZ_add k]
    omega
theorem sumZ_le {f g : Nat → Int} : ∀ k : Nat, (∀ j, j < k → f j ≤ g j) → sumZ k f ≤ sumZ k g
  | 0, _ => Int.le_refl _
  | k + 1, h => by
    have h1 := sumZ_le k (fun j hj => h j (by omega))
    have h2 := h k (by omega)
    rw [sumZ, sumZ]
    omega
theorem sumZ_upd {f g : Nat → Int} {i : Nat} : ∀ k : Nat, i < k → (∀ j, j < k → j ≠ i → f j = g j) → sumZ k f + g i = sumZ k g + f i
  | 0, h, _ => absurd h (Nat.not_lt_zero _)
  | k + 1, h, hj => by
    rw [sumZ, sumZ]
    by_cases e : i = k
    · subst e
      rw [sumZ_cong i (fun j h => hj j (by omega) (by omega))]
      omega
    · have h1 := sumZ_upd k (by omega) (fun j h1 h2 => hj j (by omega) h2)
      have h2 := hj k (by omega) (by omega)
      omega
theorem sumZ_0 : ∀ k : Nat, sumZ k (fun _ => 0) = 0
  | 0 => rfl
  | k + 1 => by rw [sumZ, sumZ_0 k]; rfl
theorem sumZ_pick {h : Nat → Int} {a k : Nat} (ha : a < k) : sumZ k (fun t => if a = t then h t else 0) = h a := by
  have := sumZ_upd (f := fun t => if a = t then h t else 0) (g := fun _ => 0) k ha (fun j _ hj => if_neg (fun e => hj e.symm))
  simp only [sumZ_0, if_true] at this
  omega
/-- what a road brings to a town -/
def inc (N : NET) (r t : Nat) : Int := (if dTo (nRd N r) = t then 1 else 0) - (if dFrom (nRd N r) = t then 1 else 0)
def netF (N : NET) (F : Nat → Nat) (t : Nat) : Int := sumZ (nM N) fun r => inc N r t * (F r : Int)
def costF (N : NET) (F : Nat → Nat) : Int := sumZ (nM N) fun r => (allN N r (F r) : Int)
def stepF (N : NET) (v r : Nat) (F : Nat → Nat) : Nat → Nat := fun q => if q = r then (if dTo (nRd N r) = v then F r + 1 else F r - 1) else F q
def prevT (N : NET) (v r : Nat) : Nat := if dTo (nRd N r) = v then dFrom (nRd N r) else dTo (nRd N r)
def augN (N : NET) (P : Nat → Nat) : Nat → Nat → (Nat → Nat) → (Nat → Nat)
  | 0, _, F => F
  | m + 1, v, F => if v = 0 then F else augN N P m (prevT N v (P v)) (stepF N v (P v) F)
/-- what makes the walk back along the roads right -/
def augOK (N : NET) (s : BFS) : Nat → Nat → (Nat → Nat) → Prop
  | 0, v, _ => v = 0
  | m + 1, v, F => v = 0 ∨ (s.2 v < nM N ∧ v < 6 ∧ s.1 v ≠ none ∧ (¬ dTo (nRd N (s.2 v)) = v → 0 < F (s.2 v)) ∧ augOK N s m (prevT N v (s.2 v)) (stepF N v (s.2 v) F))
/-- the roads of a nearest way, one more or one less on each -/
def Touched (N : NET) (fl : Nat → Nat) (s : BFS) (rk : Nat → Nat) (v : Nat) (F : Nat → Nat) : Prop := ∀ r, r < nM N → F r = fl r ∨ ∃ w d, w ≠ 0 ∧ s.1 w = some d ∧ s.2 w = r ∧ rk v < rk w ∧ F r = stepF N w r fl r
theorem inc_v {N : NET} {u v r : Nat} {t : Nat} (h1 : dFrom (nRd N r) = u) (h2 : dTo (nRd N r) = v) : inc N r t = (if v = t then 1 else 0) - (if u = t then 1 else 0) := by unfold inc; rw [h1, h2]
theorem aug_run {N : NET} {fl : Nat → Nat} {π : Nat → Int} {s : BFS} {rk : Nat → Nat} (hO : NetOK N) (hc : Chain N fl π s rk) (h6 : In6 s) (hfix : ∀ u v r l du, Edge N fl u v r l → s.1 u = some du → ∃ dv, s.1 v = some dv ∧ dv ≤ du + l) {v0 : Nat} {c0 : Int} {n0 : Nat → Int} :
    ∀ (m v : Nat) (F : Nat → Nat) (d : Int), (sumN 6 fun t => if s.1 t ≠ none ∧ rk t < rk v then 1 else 0) < m → s.1 v = some d → Touched N fl s rk v F → (∀ t, netF N F t = n0 t + (if v0 = t then 1 else 0) - (if v = t then 1 else 0)) → costF N F = c0 - d →
    ∃ rk', Touched N fl s rk' 0 (augN N s.2 m v F) ∧ (∀ t, netF N (augN N s.2 m v F) t = n0 t + (if v0 = t then 1 else 0) - (if 0 = t then 1 else 0)) ∧ costF N (augN N s.2 m v F) = c0 ∧ augOK N s m v F := by
  intro m
  induction m with
  | zero => intro v F d h; exact absurd h (Nat.not_lt_zero _)
  | succ m ih =>
    intro v F d hm hv hT hn hcost
    rw [augN]
    by_cases h0 : v = 0
    · rw [if_pos h0]
      subst h0
      have hd := hc.1
      rw [hv] at hd
      cases hd
      exact ⟨rk, hT, hn, by rw [hcost]; omega, Or.inl rfl⟩
    · rw [if_neg h0]
      obtain ⟨u, l, du, he, hu, hle, hrk⟩ := hc.2.2 v d h0 hv
      obtain ⟨dv, hdv, hle2⟩ := hfix u v (s.2 v) l du he hu
      rw [hv] at hdv
      cases hdv
      have heq : du + l = d := by omega
      have hrk := hrk heq
      obtain ⟨hr, hcase⟩ := he
      have hft := (hO.2.2.2.1 (s.2 v) hr).2.2.2.1
      have hru : prevT N v (s.2 v) = u := by
        unfold prevT
        rcases hcase with ⟨a, b, _⟩ | ⟨_, a, b, _⟩
        · rw [if_pos b.symm, a]
        · rw [if_neg (fun e => hft (by rw [← b, e])), a]
      have hFr : F (s.2 v) = fl (s.2 v) := by
        rcases hT (s.2 v) hr with h | ⟨w, dw, w1, w2, w3, w4, _⟩
        · exact h
        · exfalso
          obtain ⟨u', l', du', he', hu', hle', hrk'⟩ := hc.2.2 w dw w1 w2
          obtain ⟨dv', hdv', hle2'⟩ := hfix u' w (s.2 w) l' du' he' hu'
          rw [w2] at hdv'
          cases hdv'
          have hrk' := hrk' (by omega)
          rw [w3] at he'
          have hne : w ≠ v := fun e => by rw [e] at w4; exact Nat.lt_irrefl _ w4
          rcases hcase with ⟨a, b, _⟩ | ⟨_, a, b, _⟩ <;> rcases he'.2 with ⟨a', b', _⟩ | ⟨_, a', b', _⟩
          · exact hne (by rw [b, b'])
          · rw [b', ← a] at w4; omega
          · rw [b', ← a] at w4; omega
          · exact hne (by rw [b, b'])
      rw [hru]
      have hFs : stepF N v (s.2 v) F (s.2 v) = stepF N v (s.2 v) fl (s.2 v) := by
        unfold stepF
        rw [if_pos rfl, if_pos rfl, hFr]
      have hdelta : (stepF N v (s.2 v) F (s.2 v) : Int) = (F (s.2 v) : Int) + (if dTo (nRd N (s.2 v)) = v then 1 else -1) := by
        unfold stepF
        rw [if_pos rfl]
        rcases hcase with ⟨a, b, _⟩ | ⟨hp, a, b, _⟩
        · rw [if_pos b.symm, if_pos b.symm]; omega
        · have c : ¬ dTo (nRd N (s.2 v)) = v := fun e => hft (by rw [← b, e])
          rw [if_neg c, if_neg c]
          omega
      have hmain : ∃ rk', Touched N fl s rk' 0 (augN N s.2 m u (stepF N v (s.2 v) F)) ∧ (∀ t, netF N (augN N s.2 m u (stepF N v (s.2 v) F)) t = n0 t + (if v0 = t then 1 else 0) - (if 0 = t then 1 else 0)) ∧ costF N (augN N s.2 m u (stepF N v (s.2 v) F)) = c0 ∧ augOK N s m u (stepF N v (s.2 v) F) := by
       refine ih u (stepF N v (s.2 v) F) du ?_ hu ?_ ?_ ?_
       · have hu6 : u < 6 := h6 u (by rw [hu]; exact fun e => by cases e)
         have h1 := sumN_upd (f := fun t => if s.1 t ≠ none ∧ rk t < rk v then 1 else 0) (g := fun t => if t = u then 0 else (if s.1 t ≠ none ∧ rk t < rk v then 1 else 0)) 6 hu6 (fun j _ hj => by rw [if_neg hj])
         have h2 := sumN_mono (f := fun t => if s.1 t ≠ none ∧ rk t < rk u then 1 else 0) (g := fun t => if t = u then 0 else (if s.1 t ≠ none ∧ rk t < rk v then 1 else 0)) 6 (fun j _ => by
           show (if s.1 j ≠ none ∧ rk j < rk u then 1 else 0) ≤ (if j = u then 0 else (if s.1 j ≠ none ∧ rk j < rk v then 1 else 0))
           by_cases e : j = u
           · rw [if_pos e, if_neg (by rw [e]; omega)]; exact Nat.le_refl _
           · rw [if_neg e]
             by_cases g : s.1 j ≠ none ∧ rk j < rk u
             · rw [if_pos g, if_pos ⟨g.1, by omega⟩]; exact Nat.le_refl _
             · rw [if_neg g]; exact Nat.zero_le _)
         have h3 : s.1 u ≠ none ∧ rk u < rk v := ⟨by rw [hu]; exact fun e => (by cases e), hrk⟩
         have h4 : (if s.1 u ≠ none ∧ rk u < rk v then 1 else 0) = 1 := if_pos h3
         have h5 : (if u = u then 0 else (if s.1 u ≠ none ∧ rk u < rk v then 1 else 0)) = 0 := if_pos rfl
         omega
       · intro r hr2
         by_cases e : r = s.2 v
         · rw [e]
           exact Or.inr ⟨v, d, h0, hv, rfl, hrk, hFs⟩
         · have : stepF N v (s.2 v) F r = F r := if_neg e
           rw [this]
           rcases hT r hr2 with h | ⟨w, dw, w1, w2, w3, w4, w5⟩
           · exact Or.inl h
           · exact Or.inr ⟨w, dw, w1, w2, w3, by omega, w5⟩
       · intro t
         have h1 := sumZ_upd (f := fun r => inc N r t * (stepF N v (s.2 v) F r : Int)) (g := fun r => inc N r t * (F r : Int)) (nM N) hr (fun j _ hj => by
           show inc N j t * ((if j = s.2 v then _ else F j : Nat) : Int) = _
           rw [if_neg hj])
         have h2 := hn t
         unfold netF at h2 ⊢
         simp only [hdelta] at h1
         rcases hcase with ⟨a, b, _⟩ | ⟨hp, a, b, _⟩
         · rw [if_pos b.symm, inc_v a.symm b.symm, Int.mul_add] at h1
           omega
         · have c : ¬ dTo (nRd N (s.2 v)) = v := fun e => hft (by rw [← b, e])
           rw [if_neg c, inc_v b.symm a.symm, Int.mul_add] at h1
           omega
       · have h1 := sumZ_upd (f := fun r => (allN N r (stepF N v (s.2 v) F r) : Int)) (g := fun r => (allN N r (F r) : Int)) (nM N) hr (fun j _ hj => by
           show (allN N j (if j = s.2 v then _ else F j) : Int) = _
           rw [if_neg hj])
         unfold costF at hcost ⊢
         simp only [hFs, hFr] at h1
         rcases hcase with ⟨a, b, e⟩ | ⟨hp, a, b, e⟩
         · have h3 : stepF N v (s.2 v) fl (s.2 v) = fl (s.2 v) + 1 := by unfold stepF; rw [if_pos rfl, if_pos b.symm]
           have h4 := all_up N (s.2 v) (fl (s.2 v))
           rw [h3] at h1
           omega
         · have c : ¬ dTo (nRd N (s.2 v)) = v := fun e => hft (by rw [← b, e])
           have h3 : stepF N v (s.2 v) fl (s.2 v) = fl (s.2 v) - 1 := by unfold stepF; rw [if_pos rfl, if_neg c]
           obtain ⟨f, hf⟩ := suc_of hp
           have h4 := all_up N (s.2 v) f
           have h5 := dn_up N (s.2 v) f
           rw [h3, hf, Nat.add_sub_cancel] at h1
           rw [hf] at e
           omega
      obtain ⟨rk', y1, y2, y3, y4⟩ := hmain
      refine ⟨rk', y1, y2, y3, Or.inr ⟨hr, h6 v (by rw [hv]; exact fun e => by cases e), (by rw [hv]; exact fun e => by cases e), fun c => ?_, by rw [hru]; exact y4⟩⟩
      rcases hcase with ⟨a, b, _⟩ | ⟨hp, _⟩
      · exact absurd b.symm c
      · rw [hFr]; exact hp
