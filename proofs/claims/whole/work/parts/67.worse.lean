/-! the least total is no more than any steady total -/
theorem sumZ_nat (f : Nat → Nat) : ∀ k, sumZ k (fun r => (f r : Int)) = (sumN k f : Int)
  | 0 => rfl
  | k + 1 => by
    rw [sumZ, sumN, sumZ_nat f k]
    exact (Int.natCast_add _ _).symm
def tailT (N : NET) (t q : Nat) : Nat := if dTo (nRd N q) = t then 1 else 0
def headT (N : NET) (t q : Nat) : Nat := if dFrom (nRd N q) = t then 1 else 0
theorem row_net {N : NET} {A : Nat → Bool} {rows : List ROW} (h : WFr N A rows) (t : Nat) : ∀ (m j : Nat), j < m → j < rows.length → fareR rows (tailT N t) j + (if 0 = t then 1 else 0) = fareR rows (headT N t) j + (if wEnd (rowAt rows j) = t then 1 else 0) := by
  intro m
  induction m with
  | zero => intro j hj; omega
  | succ m ih =>
    intro j hj hl
    rcases Nat.eq_zero_or_pos j with e | e
    · subst e
      rw [h.fare0 _ (by omega), h.fare0 _ (by omega), h.zero (by omega)]
      rfl
    · obtain ⟨g1, g2, g3, g4⟩ := h.par hl e
      have h1 := ih (wPar (rowAt rows j)) (by omega) (by omega)
      have h2 := (goesOn_iff.mp g4).2.1
      have g2e : wEnd (rowAt rows j) = dTo (nRd N (wLast (rowAt rows j))) := congrArg wEnd g2
      rw [h.fare _ e hl, h.fare _ e hl, g2e]
      have e1 : tailT N t (wLast (rowAt rows j)) = if dTo (nRd N (wLast (rowAt rows j))) = t then 1 else 0 := rfl
      have e2 : headT N t (wLast (rowAt rows j)) = if dFrom (nRd N (wLast (rowAt rows j))) = t then 1 else 0 := rfl
      rw [e1, e2, h2]
      omega
def dl (a t : Nat) : Int := if a = t then 1 else 0
def hz (rows : List ROW) (j q : Nat) : Nat := if hasQ rows j q = true then 1 else 0
theorem inc_row {N : NET} {A : Nat → Bool} {rows : List ROW} (h : WFr N A rows) (hO : NetOK N) {j : Nat} (hj : j < rows.length) (t : Nat) : sumZ (nM N) (fun r => inc N r t * (hz rows j r : Int)) = dl (wEnd (rowAt rows j)) t - dl 0 t := by
  have hf := h.fact hO (j + 1) j _ (by omega) (rowAt_get hj)
  have key : ∀ g : Nat → Nat, sumN (nM N) (fun r => g r * hz rows j r) = fareR rows g j := fun g => by
    unfold fareR
    rw [← sumN_mem (k := nM N) _ hf.2.2.2.1 (fun q hq => (hf.2.2.1 q hq).1)]
    exact sumN_cong _ fun r _ => by
      unfold hz
      by_cases c : hasQ rows j r = true
      · rw [if_pos c, if_pos ((hf.2.1 r).mp c), Nat.mul_one]
      · rw [if_neg c, if_neg (fun h => c ((hf.2.1 r).mpr h)), Nat.mul_zero]
  have hn := row_net h t (j + 1) j (by omega) hj
  have e1 : sumZ (nM N) (fun r => inc N r t * (hz rows j r : Int)) + (sumN (nM N) (fun r => headT N t r * hz rows j r) : Int) = (sumN (nM N) (fun r => tailT N t r * hz rows j r) : Int) := by
    rw [← sumZ_nat, ← sumZ_nat, ← sumZ_add]
    refine sumZ_cong _ fun r _ => ?_
    unfold inc tailT headT
    rw [Int.natCast_mul, Int.natCast_mul, ← Int.add_mul]
    congr 1
    split <;> split <;> rfl
  rw [key, key] at e1
  unfold dl
  split <;> split <;> simp_all <;> omega
theorem netF_ext {N : NET} {f g : Nat → Nat} (t : Nat) (h : ∀ q, f q = g q) : netF N f t = netF N g t := by
  rw [show f = g from funext h]
theorem netF_plus {N : NET} {f g e : Nat → Nat} {t : Nat} (h : ∀ q, g q = f q + e q) : netF N g t = netF N f t + sumZ (nM N) (fun r => inc N r t * (e r : Int)) := by
  unfold netF
  rw [← sumZ_add]
  refine sumZ_cong _ fun r _ => ?_
  rw [h r, Int.natCast_add, Int.mul_add]
theorem netF_add {N : NET} {A : Nat → Bool} {rows : List ROW} (h : WFr N A rows) (hO : NetOK N) {s : SST} {c j : Nat} (hj : j < rows.length) (t : Nat) : netF N (addR rows s c j).1 t = netF N s.1 t + (dl (wEnd (rowAt rows j)) t - dl 0 t) := by
  rw [← inc_row h hO hj t]
  refine netF_plus fun q => ?_
  show (if hasQ rows j q = true then s.1 q + 1 else s.1 q) = s.1 q + hz rows j q
  unfold hz
  by_cases e : hasQ rows j q = true
  · rw [if_pos e, if_pos e]
  · rw [if_neg e, if_neg e, Nat.add_zero]
theorem netF_sub {N : NET} {A : Nat → Bool} {rows : List ROW} (h : WFr N A rows) (hO : NetOK N) {s : SST} {c j : Nat} (hj : j < rows.length) (hq : ∀ q, hasQ rows j q = true → 0 < s.1 q) (t : Nat) : netF N s.1 t = netF N (subR rows s c j).1 t + (dl (wEnd (rowAt rows j)) t - dl 0 t) := by
  rw [← inc_row h hO hj t]
  refine netF_plus fun q => ?_
  show s.1 q = (if hasQ rows j q = true then s.1 q - 1 else s.1 q) + hz rows j q
  unfold hz
  by_cases e : hasQ rows j q = true
  · have := hq q e
    rw [if_pos e, if_pos e]
    omega
  · rw [if_neg e, if_neg e, Nat.add_zero]
/-- what a class's drivers ask of a town -/
def asks (N : NET) (t : Nat) : Nat → Int
  | 0 => 0
  | c + 1 => asks N t c + (nC N c 1 : Int) * (dl (nC N c 0) t - dl 0 t)
theorem arrv_net {N : NET} {A : Nat → Bool} {rows : List ROW} {mode c D : Nat} {s : SST} (h : WFr N A rows) (hO : NetOK N) (hc : c < 3) (hi : SInv N rows s D) (hw : 0 < cntTo rows (nC N c 0) rows.length) (t : Nat) : ∀ k, SInv N rows (arrv N mode rows c k s) (D + k) ∧ netF N (arrv N mode rows c k s).1 t = netF N s.1 t + (k : Int) * (dl (nC N c 0) t - dl 0 t)
  | 0 => ⟨hi, by rw [arrv]; simp⟩
  | k + 1 => by
    obtain ⟨i1, i2⟩ := arrv_net (mode := mode) h hO hc hi hw t k
    obtain ⟨b, hb⟩ := lrow_some (fr := fareR rows (moreP N mode c (arrv N mode rows c k s).1)) _ hw
    obtain ⟨b1, b2, b3⟩ := lrow_is _ hb
    rw [arrv, hb]
    dsimp only
    refine ⟨i1.add hc b1 b2 b3, ?_⟩
    rw [netF_add h hO b2, i2, b3, Int.natCast_succ, Int.add_mul]
    omega
theorem netF_z1 (N : NET) (t : Nat) : netF N z1.1 t = 0 := by
  show sumZ (nM N) (fun r => inc N r t * ((0 : Nat) : Int)) = 0
  rw [sumZ_cong (f := fun r => inc N r t * ((0 : Nat) : Int)) (g := fun _ => 0) _ (fun r _ => Int.mul_zero _), sumZ_0]
theorem arrAll_net {N : NET} {A : Nat → Bool} {rows : List ROW} {mode : Nat} (h : WFr N A rows) (hO : NetOK N) (hw : canAll N rows = true) (t : Nat) : ∀ c, c ≤ 3 → SInv N rows (arrAll N mode rows c) (nD N c) ∧ netF N (arrAll N mode rows c).1 t = asks N t c
  | 0, _ => ⟨z1_inv, netF_z1 N t⟩
  | c + 1, hc => by
    obtain ⟨i1, i2⟩ := arrAll_net (mode := mode) h hO hw t c (by omega)
    have hds : nD N (c + 1) = nD N c + nC N c 1 := rfl
    rw [arrAll, asks, hds]
    by_cases e : nC N c 1 = 0
    · rw [e, arrv]
      exact ⟨i1, by rw [i2]; simp⟩
    · obtain ⟨j1, j2⟩ := arrv_net (mode := mode) h hO (by omega) i1 (canF_is 3 0 hw c (by omega) (by omega) (by omega)) t (nC N c 1)
      exact ⟨j1, by rw [j2, i2]⟩
theorem stepR_net {N : NET} {A : Nat → Bool} {rows : List ROW} {mode c D : Nat} {s : SST} (h : WFr N A rows) (hO : NetOK N) (hl : rows.length ≤ 211) (hc : c < 3) (hi : SInv N rows s D) (t : Nat) : ∀ (m j : Nat) (s' : SST), j + m ≤ rows.length → stepR N mode rows c s m j = some s' → SInv N rows s' D ∧ netF N s'.1 t = netF N s.1 t
  | 0, j, s', _, e => by cases e
  | m + 1, j, s', hj, e => by
    rw [stepR] at e
    cases hg : goalR N mode rows c s j with
    | none =>
      rw [hg] at e
      exact stepR_net h hO hl hc hi t m (j + 1) s' (by omega) e
    | some b =>
      rw [hg] at e
      obtain ⟨g1, g2, g3, g4, _⟩ := goalR_is hg
      obtain ⟨D', rfl⟩ : ∃ D', D = D' + 1 := ⟨D - 1, by have := hi.rd_le hc (show j < rows.length by omega); omega⟩
      obtain ⟨u1, u2'⟩ := hi.sub hc (show j < rows.length by omega) g1
      have he := (hi.2.2 c j hc (by omega) g1).2.2
      have hs := netF_sub (c := c) h hO (show j < rows.length by omega) u2' t
      rw [← Option.some.inj e]
      refine ⟨u1.add hc g2 g3 (by rw [g4]; exact he), ?_⟩
      rw [netF_add h hO g3, g4]
      omega
theorem stepC_net {N : NET} {A : Nat → Bool} {rows : List ROW} {mode D : Nat} {s : SST} (h : WFr N A rows) (hO : NetOK N) (hl : rows.length ≤ 211) (h1 : 1 ≤ rows.length) (hi : SInv N rows s D) (t : Nat) : ∀ (m c : Nat) (s' : SST), c + m = 3 → stepC N mode rows s m c = some s' → SInv N rows s' D ∧ netF N s'.1 t = netF N s.1 t
  | 0, c, s', _, e => by cases e
  | m + 1, c, s', hc, e => by
    rw [stepC] at e
    by_cases z : nC N c 1 = 0
    · rw [if_pos z] at e
      exact stepC_net h hO hl h1 hi t m (c + 1) s' (by omega) e
    · rw [if_neg z] at e
      cases hs : stepR N mode rows c s (rows.length - 1) 1 with
      | none =>
        rw [hs] at e
        exact stepC_net h hO hl h1 hi t m (c + 1) s' (by omega) e
      | some s2 =>
        rw [hs] at e
        rw [← Option.some.inj e]
        exact stepR_net h hO hl (by omega) hi t _ 1 s2 (by omega) hs
theorem stepsN_net {N : NET} {A : Nat → Bool} {rows : List ROW} {mode D : Nat} (h : WFr N A rows) (hO : NetOK N) (hl : rows.length ≤ 211) (h1 : 1 ≤ rows.length) (t : Nat) : ∀ (m : Nat) (s : SST × Nat), SInv N rows s.1 D → SInv N rows (stepsN N mode rows m s).1 D ∧ netF N (stepsN N mode rows m s).1.1 t = netF N s.1.1 t
  | 0, s, hi => ⟨hi, rfl⟩
  | m + 1, s, hi => by
    rw [stepsN]
    cases hs : stepC N mode rows s.1 3 0 with
    | none => exact ⟨hi, rfl⟩
    | some s' =>
      obtain ⟨i1, i2⟩ := stepC_net h hO hl h1 hi t 3 0 s' rfl hs
      obtain ⟨j1, j2⟩ := stepsN_net (mode := mode) h hO hl h1 t m (s', s.2 + 1) i1
      exact ⟨j1, by rw [← i2]; exact j2⟩
theorem stF_net {N : NET} {A : Nat → Bool} {mode : Nat} (hO : NetOK N) (hw : canAll N (rowsOf N A) = true) (t : Nat) : netF N (stF N mode (rowsOf N A)).1.1 t = asks N t 3 := by
  obtain ⟨i1, i2⟩ := arrAll_net (mode := mode) (rows_wf N A) hO hw t 3 (by omega)
  obtain ⟨j1, j2⟩ := stepsN_net (mode := mode) (rows_wf N A) hO (rows_le hO) (rows_pos N A) t 400 (arrAll N mode (rowsOf N A) 3, 0) i1
  exact j2.trans i2
theorem flAll_net {N : NET} (hO : NetOK N) (hr : ∀ c, c < 3 → 0 < nC N c 1 → Rch N (nC N c 0)) (t : Nat) : ∀ c, c ≤ 3 → netF N (flAll N c) t = asks N t c
  | 0, _ => netF_z1 N t
  | c + 1, hc => by
    have hd := nD_le hO (c + 1) (by omega)
    have hds : nD N (c + 1) = nD N c + nC N c 1 := rfl
    have ih := flAll_net hO hr t c (by omega)
    show netF N (sndC N (nC N c 0) (nC N c 1) (flAll N c)) t = _
    rw [asks]
    by_cases h0 : nC N c 1 = 0
    · rw [h0]
      show netF N (flAll N c) t = _
      rw [ih]; simp
    · rw [(sndC_ok hO (flAll_cheap hO hr c (by omega)) (hr c (by omega) (by omega)) (nC N c 1) (by omega)).2 t, ih]
      rfl
def sumT (N : NET) (ld : Nat → Nat) (m : Nat) : Nat := sumN m fun r => allN N r (ld r)
theorem tot_sum (N : NET) (ld : Nat → Nat) : ∀ m, ((totN N ld m).2 = true → mxL < sumT N ld m) ∧ ((totN N ld m).2 = false → (totN N ld m).1 = sumT N ld m)
  | 0 => ⟨fun h => (by cases h), fun _ => rfl⟩
  | m + 1 => by
    obtain ⟨i1, i2⟩ := tot_sum N ld m
    have e : sumT N ld (m + 1) = sumT N ld m + ld m * rCost (nRd N m) (ld m) := rfl
    rw [totN, e]
    unfold sAdd
    by_cases c : (totN N ld m).2 = true
    · rw [if_pos c]
      exact ⟨fun _ => (by have := i1 c; omega), fun q => (by rw [c] at q; cases q)⟩
    · rw [if_neg c]
      have c := Bool.eq_false_iff.mpr c
      have v := i2 c
      by_cases g : (totN N ld m).1 + ld m * rCost (nRd N m) (ld m) ≤ mxL
      · rw [if_pos g]
        exact ⟨fun q => (by cases q), fun _ => (by show (totN N ld m).1 + ld m * rCost (nRd N m) (ld m) = _; omega)⟩
      · rw [if_neg g]
        exact ⟨fun _ => (by omega), fun q => (by cases q)⟩
theorem best_le {N : NET} {A : Nat → Bool} {g : Nat → Nat} (hO : NetOK N) (hw : canAll N (rowsOf N A) = true) (hg : ∀ t, 1 ≤ t → netF N g t = asks N t 3) : sumT N (flAll N 3) (nM N) ≤ sumT N g (nM N) := by
  have hr := can_rch (rows_wf N A) hw
  obtain ⟨⟨π, hπ⟩, _⟩ := flAll_cheap hO hr 3 (by omega)
  have h := cheap_least (g := g) hO hπ (fun t ht => by rw [flAll_net hO hr t 3 (by omega), hg t ht])
  unfold costF at h
  rw [sumZ_nat, sumZ_nat] at h
  exact Int.ofNat_le.mp h
theorem c_worse {B n : Nat} {I : Nat → Nat → Int32} {L : Nat → Nat → Int64} {Q : Nat → Nat → Option Nat} {R : Nat → RDt} {s : STT} (h : IsC B n I L Q R s) (m p : Int32) : RunC B I L (fX9_worse B m p (MK B n I L Q R)) (A_worse (stN s) m p, s) := by
  obtain ⟨fp, fs, fc, h0⟩ := id h
  have hO := h0.1.2.2.1
  unfold A_worse fX9_worse
  rw [ix3, ob1_some, NO_lit]
  rcases ix_cases m (m := 3) (by decide) with ⟨mode, h1, rfl, h3⟩ | ⟨h1, h2⟩
  · rw [h3, if_neg (bS mode), ix2, ob1_some]
    dsimp only
    rcases ix_cases p (m := 2) (by decide) with ⟨k, k1, rfl, k3⟩ | ⟨k1, k2⟩
    · rw [k3, if_neg (bS k)]
      dsimp only
      obtain ⟨I1, L1, fs1, r1, r2, r3, r4, r5⟩ := e_steadyOf h0 h1
      have hs := (r2.2.1.2.2.2.2.1 mode h1 r3).2
      obtain ⟨I2, L2, fs2, fc2, t1, t2, t3, t4, t5⟩ := e_bestOrNo r2
      have hfr : ∀ a, 108 ≤ a → I2 a = I a ∧ L2 a = L a := fun a ha => ⟨by rw [(t5 a (by omega)).1, (r5 a (by omega)).1], by rw [(t5 a (by omega)).2, (r5 a (by omega)).2]⟩
      have hmx := mxL_eq
      have hT := totN_le (stN s) (stF (stN s) mode (rowsN (stN s))).1.1 (nM (stN s))
      have hB := totN_le (stN s) (flAll (stN s) 3) (nM (stN s))
      rw [r1, ob2_some, k_Steady (isSm h1), gd_true, e_totalOrNo (isSm h1) hs, ob1_some, t1, ob2_some]
      unfold bestA totA
      cases hc : canAll (stN s) (rowsN (stN s)) with
      | false =>
        simp only [Bool.false_eq_true, ↓reduceIte]
        exact RunC.rep t2 hfr rfl
      | true =>
        have hle := best_le (g := (stF (stN s) mode (rowsN (stN s))).1.1) hO hc (fun t _ => stF_net hO hc t)
        obtain ⟨a1, a2⟩ := tot_sum (stN s) (stF (stN s) mode (rowsN (stN s))).1.1 (nM (stN s))
        obtain ⟨b1, b2⟩ := tot_sum (stN s) (flAll (stN s) 3) (nM (stN s))
        generalize totN (stN s) (stF (stN s) mode (rowsN (stN s))).1.1 (nM (stN s)) = T at *
        generalize totN (stN s) (flAll (stN s) 3) (nM (stN s)) = U at *
        obtain ⟨T, o⟩ := T
        obtain ⟨U, v⟩ := U
        have hT : T ≤ mxL := hT
        have hB : U ≤ mxL := hB
        cases o with
        | true =>
          simp only [↓reduceIte]
          exact RunC.rep t2 hfr rfl
        | false =>
          have a2 : T = _ := a2 rfl
          have zT : ¬ lN T = NOv := by rw [lN_NO (by omega)]; exact id
          simp only [Bool.false_eq_true, ↓reduceIte]
          rw [if_neg zT]
          cases v with
          | true =>
            simp only [↓reduceIte]
            exact RunC.rep t2 hfr rfl
          | false =>
            have b2 : U = _ := b2 rfl
            have zU : ¬ lN U = NOv := by rw [lN_NO (by omega)]; exact id
            simp only [Bool.false_eq_true, ↓reduceIte]
            rw [if_neg zU]
            refine RunC.rep t2 hfr ?_
            by_cases e : U = 0
            · rw [if_pos (by rw [e]; rfl), if_pos e]
              by_cases g : T = 0
              · rw [if_pos (by rw [g]; rfl), if_pos g, nI_l (by omega)]
              · rw [if_neg (by rw [L0, pk_lEQ (by omega) (by omega)]; exact g), if_neg g]
            · rw [if_neg (by rw [L0, pk_lEQ (by omega) (by omega)]; exact e), if_neg e, lN_sub (by omega), e_frac (by omega) (by omega) (by omega) k1, ob1_some]
    · rw [k1, if_pos bN]
      exact RunC.same h rfl
  · rw [h1, if_pos bN]
    exact RunC.same h rfl
