theorem more_drop {N : NET} {q mode c : Nat} {s' s : SST} (h : ReS q s' s) (r : Nat) : moreP (dropRd N q) mode c s'.1 r = moreP N mode c s.1 (phi q r) := by
  unfold moreP
  rw [pAt_drop, h.1]
theorem add_drop {N : NET} {q : Nat} {l' l : List ROW} {s' s : SST} (hO' : NetOK (dropRd N q)) (hO : NetOK N) (h' : WFr (dropRd N q) tA l') (hw : WFr N (without q) l) (h : ReL q l' l) (hs : ReS q s' s) (c b : Nat) : ReS q (addR l' s' c b) (addR l s c b) := by
  refine ⟨fun r => ?_, fun a j => ?_⟩
  · show (if hasQ l' b r = true then s'.1 r + 1 else s'.1 r) = if hasQ l b (phi q r) = true then s.1 (phi q r) + 1 else s.1 (phi q r)
    rw [h.has hO' hO h' hw, hs.1]
  · show (if a = c ∧ j = b then s'.2 c b + 1 else s'.2 a j) = if a = c ∧ j = b then s.2 c b + 1 else s.2 a j
    rw [hs.2, hs.2]
theorem sub_drop {N : NET} {q : Nat} {l' l : List ROW} {s' s : SST} (hO' : NetOK (dropRd N q)) (hO : NetOK N) (h' : WFr (dropRd N q) tA l') (hw : WFr N (without q) l) (h : ReL q l' l) (hs : ReS q s' s) (c b : Nat) : ReS q (subR l' s' c b) (subR l s c b) := by
  refine ⟨fun r => ?_, fun a j => ?_⟩
  · show (if hasQ l' b r = true then s'.1 r - 1 else s'.1 r) = if hasQ l b (phi q r) = true then s.1 (phi q r) - 1 else s.1 (phi q r)
    rw [h.has hO' hO h' hw, hs.1]
  · show (if a = c ∧ j = b then s'.2 c b - 1 else s'.2 a j) = if a = c ∧ j = b then s.2 c b - 1 else s.2 a j
    rw [hs.2, hs.2]
theorem arrv_drop {N : NET} {q mode c : Nat} {l' l : List ROW} {s' s : SST} (hO' : NetOK (dropRd N q)) (hO : NetOK N) (h' : WFr (dropRd N q) tA l') (hw : WFr N (without q) l) (h : ReL q l' l) (hs : ReS q s' s) : ∀ k, ReS q (arrv (dropRd N q) mode l' c k s') (arrv N mode l c k s)
  | 0 => hs
  | k + 1 => by
    have ih := arrv_drop (mode := mode) (c := c) hO' hO h' hw h hs k
    have e : lrow l' (fareR l' (moreP (dropRd N q) mode c (arrv (dropRd N q) mode l' c k s').1)) (nC N c 0) l'.length = lrow l (fareR l (moreP N mode c (arrv N mode l c k s).1)) (nC N c 0) l.length := by
      rw [h.1]
      exact h.least _ (fun j hj => h.fare (fun r => more_drop ih r) hj) l.length (Nat.le_refl _)
    show ReS q (match lrow l' (fareR l' (moreP (dropRd N q) mode c (arrv (dropRd N q) mode l' c k s').1)) (nC N c 0) l'.length with
      | some b => addR l' (arrv (dropRd N q) mode l' c k s') c b
      | none => arrv (dropRd N q) mode l' c k s') (match lrow l (fareR l (moreP N mode c (arrv N mode l c k s).1)) (nC N c 0) l.length with
      | some b => addR l (arrv N mode l c k s) c b
      | none => arrv N mode l c k s)
    rw [e]
    cases lrow l (fareR l (moreP N mode c (arrv N mode l c k s).1)) (nC N c 0) l.length with
    | none => exact ih
    | some b => exact add_drop hO' hO h' hw h ih c b
theorem all_drop {N : NET} {q mode : Nat} {l' l : List ROW} (hO' : NetOK (dropRd N q)) (hO : NetOK N) (h' : WFr (dropRd N q) tA l') (hw : WFr N (without q) l) (h : ReL q l' l) : ∀ c, ReS q (arrAll (dropRd N q) mode l' c) (arrAll N mode l c)
  | 0 => ⟨fun _ => rfl, fun _ _ => rfl⟩
  | c + 1 => arrv_drop hO' hO h' hw h (all_drop hO' hO h' hw h c) _
theorem goal_drop {N : NET} {q mode c j : Nat} {l' l : List ROW} {s' s : SST} (hO' : NetOK (dropRd N q)) (hO : NetOK N) (h' : WFr (dropRd N q) tA l') (hw : WFr N (without q) l) (h : ReL q l' l) (hs : ReS q s' s) (hj : j < l.length) : goalR (dropRd N q) mode l' c s' j = goalR N mode l c s j := by
  have hg : ∀ i, i < l.length → fareB (dropRd N q) mode l' c s'.1 j i = fareB N mode l c s.1 j i := fun i hi => by
    unfold fareB
    refine h.fare (fun r => ?_) hi
    unfold gB
    have e := h.has hO' hO h' hw j r
    unfold hasQ at e
    rw [e]
    unfold hereP moreP
    rw [pAt_drop, pAt_drop, hs.1]
  unfold goalR
  rw [hs.2, h.1, h.ends, h.least _ hg l.length (Nat.le_refl _)]
  by_cases e : 0 < s.2 c j
  · rw [if_pos e, if_pos e]
    cases hb : lrow l (fareB N mode l c s.1 j) (wEnd (rowAt l j)) l.length with
    | none => rfl
    | some b =>
      have := lrow_is _ hb
      dsimp only
      rw [hg b this.2.1, hg j hj]
  · rw [if_neg e, if_neg e]
def ReO (q : Nat) (o' o : Option SST) : Prop := match o', o with
  | none, none => True
  | some a, some b => ReS q a b
  | _, _ => False
theorem stepR_drop {N : NET} {q mode c : Nat} {l' l : List ROW} {s' s : SST} (hO' : NetOK (dropRd N q)) (hO : NetOK N) (h' : WFr (dropRd N q) tA l') (hw : WFr N (without q) l) (h : ReL q l' l) (hs : ReS q s' s) : ∀ m j, j + m ≤ l.length → ReO q (stepR (dropRd N q) mode l' c s' m j) (stepR N mode l c s m j)
  | 0, _, _ => trivial
  | m + 1, j, hj => by
    rw [stepR, stepR, goal_drop hO' hO h' hw h hs (by omega)]
    cases hb : goalR N mode l c s j with
    | none => exact stepR_drop hO' hO h' hw h hs m (j + 1) (by omega)
    | some b => exact add_drop hO' hO h' hw h (sub_drop hO' hO h' hw h hs c j) c b
theorem stepC_drop {N : NET} {q mode : Nat} {l' l : List ROW} {s' s : SST} (hO' : NetOK (dropRd N q)) (hO : NetOK N) (h' : WFr (dropRd N q) tA l') (hw : WFr N (without q) l) (h : ReL q l' l) (hl : 1 ≤ l.length) (hs : ReS q s' s) : ∀ m c, ReO q (stepC (dropRd N q) mode l' s' m c) (stepC N mode l s m c)
  | 0, _ => trivial
  | m + 1, c => by
    have ih := stepC_drop (mode := mode) hO' hO h' hw h hl hs m (c + 1)
    rw [stepC, stepC, h.1]
    have ec : nC (dropRd N q) c 1 = nC N c 1 := rfl
    rw [ec]
    by_cases e : nC N c 1 = 0
    · rw [if_pos e, if_pos e]; exact ih
    · rw [if_neg e, if_neg e]
      have hr := stepR_drop (mode := mode) (c := c) hO' hO h' hw h hs (l.length - 1) 1 (by omega)
      cases h1 : stepR (dropRd N q) mode l' c s' (l.length - 1) 1 with
      | none =>
        cases h2 : stepR N mode l c s (l.length - 1) 1 with
        | none => exact ih
        | some b => rw [h1, h2] at hr; exact hr.elim
      | some a =>
        cases h2 : stepR N mode l c s (l.length - 1) 1 with
        | none => rw [h1, h2] at hr; exact hr.elim
        | some b => rw [h1, h2] at hr; exact hr
theorem stepsN_drop {N : NET} {q mode : Nat} {l' l : List ROW} (hO' : NetOK (dropRd N q)) (hO : NetOK N) (h' : WFr (dropRd N q) tA l') (hw : WFr N (without q) l) (h : ReL q l' l) (hl : 1 ≤ l.length) : ∀ (m : Nat) (s' s : SST) (k : Nat), ReS q s' s → ReS q (stepsN (dropRd N q) mode l' m (s', k)).1 (stepsN N mode l m (s, k)).1
  | 0, _, _, _, hs => hs
  | m + 1, s', s, k, hs => by
    have hr := stepC_drop (mode := mode) hO' hO h' hw h hl hs 3 0
    rw [stepsN, stepsN]
    cases h1 : stepC (dropRd N q) mode l' s' 3 0 with
    | none =>
      cases h2 : stepC N mode l s 3 0 with
      | none => exact hs
      | some b => rw [h1, h2] at hr; exact hr.elim
    | some a =>
      cases h2 : stepC N mode l s 3 0 with
      | none => rw [h1, h2] at hr; exact hr.elim
      | some b =>
        rw [h1, h2] at hr
        exact stepsN_drop hO' hO h' hw h hl m a b (k + 1) hr
/-- a road that is not used carries nobody -/
theorem WFr.sel {N : NET} {A : Nat → Bool} {rows : List ROW} (h : WFr N A rows) : ∀ (m j : Nat) (r : ROW), j < m → rows[j]? = some r → ∀ q, q ∈ wPath r → A q = true := by
  intro m
  induction m with
  | zero => intro j r hj; omega
  | succ m ih =>
    intro j r hj hr q hq
    rcases h j r hr with ⟨_, h⟩ | ⟨r', h1, h2, h3, h4, h5⟩
    · rw [h] at hq; cases hq
    · rw [h3] at hq
      have hq : q ∈ wPath r' ++ [wLast r] := hq
      rcases List.mem_append.mp hq with g | g
      · exact ih (wPar r) r' (by omega) h2 q g
      · rw [List.mem_singleton.mp g]
        exact (goesOn_iff.mp h5).1
theorem SInv.off {N : NET} {A : Nat → Bool} {rows : List ROW} {s : SST} {D q : Nat} (hO : NetOK N) (hW : WFr N A rows) (h : SInv N rows s D) (hq : A q = false) : s.1 q = 0 := by
  rw [h.1 q]
  have h0 : ∀ j, j < rows.length → (if hasQ rows j q = true then 1 else 0) = 0 := fun j hj => by
    refine if_neg fun g => ?_
    have hf := hW.fact hO (j + 1) j _ (by omega) (rowAt_get hj)
    have := hW.sel (j + 1) j _ (by omega) (rowAt_get hj) q ((hf.2.1 q).mp g)
    rw [hq] at this
    cases this
  unfold S2
  rw [sumN_cong (g := fun _ => 0) 3 (fun c _ => ?_), sumN_zero]
  rw [sumN_cong (g := fun _ => 0) rows.length (fun j hj => ?_), sumN_zero]
  show s.2 c j * (if hasQ rows j q = true then 1 else 0) = 0
  rw [h0 j hj, Nat.mul_zero]
theorem stepR_inv {N : NET} {mode D c : Nat} {rows : List ROW} {s : SST} (hl : rows.length ≤ 211) (hc : c < 3) (hi : SInv N rows s D) : ∀ (m j : Nat) (s' : SST), j + m ≤ rows.length → stepR N mode rows c s m j = some s' → SInv N rows s' D
  | 0, _, _, _, h => by cases h
  | m + 1, j, s', hj, h => by
    rw [stepR] at h
    cases hb : goalR N mode rows c s j with
    | none => rw [hb] at h; exact stepR_inv hl hc hi m (j + 1) s' (by omega) h
    | some b =>
      rw [hb] at h
      rw [← Option.some.inj h]
      exact goal_inv hi hc (hi.2.2 c j hc (by omega) (goalR_is hb).1) hb
theorem stepC_inv {N : NET} {mode D : Nat} {rows : List ROW} {s : SST} (hl : rows.length ≤ 211) (h1 : 1 ≤ rows.length) (hi : SInv N rows s D) : ∀ (m c : Nat) (s' : SST), c + m ≤ 3 → stepC N mode rows s m c = some s' → SInv N rows s' D
  | 0, _, _, _, h => by cases h
  | m + 1, c, s', hc, h => by
    rw [stepC] at h
    by_cases e : nC N c 1 = 0
    · rw [if_pos e] at h
      exact stepC_inv hl h1 hi m (c + 1) s' (by omega) h
    · rw [if_neg e] at h
      cases hr : stepR N mode rows c s (rows.length - 1) 1 with
      | none => rw [hr] at h; exact stepC_inv hl h1 hi m (c + 1) s' (by omega) h
      | some s1 =>
        rw [hr] at h
        rw [← Option.some.inj h]
        exact stepR_inv hl (by omega) hi (rows.length - 1) 1 s1 (by omega) hr
theorem stepsN_inv {N : NET} {mode D : Nat} {rows : List ROW} (hl : rows.length ≤ 211) (h1 : 1 ≤ rows.length) : ∀ (m : Nat) (s : SST) (k : Nat), SInv N rows s D → SInv N rows (stepsN N mode rows m (s, k)).1 D
  | 0, _, _, h => h
  | m + 1, s, k, h => by
    rw [stepsN]
    cases hr : stepC N mode rows s 3 0 with
    | none => exact h
    | some s' => exact stepsN_inv hl h1 m s' (k + 1) (stepC_inv hl h1 h 3 0 s' (by omega) hr)
theorem stF_inv {N : NET} {A : Nat → Bool} {mode : Nat} (hO : NetOK N) (hw : canAll N (rowsOf N A) = true) : SInv N (rowsOf N A) (stF N mode (rowsOf N A)).1 (nD N 3) := stepsN_inv (rows_le hO) (rows_pos N A) 400 _ 0 (arrAll_ok hw 3 (by omega)).1
/-! the totals are the same -/
theorem tot_drop {N : NET} {q : Nat} {ld' ld : Nat → Nat} (h : ∀ r, ld' r = ld (phi q r)) (h0 : ld q = 0) : ∀ k, totN (dropRd N q) ld' k = totN N ld (phk q k)
  | 0 => by
    have : phk q 0 = 0 := if_pos (Nat.zero_le q)
    rw [this]
    rfl
  | k + 1 => by
    have ih := tot_drop (N := N) h h0 k
    have e0 : totN (dropRd N q) ld' (k + 1) = sAdd (totN (dropRd N q) ld' k) (ld' k) (rCost (nRd (dropRd N q) k) (ld' k)) := rfl
    have eq0 : totN N ld (q + 1) = totN N ld q := by
      have : totN N ld (q + 1) = sAdd (totN N ld q) (ld q) (rCost (nRd N q) (ld q)) := rfl
      rw [this, h0]
      exact sAdd_0 (Nat.zero_mul _) (totN_leM N ld q)
    rw [e0, ih, h, drop_rd]
    by_cases c1 : k + 1 ≤ q
    · have e1 : phk q (k + 1) = k + 1 := if_pos c1
      have e2 : phk q k = k := if_pos (by omega)
      have e3 : phi q k = k := if_pos (by omega)
      rw [e1, e2, e3]
      rfl
    · have e1 : phk q (k + 1) = k + 1 + 1 := if_neg c1
      have e3 : phi q k = k + 1 := if_neg (by omega)
      have e4 : totN N ld (phk q k) = totN N ld (k + 1) := by
        by_cases c2 : k ≤ q
        · have ek : k = q := by omega
          rw [show phk q k = k from if_pos c2, ek, eq0]
        · rw [show phk q k = k + 1 from if_neg c2]
      rw [e1, e3, e4]
      rfl
theorem tot_full {N : NET} {q : Nat} {ld : Nat → Nat} (hq : q < nM N) (h0 : ld q = 0) : totN N ld (phk q (nM N - 1)) = totN N ld (nM N) := by
  by_cases c : nM N - 1 ≤ q
  · have e : phk q (nM N - 1) = q := by unfold phk; rw [if_pos c]; omega
    have e2 : nM N = q + 1 := by omega
    have : totN N ld (q + 1) = sAdd (totN N ld q) (ld q) (rCost (nRd N q) (ld q)) := rfl
    rw [e, e2, this, h0]
    exact (sAdd_0 (Nat.zero_mul _) (totN_leM N ld q)).symm
  · have e : phk q (nM N - 1) = nM N := by unfold phk; rw [if_neg c]; omega
    rw [e]
theorem can_drop {N : NET} {q : Nat} (hq : q < nM N) : canAll (dropRd N q) (rowsN (dropRd N q)) = canAll N (rowsOf N (without q)) := (rows_drop hq).can 3 0
theorem totals_drop {N : NET} {q mode : Nat} (hO : NetOK N) (hq : q < nM N) (hw : canAll N (rowsOf N (without q)) = true) : totN (dropRd N q) (stF (dropRd N q) mode (rowsN (dropRd N q))).1.1 (nM (dropRd N q)) = totN N (stF N mode (rowsOf N (without q))).1.1 (nM N) := by
  have hO' := dropRd_ok hO hq
  have hS := stF_inv (mode := mode) hO hw
  have h0 : (stF N mode (rowsOf N (without q))).1.1 q = 0 := hS.off hO (rows_wf N (without q)) (decide_eq_false (fun g => g rfl))
  have hR := rows_drop hq
  have ha := all_drop (mode := mode) hO' hO (rows_wf (dropRd N q) tA) (rows_wf N (without q)) hR 3
  have hs : ReS q (stF (dropRd N q) mode (rowsN (dropRd N q))).1 (stF N mode (rowsOf N (without q))).1 := stepsN_drop (mode := mode) hO' hO (rows_wf (dropRd N q) tA) (rows_wf N (without q)) hR (rows_pos N (without q)) 400 _ _ 0 ha
  rw [tot_drop (N := N) (q := q) (ld := (stF N mode (rowsOf N (without q))).1.1) hs.1 h0 (nM (dropRd N q))]
  exact tot_full hq h0
theorem totB_drop {N : NET} {q mode : Nat} (hO : NetOK N) (hq : q < nM N) : totB (dropRd N q) mode (rowsN (dropRd N q)) = totB N mode (rowsOf N (without q)) := by
  unfold totB
  rw [can_drop hq]
  by_cases hw : canAll N (rowsOf N (without q)) = true
  · rw [if_pos hw, if_pos hw, totals_drop hO hq hw]
  · rw [if_neg hw, if_neg hw]
