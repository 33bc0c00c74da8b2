/-! a net without a road, and its rows where the road is not used -/
def phi (q r : Nat) : Nat := if r < q then r else r + 1
def phk (q k : Nat) : Nat := if k ≤ q then k else k + 1
theorem phi_inj {q a b : Nat} (h : phi q a = phi q b) : a = b := by
  unfold phi at h
  split at h <;> split at h <;> omega
theorem phi_ne {q r : Nat} : phi q r ≠ q := by
  unfold phi
  split <;> omega
theorem drop_rd {N : NET} {q r : Nat} : nRd (dropRd N q) r = nRd N (phi q r) := by
  show (if r < q then nRd N r else nRd N (r + 1)) = nRd N (if r < q then r else r + 1)
  split <;> rfl
theorem drop_tl {N : NET} {q r : Nat} : nTl (dropRd N q) r = nTl N (phi q r) := by
  show (if r < q then nTl N r else nTl N (r + 1)) = nTl N (if r < q then r else r + 1)
  split <;> rfl
def er (f : Nat → Nat) (r : ROW) : ROW := (wPar r, 0, wEnd r, wLen r, 0, wTb r, (wPath r).map f)
/-- same but for the numbers of the roads -/
def ReR (q : Nat) (r' r : ROW) : Prop := wPar r' = wPar r ∧ wEnd r' = wEnd r ∧ wLen r' = wLen r ∧ wTb r' = wTb r ∧ wPath r = (wPath r').map (phi q)
theorem ReR.new {q i k : Nat} {N : NET} {r' r : ROW} (h : ReR q r' r) : ReR q (newRow (dropRd N q) i r' k) (newRow N i r (phi q k)) := by
  obtain ⟨h1, h2, h3, h4, h5⟩ := h
  refine ⟨rfl, ?_, ?_, ?_, ?_⟩
  · show dTo (nRd (dropRd N q) k) = dTo (nRd N (phi q k))
    rw [drop_rd]
  · show wLen r' + 1 = wLen r + 1
    rw [h3]
  · show wTb r' ||| 2 ^ dTo (nRd (dropRd N q) k) = wTb r ||| 2 ^ dTo (nRd N (phi q k))
    rw [drop_rd, h4]
  · show wPath r ++ [phi q k] = (wPath r' ++ [k]).map (phi q)
    rw [List.map_append, h5]
    rfl
theorem ReR.goes {q k : Nat} {N : NET} {r' r : ROW} (h : ReR q r' r) : goesOn (dropRd N q) tA r' k = goesOn N (without q) r (phi q k) := by
  obtain ⟨h1, h2, h3, h4, h5⟩ := h
  unfold goesOn
  rw [drop_rd, h2, h4]
  have e : without q (phi q k) = true := by
    unfold without
    simp [phi_ne]
  rw [e]
  rfl
def ReL (q : Nat) (l' l : List ROW) : Prop := l'.length = l.length ∧ ∀ j, j < l.length → ReR q (rowAt l' j) (rowAt l j)
theorem rowAt_app1 {l m : List ROW} {j : Nat} (h : j < l.length) : rowAt (l ++ m) j = rowAt l j := by
  unfold rowAt
  rw [List.getElem?_append_left h]
theorem rowAt_app2 {l m : List ROW} {j : Nat} (h : l.length ≤ j) : rowAt (l ++ m) j = rowAt m (j - l.length) := by
  unfold rowAt
  rw [List.getElem?_append_right h]
theorem ReL.app {q : Nat} {l' l m' m : List ROW} (h : ReL q l' l) (g : ReL q m' m) : ReL q (l' ++ m') (l ++ m) := by
  refine ⟨by rw [List.length_append, List.length_append, h.1, g.1], fun j hj => ?_⟩
  rw [List.length_append] at hj
  by_cases c : j < l.length
  · rw [rowAt_app1 c, rowAt_app1 (by rw [h.1]; exact c)]
    exact h.2 j c
  · rw [rowAt_app2 (show l.length ≤ j by omega), rowAt_app2 (show l'.length ≤ j by rw [h.1]; omega), h.1]
    exact g.2 _ (by omega)
theorem ReL.one {q : Nat} {r' r : ROW} (h : ReR q r' r) : ReL q [r'] [r] := ⟨rfl, fun j hj => by
  have e : j = 0 := by have : j < 1 := hj; omega
  subst e
  exact h⟩
theorem ReL.nil {q : Nat} : ReL q [] [] := ⟨rfl, fun j hj => absurd hj (Nat.not_lt_zero j)⟩
theorem ext_drop {N : NET} {q i : Nat} {r' r : ROW} (h : ReR q r' r) : ∀ k, ReL q (extTo (dropRd N q) tA i r' k) (extTo N (without q) i r (phk q k))
  | 0 => by
    have : phk q 0 = 0 := if_pos (Nat.zero_le q)
    rw [this]
    exact ReL.nil
  | k + 1 => by
    have ih := ext_drop (N := N) (i := i) h k
    have hone : ReL q (if goesOn (dropRd N q) tA r' k = true then [newRow (dropRd N q) i r' k] else []) (if goesOn N (without q) r (phi q k) = true then [newRow N i r (phi q k)] else []) := by
      rw [h.goes]
      by_cases c : goesOn N (without q) r (phi q k) = true
      · rw [if_pos c, if_pos c]; exact ReL.one h.new
      · rw [if_neg c, if_neg c]; exact ReL.nil
    have hq : goesOn N (without q) r q = false := by
      unfold goesOn
      have : without q q = false := by unfold without; simp
      rw [this]
      rfl
    rw [extTo]
    by_cases c1 : k + 1 ≤ q
    · have e1 : phk q (k + 1) = k + 1 := if_pos c1
      have e2 : phk q k = k := if_pos (by omega)
      have e3 : phi q k = k := if_pos (by omega)
      rw [e1, extTo]
      rw [e2] at ih
      rw [e3] at hone
      exact ih.app hone
    · have e1 : phk q (k + 1) = k + 1 + 1 := if_neg c1
      have e3 : phi q k = k + 1 := if_neg (by omega)
      rw [e1, extTo]
      rw [e3] at hone
      refine ReL.app ?_ hone
      by_cases c2 : k ≤ q
      · have e2 : phk q k = k := if_pos c2
        rw [e2] at ih
        have ek : k = q := by omega
        rw [extTo, if_neg (by rw [ek, hq]; decide), List.append_nil]
        exact ih
      · have e2 : phk q k = k + 1 := if_neg c2
        rw [e2] at ih
        exact ih
theorem ext_full {N : NET} {q i : Nat} {r : ROW} (hq : q < nM N) : extTo N (without q) i r (phk q (nM N - 1)) = extTo N (without q) i r (nM N) := by
  by_cases c : nM N - 1 ≤ q
  · have e : phk q (nM N - 1) = q := by unfold phk; rw [if_pos c]; omega
    have e2 : nM N = q + 1 := by omega
    have hg : goesOn N (without q) r q = false := by
      unfold goesOn
      have : without q q = false := by unfold without; simp
      rw [this]
      rfl
    rw [e, e2, extTo, if_neg (by rw [hg]; decide), List.append_nil]
  · have e : phk q (nM N - 1) = nM N := by unfold phk; rw [if_neg c]; omega
    rw [e]
theorem bfs_drop {N : NET} {q : Nat} (hq : q < nM N) : ∀ (f i : Nat) (l' l : List ROW), ReL q l' l → ReL q (bfs (dropRd N q) tA f i l') (bfs N (without q) f i l)
  | 0, _, _, _, h => h
  | f + 1, i, l', l, h => by
    rw [bfs, bfs]
    by_cases c : i < l.length
    · rw [rowAt_get c, rowAt_get (show i < l'.length by rw [h.1]; exact c)]
      refine bfs_drop hq f (i + 1) _ _ (h.app ?_)
      have := ext_drop (N := N) (i := i) (h.2 i c) (nM N - 1)
      rw [ext_full hq] at this
      exact this
    · rw [List.getElem?_eq_none (by have := h.1; omega), List.getElem?_eq_none (by have := h.1; omega)]
      exact h
theorem rows_drop {N : NET} {q : Nat} (hq : q < nM N) : ReL q (rowsN (dropRd N q)) (rowsOf N (without q)) := bfs_drop hq 211 0 [row0] [row0] (ReL.one ⟨rfl, rfl, rfl, rfl, rfl⟩)
/-! so all is the same -/
theorem ReL.ends {q : Nat} {l' l : List ROW} (h : ReL q l' l) (j : Nat) : wEnd (rowAt l' j) = wEnd (rowAt l j) := by
  by_cases c : j < l.length
  · exact (h.2 j c).2.1
  · unfold rowAt
    rw [List.getElem?_eq_none (by have := h.1; omega), List.getElem?_eq_none (by have := h.1; omega)]
theorem ReL.cnt {q : Nat} {l' l : List ROW} (h : ReL q l' l) (t : Nat) : ∀ c, cntTo l' t c = cntTo l t c
  | 0 => rfl
  | c + 1 => by rw [cntTo, cntTo, h.cnt t c, h.ends]
theorem ReL.can {q : Nat} {N : NET} {l' l : List ROW} (h : ReL q l' l) : ∀ m c, canF (dropRd N q) l' m c = canF N l m c
  | 0, _ => rfl
  | m + 1, c => by
    rw [canF, canF, h.can m (c + 1), h.cnt, h.1]
    rfl
theorem ReL.least {q : Nat} {l' l : List ROW} {f g : Nat → Nat} (h : ReL q l' l) (t : Nat) (hf : ∀ j, j < l.length → f j = g j) : ∀ c, c ≤ l.length → lrow l' f t c = lrow l g t c
  | 0, _ => rfl
  | c + 1, hc => by
    have ih := h.least t hf c (by omega)
    rw [lrow, lrow, ih, h.ends]
    by_cases e : 1 ≤ c ∧ wEnd (rowAt l c) = t
    · rw [if_pos e, if_pos e]
      cases hb : lrow l g t c with
      | none => rfl
      | some b =>
        have := lrow_is c hb
        dsimp only
        rw [hf c (by omega), hf b (by omega)]
    · rw [if_neg e, if_neg e]
theorem ReL.fare {q : Nat} {l' l : List ROW} {f g : Nat → Nat} (h : ReL q l' l) (hf : ∀ r, f r = g (phi q r)) {j : Nat} (hj : j < l.length) : fareR l' f j = fareR l g j := by
  unfold fareR
  rw [(h.2 j hj).2.2.2.2, List.map_map]
  congr 1
  exact List.map_congr_left fun r _ => hf r
theorem pAt_drop {N : NET} {q mode c r x : Nat} : pAt (dropRd N q) mode c r x = pAt N mode c (phi q r) x := by
  unfold pAt
  rw [drop_rd, drop_tl]
  rfl
def ReS (q : Nat) (s' s : SST) : Prop := (∀ r, s'.1 r = s.1 (phi q r)) ∧ ∀ c j, s'.2 c j = s.2 c j
theorem ReL.has {q : Nat} {N : NET} {l' l : List ROW} (hO' : NetOK (dropRd N q)) (hO : NetOK N) (h' : WFr (dropRd N q) tA l') (hw : WFr N (without q) l) (h : ReL q l' l) (j r : Nat) : hasQ l' j r = hasQ l j (phi q r) := by
  by_cases c : j < l.length
  · have f1 := h'.fact hO' (j + 1) j _ (by omega) (rowAt_get (show j < l'.length by rw [h.1]; exact c))
    have f2 := hw.fact hO (j + 1) j _ (by omega) (rowAt_get c)
    have e := (h.2 j c).2.2.2.2
    have i1 : hasQ l' j r = true ↔ r ∈ wPath (rowAt l' j) := f1.2.1 r
    have i2 : hasQ l j (phi q r) = true ↔ phi q r ∈ wPath (rowAt l j) := f2.2.1 (phi q r)
    have i3 : phi q r ∈ wPath (rowAt l j) ↔ r ∈ wPath (rowAt l' j) := by
      rw [e, List.mem_map]
      constructor
      · rintro ⟨a, a1, a2⟩
        rw [← phi_inj a2]; exact a1
      · intro g
        exact ⟨r, g, rfl⟩
    rw [Bool.eq_iff_iff, i1, i2, i3]
  · unfold hasQ rowAt
    rw [List.getElem?_eq_none (by have := h.1; omega), List.getElem?_eq_none (by have := h.1; omega)]
    show (0 : Nat).testBit r = (0 : Nat).testBit (phi q r)
    rw [Nat.zero_testBit, Nat.zero_testBit]
