theorem sumN_upd {f g : Nat → Nat} {i : Nat} : ∀ k : Nat, i < k → (∀ j, j < k → j ≠ i → f j = g j) → sumN k f + g i = sumN k g + f i
  | 0, h, _ => absurd h (Nat.not_lt_zero _)
  | k + 1, h, hj => by
    rw [sumN, sumN]
    by_cases e : i = k
    · subst e
      rw [sumN_cong i (fun j h => hj j (by omega) (by omega))]
      omega
    · have := sumN_upd k (by omega) (fun j h1 h2 => hj j (by omega) h2)
      have := hj k (by omega) (by omega)
      omega
theorem sumN_zero : ∀ k : Nat, sumN k (fun _ => 0) = 0
  | 0 => rfl
  | k + 1 => by rw [sumN, sumN_zero k]
theorem sumN_mono {f g : Nat → Nat} : ∀ k : Nat, (∀ j, j < k → f j ≤ g j) → sumN k f ≤ sumN k g
  | 0, _ => Nat.le_refl _
  | k + 1, h => by
    have := sumN_mono k (fun j hj => h j (by omega))
    have := h k (by omega)
    rw [sumN, sumN]
    omega
theorem sumN_ge {f : Nat → Nat} {i : Nat} : ∀ k : Nat, i < k → f i ≤ sumN k f
  | 0, h => absurd h (Nat.not_lt_zero _)
  | k + 1, h => by
    rw [sumN]
    by_cases e : i = k
    · subst e; omega
    · have := sumN_ge (f := f) k (show i < k by omega)
      omega
/-- towns on a way: one more than its roads -/
def pc6 (tb : Nat) : Nat := sumN 6 fun t => if tb.testBit t = true then 1 else 0
theorem pc6_or {tb t : Nat} (ht : t < 6) (h : tb.testBit t = false) : pc6 (tb ||| 2 ^ t) = pc6 tb + 1 := by
  unfold pc6
  have := sumN_upd (f := fun u => if (tb ||| 2 ^ t).testBit u = true then 1 else 0) (g := fun u => if tb.testBit u = true then 1 else 0) 6 ht (fun j h1 h2 => by
    have e : (2 ^ t).testBit j = false := by rw [Nat.testBit_two_pow]; exact decide_eq_false (fun h => h2 h.symm)
    simp only [Nat.testBit_or, e, Bool.or_false])
  have e : (2 ^ t).testBit t = true := by rw [Nat.testBit_two_pow]; exact decide_eq_true rfl
  simp only [Nat.testBit_or, e, Bool.or_true, h, if_true, Bool.false_eq_true, if_false] at this
  simp only [Nat.testBit_or] at this ⊢
  omega
theorem pc6_le (tb : Nat) : pc6 tb ≤ 6 := by
  have := sumN_le (f := fun t => if tb.testBit t = true then 1 else 0) (b := 1) 6 (fun j _ => by split <;> omega)
  unfold pc6
  omega
/-- what each row's parts say of its roads -/
def RowF (N : NET) (r : ROW) : Prop := pc6 (wTb r) = wLen r + 1 ∧ (∀ q, (wRb r).testBit q = true ↔ q ∈ wPath r) ∧ (∀ q, q ∈ wPath r → q < nM N ∧ (wTb r).testBit (dTo (nRd N q)) = true) ∧ (wPath r).Nodup ∧ (wPath r).length = wLen r
theorem WFr.fact {N : NET} {A : Nat → Bool} {rows : List ROW} (h : WFr N A rows) (hO : NetOK N) : ∀ (m j : Nat) (r : ROW), j < m → rows[j]? = some r → RowF N r := by
  intro m
  induction m with
  | zero => intro j r hj; omega
  | succ m ih =>
    intro j r hj hr
    rcases h j r hr with ⟨_, h⟩ | ⟨r', h1, h2, h3, h4, h5⟩
    · rw [h]
      refine ⟨by decide, fun q => ?_, fun q hq => ?_, ?_, rfl⟩
      · show (0 : Nat).testBit q = true ↔ q ∈ ([] : List Nat)
        simp
      · cases hq
      · exact List.nodup_nil
    · obtain ⟨f1, f2, f3, f4, f5⟩ := ih (wPar r) r' (by omega) h2
      obtain ⟨g1, g2, g3⟩ := goesOn_iff.mp h5
      have ht := (hO.2.2.2.1 _ h4).1.2.2.2.2.2.2
      rw [h3]
      generalize wLast r = q at h4 g1 g2 g3 ht
      refine ⟨?_, fun p => ?_, fun p hp => ?_, ?_, ?_⟩
      · show pc6 (wTb r' ||| 2 ^ dTo (nRd N q)) = wLen r' + 1 + 1
        rw [pc6_or ht g3, f1]
      · show (wRb r' ||| 2 ^ q).testBit p = true ↔ p ∈ wPath r' ++ [q]
        rw [Nat.testBit_or, Nat.testBit_two_pow, Bool.or_eq_true, f2, List.mem_append, List.mem_singleton, decide_eq_true_iff]
        exact ⟨fun h => h.imp id Eq.symm, fun h => h.imp id Eq.symm⟩
      · have hp : p ∈ wPath r' ++ [q] := hp
        show _ ∧ (wTb r' ||| 2 ^ dTo (nRd N q)).testBit (dTo (nRd N p)) = true
        rw [Nat.testBit_or]
        rcases List.mem_append.mp hp with h | h
        · exact ⟨(f3 p h).1, by rw [(f3 p h).2]; rfl⟩
        · rw [List.mem_singleton.mp h]
          refine ⟨h4, ?_⟩
          rw [Nat.testBit_two_pow, decide_eq_true rfl, Bool.or_true]
      · show (wPath r' ++ [q]).Nodup
        rw [List.nodup_append]
        refine ⟨f4, (by simp), fun a ha b hb e => ?_⟩
        rw [List.mem_singleton.mp hb] at e
        have := (f3 a ha).2
        rw [e, g3] at this
        cases this
      · show (wPath r' ++ [q]).length = wLen r' + 1
        rw [List.length_append, f5]
        rfl
theorem RowF.len {N : NET} {r : ROW} (h : RowF N r) : wLen r ≤ 5 := by
  have := pc6_le (wTb r)
  have := h.1
  omega
/-- what a way costs, road by road -/
def fareR (rows : List ROW) (g : Nat → Nat) (j : Nat) : Nat := ((wPath (rowAt rows j)).map g).sum
theorem sum_le {g : Nat → Nat} {b : Nat} : ∀ l : List Nat, (∀ q, q ∈ l → g q ≤ b) → (l.map g).sum ≤ l.length * b
  | [], _ => Nat.zero_le _
  | a :: l, h => by
    have h1 := sum_le l (fun q hq => h q (List.mem_cons_of_mem _ hq))
    have h2 := h a List.mem_cons_self
    rw [List.map_cons, List.sum_cons, List.length_cons, Nat.succ_mul]
    omega
theorem WFr.fare {N : NET} {A : Nat → Bool} {rows : List ROW} (h : WFr N A rows) (g : Nat → Nat) {j : Nat} (h1 : 1 ≤ j) (hj : j < rows.length) : fareR rows g j = fareR rows g (wPar (rowAt rows j)) + g (wLast (rowAt rows j)) := by
  obtain ⟨g1, g2, g3, g4⟩ := h.par hj h1
  have hpp : wPath (rowAt rows j) = wPath (rowAt rows (wPar (rowAt rows j))) ++ [wLast (rowAt rows j)] := congrArg wPath g2
  unfold fareR
  rw [hpp, List.map_append, List.sum_append]
  simp
theorem WFr.fare0 {N : NET} {A : Nat → Bool} {rows : List ROW} (h : WFr N A rows) (g : Nat → Nat) (hj : 0 < rows.length) : fareR rows g 0 = 0 := by
  unfold fareR
  rw [h.zero hj]
  rfl
/-- prices stay far inside a long -/
def PB : Nat := 1100000000000000000
theorem PB_eq : PB = 1100000000000000000 := rfl
theorem mul_le9 {a b c : Nat} (h1 : a ≤ 9) (h2 : b ≤ c) : a * b ≤ 9 * c := Nat.mul_le_mul h1 h2
theorem pAt_le {N : NET} {mode c r x : Nat} (hO : NetOK N) (hc : c < 3) (hr : r < nM N) (hx : x ≤ 37) : pAt N mode c r x ≤ PB := by
  obtain ⟨o1, o2, o3, o4, o5⟩ := hO
  obtain ⟨⟨k1, k2, k3, k4, k5, k6, k7⟩, _, _, _, k8⟩ := o4 r hr
  obtain ⟨c1, c2, c3, c4, c5, c6⟩ := o5 c hc
  have a1 : dSlope (nRd N r) * x ≤ 100000000000000 * 37 := Nat.mul_le_mul k3 hx
  have a2 : dSteep (nRd N r) * (x - dKnee (nRd N r)) ≤ 100000000000000 * 37 := Nat.mul_le_mul k4 (by omega)
  have a3 : rCost (nRd N r) x ≤ 107400000000000000 := by
    unfold rCost
    split <;> split <;> omega
  have a4 : rGrow (nRd N r) x ≤ 200000000000000 := by
    unfold rGrow
    split <;> split <;> omega
  have a5 : rLoss (nRd N r) x ≤ 36 * 200000000000000 := Nat.mul_le_mul (by omega) a4
  have a6 : nC N c 2 * (rCost (nRd N r) x + (if mode = 2 then rLoss (nRd N r) x else 0)) ≤ 9 * 114600000000000000 := mul_le9 c5 (by split <;> omega)
  have a7 : nC N c 3 * nTl N r ≤ 9 * 1000000000 := mul_le9 c6 k8
  have a8 : (if mode = 1 then nC N c 3 * nTl N r else 0) ≤ 9 * 1000000000 := by split <;> omega
  rw [PB_eq]
  unfold pAt
  omega
theorem WFr.fare_le {N : NET} {A : Nat → Bool} {rows : List ROW} (h : WFr N A rows) (hO : NetOK N) {g : Nat → Nat} (hg : ∀ q, q < nM N → g q ≤ PB) {j : Nat} (hj : j < rows.length) : fareR rows g j ≤ 5500000000000000000 := by
  have hf := h.fact hO (j + 1) j _ (by omega) (rowAt_get hj)
  have h1 := sum_le (g := g) (b := PB) (wPath (rowAt rows j)) (fun q hq => hg q (hf.2.2.1 q hq).1)
  have h2 := hf.2.2.2.2
  have h3 := hf.len
  have h4 : (wPath (rowAt rows j)).length * PB ≤ 5 * PB := Nat.mul_le_mul_right _ (by omega)
  rw [PB_eq] at h1 h4
  unfold fareR
  omega
theorem lrow_some {rows : List ROW} {fr : Nat → Nat} {t : Nat} : ∀ c : Nat, 0 < cntTo rows t c → ∃ b, lrow rows fr t c = some b
  | 0, h => by simp [cntTo] at h
  | c + 1, h => by
    rw [cntTo] at h
    rw [lrow]
    by_cases e : 1 ≤ c ∧ wEnd (rowAt rows c) = t
    · rw [if_pos e]
      cases q : lrow rows fr t c with
      | none => exact ⟨c, rfl⟩
      | some b =>
        by_cases e2 : fr c < fr b
        · exact ⟨c, by simp only [if_pos e2]⟩
        · exact ⟨b, by simp only [if_neg e2]⟩
    · rw [if_neg e] at h ⊢
      exact lrow_some c h
abbrev SST : Type := (Nat → Nat) × (Nat → Nat → Nat)
def hasQ (rows : List ROW) (j q : Nat) : Bool := (wRb (rowAt rows j)).testBit q
def addR (rows : List ROW) (s : SST) (c j : Nat) : SST := (fun q => if hasQ rows j q = true then s.1 q + 1 else s.1 q, fun a b => if a = c ∧ b = j then s.2 c j + 1 else s.2 a b)
def subR (rows : List ROW) (s : SST) (c j : Nat) : SST := (fun q => if hasQ rows j q = true then s.1 q - 1 else s.1 q, fun a b => if a = c ∧ b = j then s.2 c j - 1 else s.2 a b)
def S2 (rows : List ROW) (rd : Nat → Nat → Nat) (g : Nat → Nat) : Nat := sumN 3 fun c => sumN rows.length fun j => rd c j * g j
theorem S2_upd {rows : List ROW} {rd rd' : Nat → Nat → Nat} {g : Nat → Nat} {c j : Nat} (hc : c < 3) (hj : j < rows.length) (h : ∀ a b, ¬ (a = c ∧ b = j) → rd' a b = rd a b) : S2 rows rd' g + rd c j * g j = S2 rows rd g + rd' c j * g j := by
  unfold S2
  have h1 := sumN_upd (f := fun j => rd' c j * g j) (g := fun j => rd c j * g j) rows.length hj (fun b _ hb => by rw [h c b (fun e => hb e.2)])
  have h2 := sumN_upd (f := fun c => sumN rows.length fun j => rd' c j * g j) (g := fun c => sumN rows.length fun j => rd c j * g j) 3 hc (fun a _ ha => sumN_cong _ (fun b _ => by rw [h a b (fun e => ha e.1)]))
  omega
/-- loads are what the riders make -/
def SInv (N : NET) (rows : List ROW) (s : SST) (D : Nat) : Prop := (∀ q, s.1 q = S2 rows s.2 fun j => if hasQ rows j q = true then 1 else 0) ∧ S2 rows s.2 (fun _ => 1) = D ∧ ∀ c j, c < 3 → j < 211 → 0 < s.2 c j → 1 ≤ j ∧ j < rows.length ∧ wEnd (rowAt rows j) = nC N c 0
theorem SInv.le {N : NET} {rows : List ROW} {s : SST} {D : Nat} (h : SInv N rows s D) (q : Nat) : s.1 q ≤ D := by
  rw [h.1 q, ← h.2.1]
  unfold S2
  exact sumN_mono _ fun c _ => sumN_mono _ fun j _ => Nat.mul_le_mul_left _ (by show (if hasQ rows j q = true then 1 else 0) ≤ 1; split <;> omega)
theorem SInv.add {N : NET} {rows : List ROW} {s : SST} {D c j : Nat} (h : SInv N rows s D) (hc : c < 3) (h1 : 1 ≤ j) (hj : j < rows.length) (he : wEnd (rowAt rows j) = nC N c 0) : SInv N rows (addR rows s c j) (D + 1) := by
  obtain ⟨i1, i2, i3⟩ := h
  have hne : ∀ a b, ¬ (a = c ∧ b = j) → (addR rows s c j).2 a b = s.2 a b := fun a b h => if_neg h
  have heq : (addR rows s c j).2 c j = s.2 c j + 1 := if_pos ⟨rfl, rfl⟩
  refine ⟨fun q => ?_, ?_, fun a b ha hb hp => ?_⟩
  · have := S2_upd (rd := s.2) (rd' := (addR rows s c j).2) (g := fun j => if hasQ rows j q = true then 1 else 0) hc hj hne
    have h2 := i1 q
    rw [heq] at this
    show (if hasQ rows j q = true then s.1 q + 1 else s.1 q) = _
    by_cases e : hasQ rows j q = true
    · simp only [if_pos e] at this ⊢; omega
    · simp only [if_neg e] at this ⊢; omega
  · have := S2_upd (rd := s.2) (rd' := (addR rows s c j).2) (g := fun _ => 1) hc hj hne
    rw [heq] at this
    omega
  · by_cases e : a = c ∧ b = j
    · rw [e.1, e.2]; exact ⟨h1, hj, he⟩
    · rw [hne a b e] at hp; exact i3 a b ha hb hp
theorem SInv.sub {N : NET} {rows : List ROW} {s : SST} {D c j : Nat} (h : SInv N rows s (D + 1)) (hc : c < 3) (hj : j < rows.length) (hp : 0 < s.2 c j) : SInv N rows (subR rows s c j) D ∧ ∀ q, hasQ rows j q = true → 0 < s.1 q := by
  obtain ⟨i1, i2, i3⟩ := h
  have hne : ∀ a b, ¬ (a = c ∧ b = j) → (subR rows s c j).2 a b = s.2 a b := fun a b h => if_neg h
  have heq : (subR rows s c j).2 c j = s.2 c j - 1 := if_pos ⟨rfl, rfl⟩
  refine ⟨⟨fun q => ?_, ?_, fun a b ha hb hp => ?_⟩, fun q hq => ?_⟩
  · have := S2_upd (rd := s.2) (rd' := (subR rows s c j).2) (g := fun j => if hasQ rows j q = true then 1 else 0) hc hj hne
    have h2 := i1 q
    rw [heq] at this
    show (if hasQ rows j q = true then s.1 q - 1 else s.1 q) = _
    by_cases e : hasQ rows j q = true
    · simp only [if_pos e] at this ⊢; omega
    · simp only [if_neg e] at this ⊢; omega
  · have := S2_upd (rd := s.2) (rd' := (subR rows s c j).2) (g := fun _ => 1) hc hj hne
    rw [heq] at this
    omega
  · by_cases e : a = c ∧ b = j
    · rw [e.1, e.2, heq] at hp
      rw [e.1, e.2]
      exact i3 c j hc (by rw [← e.2]; exact hb) (by omega)
    · rw [hne a b e] at hp; exact i3 a b ha hb hp
  · have := S2_upd (rd := s.2) (rd' := (subR rows s c j).2) (g := fun j => if hasQ rows j q = true then 1 else 0) hc hj hne
    have h2 := i1 q
    rw [heq] at this
    simp only [if_pos hq] at this
    omega
