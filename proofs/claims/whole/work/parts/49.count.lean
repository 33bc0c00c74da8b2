/-! how many ways there are at most -/
def hT (m : Nat) : Nat := ([0, 1, 2, 4, 6, 10, 15, 22, 33, 48, 69, 102, 147, 210][m]?).getD 0
theorem hT_ok : ∀ m, m < 14 → ∀ d, d < 14 → d ≤ m → d * (1 + hT (m - d)) ≤ hT m := by decide
def uN (N : NET) (r : ROW) : Nat := sumN (nM N) fun q => if (wTb r).testBit (dFrom (nRd N q)) = false ∨ dFrom (nRd N q) = wEnd r then 1 else 0
def dN (N : NET) (r : ROW) (k : Nat) : Nat := sumN k fun q => if dFrom (nRd N q) = wEnd r then 1 else 0
def wN0 (N : NET) (r : ROW) : Nat := 1 + hT (uN N r)
theorem sumN_add2 {f g h : Nat → Nat} : ∀ k : Nat, (∀ j, j < k → f j + g j = h j) → sumN k f + sumN k g = sumN k h
  | 0, _ => rfl
  | k + 1, e => by
    have h1 := sumN_add2 k (fun j hj => e j (by omega))
    have h2 := e k (by omega)
    rw [sumN, sumN, sumN]
    omega
theorem u_child {N : NET} {A : Nat → Bool} {i q : Nat} {r : ROW} (hE : (wTb r).testBit (wEnd r) = true) (hg : goesOn N A r q = true) : uN N (newRow N i r q) + dN N r (nM N) = uN N r := by
  obtain ⟨_, _, g3⟩ := goesOn_iff.mp hg
  refine sumN_add2 _ fun p _ => ?_
  have e : (wTb (newRow N i r q)).testBit (dFrom (nRd N p)) = ((wTb r).testBit (dFrom (nRd N p)) || decide (dTo (nRd N q) = dFrom (nRd N p))) := by
    show (wTb r ||| 2 ^ dTo (nRd N q)).testBit (dFrom (nRd N p)) = _
    rw [Nat.testBit_or, Nat.testBit_two_pow]
  have e2 : wEnd (newRow N i r q) = dTo (nRd N q) := rfl
  rw [e, e2]
  by_cases c1 : dFrom (nRd N p) = wEnd r
  · have c2 : dTo (nRd N q) ≠ dFrom (nRd N p) := fun h => by rw [h, c1, hE] at g3; cases g3
    rw [if_pos c1, if_pos (Or.inr c1), if_neg]
    rw [c1, hE]
    intro h
    rcases h with h | h
    · simp at h
    · exact c2 (by rw [c1, h])
  · rw [if_neg c1]
    by_cases c2 : dFrom (nRd N p) = dTo (nRd N q)
    · rw [if_pos (Or.inr c2), if_pos (Or.inl (by rw [c2]; exact g3))]
    · have c3 : decide (dTo (nRd N q) = dFrom (nRd N p)) = false := decide_eq_false (fun h => c2 h.symm)
      rw [c3, Bool.or_false]
      by_cases c4 : (wTb r).testBit (dFrom (nRd N p)) = false
      · rw [if_pos (Or.inl c4), if_pos (Or.inl c4)]
      · rw [if_neg (fun h => h.elim c4 c2), if_neg (fun h => h.elim c4 c1)]
theorem ext_sum {N : NET} {A : Nat → Bool} {i : Nat} {r : ROW} (hE : (wTb r).testBit (wEnd r) = true) : ∀ k, ((extTo N A i r k).map (wN0 N)).sum ≤ dN N r k * (1 + hT (uN N r - dN N r (nM N)))
  | 0 => Nat.zero_le _
  | k + 1 => by
    have ih := ext_sum (N := N) (A := A) (i := i) hE k
    have e : dN N r (k + 1) = dN N r k + (if dFrom (nRd N k) = wEnd r then 1 else 0) := rfl
    rw [extTo, List.map_append, List.sum_append, e, Nat.add_mul]
    by_cases c : goesOn N A r k = true
    · have hu := u_child (i := i) hE c
      rw [if_pos c, if_pos (goesOn_iff.mp c).2.1, Nat.one_mul]
      have e2 : ((List.map (wN0 N) [newRow N i r k]).sum) = 1 + hT (uN N r - dN N r (nM N)) := by
        show wN0 N (newRow N i r k) + 0 = _
        unfold wN0
        rw [show uN N (newRow N i r k) = uN N r - dN N r (nM N) by omega]
        rfl
      omega
    · rw [if_neg c]
      have e2 : (List.map (wN0 N) ([] : List ROW)).sum = 0 := rfl
      omega
theorem u_le {N : NET} (r : ROW) (hm : nM N ≤ 13) : uN N r ≤ 13 := by
  have h := sumN_le (f := fun q => if (wTb r).testBit (dFrom (nRd N q)) = false ∨ dFrom (nRd N q) = wEnd r then 1 else 0) (b := 1) (nM N) (fun j _ => by
    by_cases c : (wTb r).testBit (dFrom (nRd N j)) = false ∨ dFrom (nRd N j) = wEnd r
    · simp only [if_pos c]; exact Nat.le_refl _
    · simp only [if_neg c]; exact Nat.zero_le _)
  unfold uN
  omega
theorem d_le {N : NET} (r : ROW) : dN N r (nM N) ≤ uN N r := by
  have : ∀ k, dN N r k ≤ sumN k fun q => if (wTb r).testBit (dFrom (nRd N q)) = false ∨ dFrom (nRd N q) = wEnd r then 1 else 0 := fun k => by
    induction k with
    | zero => exact Nat.le_refl _
    | succ k ih =>
      have e : dN N r (k + 1) = dN N r k + (if dFrom (nRd N k) = wEnd r then 1 else 0) := rfl
      rw [e, sumN]
      by_cases c : dFrom (nRd N k) = wEnd r
      · rw [if_pos c, if_pos (Or.inr c)]; omega
      · rw [if_neg c]; omega
  exact this _
theorem ext_end {N : NET} {A : Nat → Bool} {i : Nat} {r s : ROW} : ∀ k, s ∈ extTo N A i r k → (wTb s).testBit (wEnd s) = true
  | 0, h => by cases h
  | k + 1, h => by
    rw [extTo] at h
    rcases List.mem_append.mp h with h | h
    · exact ext_end k h
    · by_cases c : goesOn N A r k = true
      · rw [if_pos c] at h
        rw [List.mem_singleton.mp h]
        show (wTb r ||| 2 ^ dTo (nRd N k)).testBit (dTo (nRd N k)) = true
        rw [Nat.testBit_or, Nat.testBit_two_pow_self, Bool.or_true]
      · rw [if_neg c] at h; cases h
theorem len_sum {N : NET} : ∀ l : List ROW, l.length ≤ (l.map (wN0 N)).sum
  | [] => Nat.le_refl _
  | a :: l => by
    have h := len_sum (N := N) l
    rw [List.map_cons, List.sum_cons, List.length_cons]
    unfold wN0 at *
    omega
theorem bfs_le {N : NET} {A : Nat → Bool} (hm : nM N ≤ 13) : ∀ (f i : Nat) (rows : List ROW), i ≤ rows.length → (∀ s, s ∈ rows → (wTb s).testBit (wEnd s) = true) → i + ((rows.drop i).map (wN0 N)).sum ≤ 211 → (bfs N A f i rows).length ≤ 211 := by
  have fin : ∀ (i : Nat) (rows : List ROW), i ≤ rows.length → i + ((rows.drop i).map (wN0 N)).sum ≤ 211 → rows.length ≤ 211 := fun i rows h1 h2 => by
    have := len_sum (N := N) (rows.drop i)
    rw [List.length_drop] at this
    omega
  intro f
  induction f with
  | zero => intro i rows h1 _ h3; exact fin i rows h1 h3
  | succ f ih =>
    intro i rows h1 h2 h3
    rw [bfs]
    cases e : rows[i]? with
    | none => exact fin i rows h1 h3
    | some r =>
      obtain ⟨hi, hri⟩ := List.getElem?_eq_some_iff.mp e
      have hr : r ∈ rows := by rw [← hri]; exact List.getElem_mem hi
      refine ih (i + 1) _ (by rw [List.length_append]; omega) (fun s hs => ?_) ?_
      · rcases List.mem_append.mp hs with h | h
        · exact h2 s h
        · exact ext_end _ h
      · have hd : rows.drop i = r :: rows.drop (i + 1) := by rw [List.drop_eq_getElem_cons hi, hri]
        rw [hd, List.map_cons, List.sum_cons] at h3
        rw [List.drop_append_of_le_length (by omega), List.map_append, List.sum_append]
        have k1 := ext_sum (N := N) (A := A) (i := i) (h2 r hr) (nM N)
        have k2 := hT_ok (uN N r) (by have := u_le (N := N) r hm; omega) (dN N r (nM N)) (by have := u_le (N := N) r hm; have := d_le (N := N) r; omega) (d_le r)
        have k3 : wN0 N r = 1 + hT (uN N r) := rfl
        omega
theorem rows_le {N : NET} {A : Nat → Bool} (hO : NetOK N) : (rowsOf N A).length ≤ 211 := by
  refine bfs_le hO.2.2.1 211 0 [row0] (Nat.zero_le _) (fun s hs => by rw [List.mem_singleton.mp hs]; rfl) ?_
  have h := u_le (N := N) row0 hO.2.2.1
  have h2 : ∀ m, m ≤ 13 → hT m ≤ 210 := by decide
  have h3 := h2 _ h
  show 0 + (wN0 N row0 + 0) ≤ 211
  unfold wN0
  omega
