/-! heaps as lists of new cells -/
def ap (h : AH) (l : List ae) : AH := (h.1 + l.length, fun q => if h.1 ≤ q ∧ q < h.1 + l.length then l[q - h.1]? else h.2 q)
theorem ap_fst (h : AH) (l : List ae) : (ap h l).1 = h.1 + l.length := rfl
theorem ap_one (h : AH) (e : ae) : hnew h e = ap h [e] := by
  refine Prod.ext rfl (funext fun q => ?_)
  show (if q = h.1 then some e else h.2 q) = if h.1 ≤ q ∧ q < h.1 + 1 then [e][q - h.1]? else h.2 q
  by_cases c : q = h.1
  · subst c
    rw [if_pos rfl, if_pos (by omega), Nat.sub_self]
    rfl
  · rw [if_neg c, if_neg (by omega)]
theorem ap_ap (h : AH) (l m : List ae) : ap (ap h l) m = ap h (l ++ m) := by
  refine Prod.ext (by show h.1 + l.length + m.length = h.1 + (l ++ m).length; rw [List.length_append]; omega) (funext fun q => ?_)
  show (if h.1 + l.length ≤ q ∧ q < h.1 + l.length + m.length then m[q - (h.1 + l.length)]? else if h.1 ≤ q ∧ q < h.1 + l.length then l[q - h.1]? else h.2 q) = if h.1 ≤ q ∧ q < h.1 + (l ++ m).length then (l ++ m)[q - h.1]? else h.2 q
  rw [List.length_append]
  by_cases c : h.1 + l.length ≤ q ∧ q < h.1 + l.length + m.length
  · rw [if_pos c, if_pos (by omega), List.getElem?_append_right (by omega)]
    congr 1
    omega
  · rw [if_neg c]
    by_cases d : h.1 ≤ q ∧ q < h.1 + l.length
    · rw [if_pos d, if_pos (by omega), List.getElem?_append_left (by omega)]
    · rw [if_neg d, if_neg (by omega)]
theorem ap_new (h : AH) (l : List ae) (e : ae) : hnew (ap h l) e = ap h (l ++ [e]) := by rw [ap_one, ap_ap]
theorem ap_at {h : AH} {l : List ae} {k : Nat} {c : ae} (hk : l[k]? = some c) : (ap h l).2 (h.1 + k) = some c := by
  have hl := (List.getElem?_eq_some_iff.mp hk).1
  show (if h.1 ≤ h.1 + k ∧ h.1 + k < h.1 + l.length then l[h.1 + k - h.1]? else h.2 (h.1 + k)) = _
  rw [if_pos (by omega), Nat.add_sub_cancel_left, hk]
theorem ap_up {h : AH} {l : List ae} {k : Nat} {e : ae} (hk : k < l.length) : hup (ap h l) (h.1 + k) e = ap h (l.set k e) := by
  refine Prod.ext (by show h.1 + l.length = h.1 + (l.set k e).length; rw [List.length_set]) (funext fun q => ?_)
  show (if q = h.1 + k then some e else if h.1 ≤ q ∧ q < h.1 + l.length then l[q - h.1]? else h.2 q) = if h.1 ≤ q ∧ q < h.1 + (l.set k e).length then (l.set k e)[q - h.1]? else h.2 q
  rw [List.length_set]
  by_cases c : q = h.1 + k
  · subst c
    rw [if_pos rfl, if_pos (by omega), Nat.add_sub_cancel_left, List.getElem?_set_self hk]
  · rw [if_neg c]
    by_cases d : h.1 ≤ q ∧ q < h.1 + l.length
    · rw [if_pos d, if_pos d, List.getElem?_set_ne (by omega)]
    · rw [if_neg d, if_neg d]
theorem ap_lt {l : List ae} {k : Nat} {c : ae} (hk : l[k]? = some c) : k < l.length := (List.getElem?_eq_some_iff.mp hk).1
theorem ap_pV {h : AH} {l : List ae} {a k ci i : Nat} {v : Value} {fs : List Value} (ha : a = h.1 + k) (hk : l[k]? = some (.inr (ci, fs))) (hi : i < fs.length) : pV (ap h l) a ci i v = some (ap h (l.set k (.inr (ci, fs.set i v)))) := by
  subst ha
  unfold pV
  rw [ap_at hk]
  show (if ci = ci ∧ i < fs.length then some (hup (ap h l) (h.1 + k) (.inr (ci, fs.set i v))) else none) = _
  rw [if_pos ⟨rfl, hi⟩, ap_up (ap_lt hk)]
theorem ap_gR {h : AH} {l : List ae} {a k ci i x : Nat} {fs : List Value} (ha : a = h.1 + k) (hk : l[k]? = some (.inr (ci, fs))) (hi : fs[i]? = some (.ref x)) : gR (ap h l) a ci i = some x := by
  subst ha
  unfold gR gV
  rw [ap_at hk]
  show vR (if ci = ci then fs[i]? else none) = _
  rw [if_pos rfl, hi]
  rfl
theorem ap_sI {h : AH} {l : List ae} {a k len : Nat} {i x : Int32} {f : Nat → Int32} {j : Nat} (ha : a = h.1 + k) (hk : l[k]? = some (.inl (0, len, .inl f))) (hi : i = nI j) (hj : j < len) (hl : len < 100000) : sI (ap h l) a i x = some (ap h (l.set k (.inl (0, len, .inl (upd f j x))))) := by
  subst ha
  subst hi
  unfold sI
  rw [ap_at hk]
  show (if 0 = 0 ∧ ¬ (nI j < 0 ∨ len ≤ (nI j).toNatClampNeg) then some (hup (ap h l) (h.1 + k) (.inl (0, len, .inl (upd f (nI j).toNatClampNeg x)))) else none) = _
  rw [nI_clamp (by omega), if_pos ⟨rfl, fun q => q.elim (nI_pos (by omega)) (by omega)⟩, ap_up (ap_lt hk)]
theorem ap_sL {h : AH} {l : List ae} {a k len : Nat} {i : Int32} {x : Int64} {f : Nat → Int64} {j : Nat} (ha : a = h.1 + k) (hk : l[k]? = some (.inl (1, len, .inr (.inl f)))) (hi : i = nI j) (hj : j < len) (hl : len < 100000) : sL (ap h l) a i x = some (ap h (l.set k (.inl (1, len, .inr (.inl (vp_updL f j x)))))) := by
  subst ha
  subst hi
  unfold sL
  rw [ap_at hk]
  show (if 1 = 1 ∧ ¬ (nI j < 0 ∨ len ≤ (nI j).toNatClampNeg) then some (hup (ap h l) (h.1 + k) (.inl (1, len, .inr (.inl (vp_updL f (nI j).toNatClampNeg x))))) else none) = _
  rw [nI_clamp (by omega), if_pos ⟨rfl, fun q => q.elim (nI_pos (by omega)) (by omega)⟩, ap_up (ap_lt hk)]
theorem ap_aR {h : AH} {l : List ae} {a k len kd x : Nat} {i : Int32} {f : Nat → Option Nat} {j : Nat} (ha : a = h.1 + k) (hk : l[k]? = some (.inl (kd, len, .inr (.inr (.inr (.inr f)))))) (hi : i = nI j) (hj : j < len) (hl : len < 100000) (hx : f j = some x) : aR (ap h l) a kd i = some x := by
  subst ha
  subst hi
  unfold aR aQ
  rw [ap_at hk]
  show Option.bind (if kd = kd ∧ ¬ (nI j < 0 ∨ len ≤ (nI j).toNatClampNeg) then some (f (nI j).toNatClampNeg) else none) id = _
  rw [nI_clamp (by omega), if_pos ⟨rfl, fun q => q.elim (nI_pos (by omega)) (by omega)⟩, hx]
  rfl
theorem ap_ck {h : AH} {l : List ae} {a k ci : Nat} {fs : List Value} (ha : a = h.1 + k) (hk : l[k]? = some (.inr (ci, fs))) : ckO (ap h l) a ci = true := by
  subst ha
  unfold ckO
  rw [ap_at hk]
  exact beq_self_eq_true ci
theorem ap_sQ {h : AH} {l : List ae} {a k len kd v : Nat} {i : Int32} {f : Nat → Option Nat} {j : Nat} (ha : a = h.1 + k) (hk : l[k]? = some (.inl (kd, len, .inr (.inr (.inr (.inr f)))))) (hi : i = nI j) (hj : j < len) (hl : len < 100000) (hc : ckO (ap h l) v (kdC kd) = true) : sQ (ap h l) a kd i (some v) = some (ap h (l.set k (.inl (kd, len, .inr (.inr (.inr (.inr (va_up f j (some v))))))))) := by
  subst ha
  subst hi
  unfold sQ
  rw [ap_at hk]
  show (if (kd = kd ∧ ¬ (nI j < 0 ∨ len ≤ (nI j).toNatClampNeg)) ∧ ckO (ap h l) v (kdC kd) = true then some (hup (ap h l) (h.1 + k) (.inl (kd, len, .inr (.inr (.inr (.inr (va_up f (nI j).toNatClampNeg (some v)))))))) else none) = _
  rw [nI_clamp (by omega), if_pos ⟨⟨rfl, fun q => q.elim (nI_pos (by omega)) (by omega)⟩, hc⟩, ap_up (ap_lt hk)]
def gridC (b N M : Nat) : List ae := .inl (3, N, .inr (.inr (.inr (.inr (fun i => if i < N then some (b + 1 + i) else none))))) :: List.replicate N (.inl (0, M, .inl (fun _ => 0)))
theorem ap_grid (h : AH) (N M : Nat) : hgrid h N M = ap h (gridC h.1 N M) := by
  have hlen : (gridC h.1 N M).length = N + 1 := by unfold gridC; rw [List.length_cons, List.length_replicate]
  refine Prod.ext (by show h.1 + 1 + N = h.1 + (gridC h.1 N M).length; rw [hlen]; omega) (funext fun q => ?_)
  show (if q = h.1 then _ else if h.1 < q ∧ q ≤ h.1 + N then some _ else h.2 q) = if h.1 ≤ q ∧ q < h.1 + (gridC h.1 N M).length then (gridC h.1 N M)[q - h.1]? else h.2 q
  rw [hlen]
  by_cases c : q = h.1
  · subst c
    rw [if_pos rfl, if_pos (by omega), Nat.sub_self]
    rfl
  · rw [if_neg c]
    by_cases d : h.1 < q ∧ q ≤ h.1 + N
    · rw [if_pos d, if_pos (by omega)]
      obtain ⟨j, hj⟩ : ∃ j, q - h.1 = j + 1 := ⟨q - h.1 - 1, by omega⟩
      rw [hj]
      unfold gridC
      rw [List.getElem?_cons_succ, List.getElem?_replicate, if_pos (by omega)]
    · rw [if_neg d, if_neg (by omega)]
theorem ap_gridA (h : AH) (l : List ae) (N M : Nat) : hgrid (ap h l) N M = ap h (l ++ gridC (h.1 + l.length) N M) := by rw [ap_grid, ap_ap, ap_fst]
