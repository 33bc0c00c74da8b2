theorem cpy4 (f g : Nat → Int32) : ∀ j, va_cpy f g 0 0 4 j = if j < 4 then f j else g j := by
  intro j
  unfold va_cpy
  by_cases h : j < 4
  · simp [h]
  · simp [h]
theorem mk_cpI {B n : Nat} {I : Nat → Nat → Int32} {L : Nat → Nat → Int64} {Q : Nat → Nat → Option Nat} {R : Nat → RDt} {k0 k1 : Nat} (h0 : (celf B)[k0]? = some (fun I _ _ => .inl (0, 4, .inl I))) (h1 : (celf B)[k1]? = some (fun I _ _ => .inl (0, 4, .inl I))) : cpI (MK B n I L Q R) (B + k0) 0 (B + k1) 0 4 = some (MK B n (fun k j => if k = k1 then (if j < 4 then I k0 j else I k1 j) else I k j) L Q R) := by
  unfold cpI
  rw [mk_at h0, mk_at h1]
  show (if (0 = 0 ∧ 0 = 0) ∧ (¬ (0 : Int32) < 0 ∧ ¬ (0 : Int32) < 0 ∧ ¬ (4 : Int32) < 0) ∧ (0 : Int32).toNatClampNeg + (4 : Int32).toNatClampNeg ≤ 4 ∧ (0 : Int32).toNatClampNeg + (4 : Int32).toNatClampNeg ≤ 4 then some (hup (MK B n I L Q R) (B + k1) (.inl (0, 4, .inl (va_cpy (I k0) (I k1) (0 : Int32).toNatClampNeg (0 : Int32).toNatClampNeg (4 : Int32).toNatClampNeg)))) else none) = _
  rw [if_pos (by decide), mk_up (I' := fun k j => if k = k1 then (if j < 4 then I k0 j else I k1 j) else I k j) h1 (fun q hq => funext fun j => if_neg hq) (fun _ _ => rfl) (fun _ _ => rfl)]
  show (Sum.inl (0, 4, Sum.inl (va_cpy (I k0) (I k1) 0 0 4)) : ae) = Sum.inl (0, 4, Sum.inl (fun j => if k1 = k1 then (if j < 4 then I k0 j else I k1 j) else I k1 j))
  refine congrArg (fun f => (Sum.inl (0, 4, Sum.inl f) : ae)) (funext fun j => ?_)
  rw [cpy4, if_pos rfl]
theorem cp_crowd {B n : Nat} {I : Nat → Nat → Int32} {L : Nat → Nat → Int64} {Q : Nat → Nat → Option Nat} {R : Nat → RDt} {x y c : Nat} (hx : isN x) (hy : isN y) (hc : c < 3) : cpI (MK B n I L Q R) (B + (y + (4 + c))) 0 (B + (x + (4 + c))) 0 4 = some (MK B n (fun k j => if k = x + (4 + c) then (if j < 4 then I (y + (4 + c)) j else I (x + (4 + c)) j) else I k j) L Q R) := by
  obtain h | h | h : c = 0 ∨ c = 1 ∨ c = 2 := by omega
  all_goals subst h
  all_goals rcases hx with h | h | h <;> subst h <;> rcases hy with h | h | h <;> subst h <;> exact mk_cpI rfl rfl
def putRd (N : NET) (d : RD) : NET := (nT N, nM N + 1, fun r => if r = nM N then d else nRd N r, fun r => if r = nM N then 0 else nTl N r, nC N)
theorem e_append {B n : Nat} {I : Nat → Nat → Int32} {L : Nat → Nat → Int64} {Q : Nat → Nat → Option Nat} {R : Nat → RDt} {x a : Nat} {N : NET} {d : RD} (hx : isN x) (hN : NetIs B n I L Q R x N) (hm : nM N < 13) (hv : VA B n a) (hr : rda B R a = rdI d) : fX1_append (B + x) a (MK B n I L Q R) = some (MK B n (u2 I x 1 (nI (nM N + 1))) (u2 L (x + 2) (nM N) (lN 0)) (u2 Q (x + 1) (nM N) (some a)) R) ∧ NetIs B n (u2 I x 1 (nI (nM N + 1))) (u2 L (x + 2) (nM N) (lN 0)) (u2 Q (x + 1) (nM N) (some a)) R x (putRd N d) := by
  obtain ⟨hT, hM, hQ, hR, hL, hC⟩ := hN
  have had : ∀ r, adr (u2 Q (x + 1) (nM N) (some a)) x r = if r = nM N then a else adr Q x r := by
    intro r
    unfold adr
    by_cases e : r = nM N
    · rw [if_pos e, e, u2_eq]; rfl
    · rw [if_neg e, u2_ne (Or.inr e)]
  refine ⟨?_, ?_, ?_, ?_, ?_, ?_, ?_⟩
  · unfold fX1_append
    simp (disch := first | assumption | omega) only [ob1_some, ob2_some, bnd_eq, gd_true, oc_none, oc_some, ↓reduceIte, nI_add, nI_1, nI_leI, nI_ltI, nI_eq, l0, l1, l2, l3, L0, if_pos, if_neg, k_Net, g_towns, p_towns, g_size, p_size, g_roads, g_tolls, g_crowds, a_tolls, s_tolls, r_crowds, a_crowd, s_crowd, q_roads, w_roads, u2_eq, u2_ne, hM, l13]
  · rw [u2_ne (by omega)]; exact hT
  · rw [u2_eq]; rfl
  · intro r hr13
    rw [had]
    by_cases e : r = nM N
    · rw [if_pos e, e, u2_eq]; exact ⟨rfl, hv⟩
    · rw [if_neg e, u2_ne (Or.inr e)]; exact hQ r hr13
  · intro r hr13
    rw [had]
    show _ = rdI (if r = nM N then d else nRd N r)
    by_cases e : r = nM N
    · rw [if_pos e, if_pos e]; exact hr
    · rw [if_neg e, if_neg e]
      have : r < nM N + 1 := hr13
      exact hR r (by omega)
  · intro r hr13
    show _ = lN (if r = nM N then 0 else nTl N r)
    by_cases e : r = nM N
    · rw [if_pos e, e, u2_eq]
    · rw [if_neg e, u2_ne (Or.inr e)]
      have : r < nM N + 1 := hr13
      exact hL r (by omega)
  · intro c j hc hj
    rw [u2_ne (by omega)]
    exact hC c j hc hj
def dropRd (N : NET) (g : Nat) : NET := (nT N, nM N - 1, fun r => if r < g then nRd N r else nRd N (r + 1), fun r => if r < g then nTl N r else nTl N (r + 1), nC N)
theorem e_drop_L2 {B n : Nat} {I : Nat → Nat → Int32} {La : Nat → Nat → Int64} {Qa : Nat → Nat → Option Nat} {R : Nat → RDt} {x g : Nat} {N : NET} (hx : isN x) (hN : NetIs B n I La Qa R x N) (hm : nM N ≤ 13) (k : AH → Option AH) : ∀ (m n' c : Nat) (L : Nat → Nat → Int64) (Q : Nat → Nat → Option Nat), c + m + 1 = nM N → g ≤ c → m < n' → (∀ a, a ≠ x + 2 → L a = La a) → (∀ a, a ≠ x + 1 → Q a = Qa a) → (∀ j, L (x + 2) j = if g ≤ j ∧ j < c then La (x + 2) (j + 1) else La (x + 2) j) → (∀ j, Q (x + 1) j = if g ≤ j ∧ j < c then Qa (x + 1) (j + 1) else Qa (x + 1) j) →
    ∃ (L' : Nat → Nat → Int64) (Q' : Nat → Nat → Option Nat), fX1_drop_L2 (B + x) k n' (nI c) (MK B n I L Q R) = k (MK B n I L' Q' R) ∧ (∀ a, a ≠ x + 2 → L' a = La a) ∧ (∀ a, a ≠ x + 1 → Q' a = Qa a) ∧ (∀ j, L' (x + 2) j = if g ≤ j ∧ j + 1 < nM N then La (x + 2) (j + 1) else La (x + 2) j) ∧ (∀ j, Q' (x + 1) j = if g ≤ j ∧ j + 1 < nM N then Qa (x + 1) (j + 1) else Qa (x + 1) j) := by
  obtain ⟨hT, hM, hQ, hR, hL, hC⟩ := hN
  intro m
  induction m with
  | zero =>
    intro n' c L Q hc hg hn a1 a2 a3 a4
    obtain ⟨n1, rfl⟩ := suc_of hn
    refine ⟨L, Q, ?_, a1, a2, fun j => ?_, fun j => ?_⟩
    · rw [fX1_drop_L2]
      simp (disch := first | assumption | omega) only [ob1_some, ob2_some, bnd_eq, gd_true, oc_none, oc_some, ↓reduceIte, nI_add, nI_1, nI_leI, nI_ltI, nI_eq, l0, l1, l2, l3, L0, if_pos, if_neg, k_Net, g_towns, p_towns, g_size, p_size, g_roads, g_tolls, g_crowds, a_tolls, s_tolls, r_crowds, a_crowd, s_crowd, q_roads, w_roads, u2_eq, u2_ne, hM]
    · rw [a3]; congr 1; exact propext ⟨fun h => by omega, fun h => by omega⟩
    · rw [a4]; congr 1; exact propext ⟨fun h => by omega, fun h => by omega⟩
  | succ m ih =>
    intro n' c L Q hc hg hn a1 a2 a3 a4
    obtain ⟨n1, rfl⟩ := suc_of hn
    have q1 : Q (x + 1) (c + 1) = some (adr Qa x (c + 1)) := by
      rw [a4, if_neg (by omega)]
      exact (hQ (c + 1) (by omega)).1
    have hv := (hQ (c + 1) (by omega)).2
    have q2 := q_roads (B := B) (n := n) (I := I) (L := L) (R := R) hx (show c + 1 < 13 by omega) q1
    obtain ⟨L', Q', r1, r2, r3, r4, r5⟩ := ih n1 (c + 1) (u2 L (x + 2) c (L (x + 2) (c + 1))) (u2 Q (x + 1) c (some (adr Qa x (c + 1)))) (by omega) (by omega) (by omega)
      (fun a ha => by rw [u2_nk ha]; exact a1 a ha) (fun a ha => by rw [u2_nk ha]; exact a2 a ha)
      (fun j => by
        by_cases e : j = c
        · rw [e, u2_eq, if_pos (by omega), a3, if_neg (by omega)]
        · rw [u2_ne (Or.inr e), a3]
          congr 1
          exact propext ⟨fun h => by omega, fun h => by omega⟩)
      (fun j => by
        by_cases e : j = c
        · rw [e, u2_eq, if_pos (by omega), (hQ (c + 1) (by omega)).1]
        · rw [u2_ne (Or.inr e), a4]
          congr 1
          exact propext ⟨fun h => by omega, fun h => by omega⟩)
    refine ⟨L', Q', ?_, r2, r3, r4, r5⟩
    rw [fX1_drop_L2]
    simp (disch := first | assumption | omega) only [ob1_some, ob2_some, bnd_eq, gd_true, oc_none, oc_some, ↓reduceIte, nI_add, nI_1, nI_leI, nI_ltI, nI_eq, l0, l1, l2, l3, L0, if_pos, if_neg, k_Net, g_towns, p_towns, g_size, p_size, g_roads, g_tolls, g_crowds, a_tolls, s_tolls, r_crowds, a_crowd, s_crowd, q_roads, w_roads, u2_eq, u2_ne, hM, q2]
    exact r1
theorem e_drop {B n : Nat} {I : Nat → Nat → Int32} {L : Nat → Nat → Int64} {Q : Nat → Nat → Option Nat} {R : Nat → RDt} {x g : Nat} {N : NET} (hx : isN x) (hN : NetIs B n I L Q R x N) (hm : nM N ≤ 13) (hg : g < nM N) : ∃ (L' : Nat → Nat → Int64) (Q' : Nat → Nat → Option Nat), fX1_drop (B + x) (nI g) (MK B n I L Q R) = some (MK B n (u2 I x 1 (nI (nM N - 1))) L' Q' R) ∧ NetIs B n (u2 I x 1 (nI (nM N - 1))) L' Q' R x (dropRd N g) ∧ (∀ a, a ≠ x + 2 → L' a = L a) ∧ (∀ a, a ≠ x + 1 → Q' a = Q a) := by
  obtain ⟨L', Q', r1, r2, r3, r4, r5⟩ := e_drop_L2 hx hN hm (fun (g21 : AH) =>
    ob1 (gI g21 (B + x) 1 1) fun v22 =>
    ob1 (pV g21 (B + x) 1 1 (.int (v22 - (1 : Int32)))) fun g24 =>
    some g24) (nM N - g - 1) lf g L Q (by omega) (Nat.le_refl _) (by show nM N - g - 1 < 1000; omega) (fun _ _ => rfl) (fun _ _ => rfl) (fun j => by rw [if_neg (by omega)]) (fun j => by rw [if_neg (by omega)])
  obtain ⟨hT, hM, hQ, hR, hL, hC⟩ := hN
  have had : ∀ r, adr Q' x r = if g ≤ r ∧ r + 1 < nM N then adr Q x (r + 1) else adr Q x r := by
    intro r
    unfold adr
    rw [r5]
    split <;> rfl
  refine ⟨L', Q', ?_, ⟨?_, ?_, ?_, ?_, ?_, ?_⟩, r2, r3⟩
  · unfold fX1_drop
    rw [r1]
    simp (disch := first | assumption | omega) only [ob1_some, ob2_some, bnd_eq, gd_true, oc_none, oc_some, ↓reduceIte, nI_add, nI_1, nI_leI, nI_ltI, nI_eq, l0, l1, l2, l3, L0, if_pos, if_neg, k_Net, g_towns, p_towns, g_size, p_size, g_roads, g_tolls, g_crowds, a_tolls, s_tolls, r_crowds, a_crowd, s_crowd, q_roads, w_roads, u2_eq, u2_ne, hM, pk_sub]
  · rw [u2_ne (by omega)]; exact hT
  · rw [u2_eq]; rfl
  · intro r hr
    rw [had, r5]
    by_cases e : g ≤ r ∧ r + 1 < nM N
    · rw [if_pos e, if_pos e]; exact hQ (r + 1) (by omega)
    · rw [if_neg e, if_neg e]; exact hQ r hr
  · intro r hr
    have hr : r < nM N - 1 := hr
    rw [had]
    show _ = rdI (if r < g then nRd N r else nRd N (r + 1))
    by_cases e : r < g
    · rw [if_neg (by omega), if_pos e]; exact hR r (by omega)
    · rw [if_pos (by omega), if_neg e]; exact hR (r + 1) (by omega)
  · intro r hr
    have hr : r < nM N - 1 := hr
    rw [r4]
    show _ = lN (if r < g then nTl N r else nTl N (r + 1))
    by_cases e : r < g
    · rw [if_neg (by omega), if_pos e]; exact hL r (by omega)
    · rw [if_pos (by omega), if_neg e]; exact hL (r + 1) (by omega)
  · intro c j hc hj
    rw [u2_ne (by omega)]
    exact hC c j hc hj
theorem e_copy_L18 {B n : Nat} {I : Nat → Nat → Int32} {La : Nat → Nat → Int64} {Qa : Nat → Nat → Option Nat} {R : Nat → RDt} {x y : Nat} (hx : isN x) (hy : isN y) (hxy : x ≠ y) (hQ : ∀ r, r < 13 → Qa (y + 1) r = some (adr Qa y r) ∧ VA B n (adr Qa y r)) (k : AH → Option AH) : ∀ (m n' c : Nat) (L : Nat → Nat → Int64) (Q : Nat → Nat → Option Nat), c + m = 13 → m < n' → (∀ a, a ≠ x + 2 → L a = La a) → (∀ a, a ≠ x + 1 → Q a = Qa a) → (∀ j, j < c → L (x + 2) j = La (y + 2) j) → (∀ j, j < c → Q (x + 1) j = Qa (y + 1) j) →
    ∃ (L' : Nat → Nat → Int64) (Q' : Nat → Nat → Option Nat), fX1_copyFrom_L18 (B + x) (B + y) k n' (nI c) (MK B n I L Q R) = k (MK B n I L' Q' R) ∧ (∀ a, a ≠ x + 2 → L' a = La a) ∧ (∀ a, a ≠ x + 1 → Q' a = Qa a) ∧ (∀ j, j < 13 → L' (x + 2) j = La (y + 2) j) ∧ (∀ j, j < 13 → Q' (x + 1) j = Qa (y + 1) j) := by
  intro m
  have hxy2 : y + 1 ≠ x + 1 ∧ y + 2 ≠ x + 2 := by omega
  induction m with
  | zero =>
    intro n' c L Q hc hn a1 a2 a3 a4
    obtain ⟨n1, rfl⟩ := suc_of hn
    refine ⟨L, Q, ?_, a1, a2, fun j hj => a3 j (by omega), fun j hj => a4 j (by omega)⟩
    rw [fX1_copyFrom_L18, show c = 13 by omega]
    simp (disch := first | assumption | omega) only [ob1_some, ob2_some, bnd_eq, gd_true, oc_none, oc_some, ↓reduceIte, nI_add, nI_1, nI_leI, nI_ltI, nI_eq, l0, l1, l2, l3, L0, if_pos, if_neg, k_Net, g_towns, p_towns, g_size, p_size, g_roads, g_tolls, g_crowds, a_tolls, s_tolls, r_crowds, a_crowd, s_crowd, q_roads, w_roads, u2_eq, u2_ne, l13]
  | succ m ih =>
    intro n' c L Q hc hn a1 a2 a3 a4
    obtain ⟨n1, rfl⟩ := suc_of hn
    have q1 : Q (y + 1) c = some (adr Qa y c) := by
      rw [a2 _ hxy2.1]
      exact (hQ c (by omega)).1
    have hv := (hQ c (by omega)).2
    have q2 := q_roads (B := B) (n := n) (I := I) (L := L) (R := R) hy (show c < 13 by omega) q1
    obtain ⟨L', Q', r1, r2, r3, r4, r5⟩ := ih n1 (c + 1) (u2 L (x + 2) c (L (y + 2) c)) (u2 Q (x + 1) c (some (adr Qa y c))) (by omega) (by omega)
      (fun a ha => by rw [u2_nk ha]; exact a1 a ha) (fun a ha => by rw [u2_nk ha]; exact a2 a ha)
      (fun j hj => by
        by_cases e : j = c
        · rw [e, u2_eq, a1 _ hxy2.2]
        · rw [u2_ne (Or.inr e)]; exact a3 j (by omega))
      (fun j hj => by
        by_cases e : j = c
        · rw [e, u2_eq]; exact (hQ c (by omega)).1.symm
        · rw [u2_ne (Or.inr e)]; exact a4 j (by omega))
    refine ⟨L', Q', ?_, r2, r3, r4, r5⟩
    rw [fX1_copyFrom_L18]
    simp (disch := first | assumption | omega) only [ob1_some, ob2_some, bnd_eq, gd_true, oc_none, oc_some, ↓reduceIte, nI_add, nI_1, nI_leI, nI_ltI, nI_eq, l0, l1, l2, l3, L0, if_pos, if_neg, k_Net, g_towns, p_towns, g_size, p_size, g_roads, g_tolls, g_crowds, a_tolls, s_tolls, r_crowds, a_crowd, s_crowd, q_roads, w_roads, u2_eq, u2_ne, q2, l13]
    exact r1
theorem e_copy_L56 {B n : Nat} {Ia : Nat → Nat → Int32} {L : Nat → Nat → Int64} {Q : Nat → Nat → Option Nat} {R : Nat → RDt} {x y : Nat} (hx : isN x) (hy : isN y) (hxy : x ≠ y) (k : AH → Option AH) : ∀ (m n' c : Nat) (I : Nat → Nat → Int32), c + m = 3 → m < n' → (∀ a, a < x + 4 ∨ x + 7 ≤ a → I a = Ia a) → (∀ c' j, c' < c → j < 4 → I (x + (4 + c')) j = Ia (y + (4 + c')) j) →
    ∃ (I' : Nat → Nat → Int32), fX1_copyFrom_L56 (B + x) (B + y) k n' (nI c) (MK B n I L Q R) = k (MK B n I' L Q R) ∧ (∀ a, a < x + 4 ∨ x + 7 ≤ a → I' a = Ia a) ∧ (∀ c' j, c' < 3 → j < 4 → I' (x + (4 + c')) j = Ia (y + (4 + c')) j) := by
  intro m
  have hap : y + 7 ≤ x ∨ x + 7 ≤ y := by unfold isN at hx hy; omega
  induction m with
  | zero =>
    intro n' c I hc hn a1 a2
    obtain ⟨n1, rfl⟩ := suc_of hn
    refine ⟨I, ?_, a1, fun c' j h1 h2 => a2 c' j (by omega) h2⟩
    rw [fX1_copyFrom_L56, show c = 3 by omega]
    simp (disch := first | assumption | omega) only [ob1_some, ob2_some, bnd_eq, gd_true, oc_none, oc_some, ↓reduceIte, nI_add, nI_1, nI_leI, nI_ltI, nI_eq, l0, l1, l2, l3, L0, if_pos, if_neg, k_Net, g_towns, p_towns, g_size, p_size, g_roads, g_tolls, g_crowds, a_tolls, s_tolls, r_crowds, a_crowd, s_crowd, q_roads, w_roads, u2_eq, u2_ne]
  | succ m ih =>
    intro n' c I hc hn a1 a2
    obtain ⟨n1, rfl⟩ := suc_of hn
    obtain ⟨I', r1, r2, r3⟩ := ih n1 (c + 1) (fun k j => if k = x + (4 + c) then (if j < 4 then I (y + (4 + c)) j else I (x + (4 + c)) j) else I k j) (by omega) (by omega)
      (fun a ha => by funext j; rw [if_neg (by omega), a1 a ha])
      (fun c' j h1 h2 => by
        show (if x + (4 + c') = x + (4 + c) then (if j < 4 then I (y + (4 + c)) j else I (x + (4 + c)) j) else I (x + (4 + c')) j) = _
        by_cases e : c' = c
        · rw [if_pos (by omega), if_pos h2, e, a1 _ (by omega)]
        · rw [if_neg (by omega)]; exact a2 c' j (by omega) h2)
    refine ⟨I', ?_, r2, r3⟩
    rw [fX1_copyFrom_L56]
    have hcp := cp_crowd (B := B) (n := n) (I := I) (L := L) (Q := Q) (R := R) hx hy (show c < 3 by omega)
    have e0 : ¬ (3 : Int32) ≤ nI c := by rw [l3, nI_leI (by omega) (by omega)]; omega
    rw [if_neg e0]
    simp (disch := first | assumption | omega) only [ob1_some, ob2_some, bnd_eq, gd_true, oc_none, oc_some, ↓reduceIte, k_Net, g_towns, p_towns, g_size, p_size, g_roads, g_tolls, g_crowds, a_tolls, s_tolls, r_crowds, a_crowd, s_crowd, q_roads, w_roads, hcp, nI_1]
    exact r1
theorem e_copyFrom {B n : Nat} {I : Nat → Nat → Int32} {L : Nat → Nat → Int64} {Q : Nat → Nat → Option Nat} {R : Nat → RDt} {x y : Nat} {N : NET} (hx : isN x) (hy : isN y) (hxy : x ≠ y) (hN : NetIs B n I L Q R y N) (hm : nM N ≤ 13) : ∃ (I' : Nat → Nat → Int32) (L' : Nat → Nat → Int64) (Q' : Nat → Nat → Option Nat), fX1_copyFrom (B + x) (B + y) (MK B n I L Q R) = some (MK B n I' L' Q' R) ∧ NetIs B n I' L' Q' R x N ∧ (∀ a, a < x ∨ x + 7 ≤ a → I' a = I a) ∧ (∀ a, a ≠ x + 2 → L' a = L a) ∧ (∀ a, a ≠ x + 1 → Q' a = Q a) := by
  obtain ⟨hT, hM, hQ, hR, hL, hC⟩ := hN
  have hap : y + 7 ≤ x ∨ x + 7 ≤ y := by unfold isN at hx hy; omega
  obtain ⟨L', Q', r1, r2, r3, r4, r5⟩ := e_copy_L18 (I := u2 (u2 I x 0 (nI (nT N))) x 1 (nI (nM N))) hx hy hxy hQ (fun (g27 : AH) => fX1_copyFrom_L56 (B + x) (B + y) (fun (g40 : AH) => some g40) lf (0 : Int32) g27) 13 lf 0 L Q (by omega) (by decide) (fun _ _ => rfl) (fun _ _ => rfl) (fun j hj => absurd hj (Nat.not_lt_zero j)) (fun j hj => absurd hj (Nat.not_lt_zero j))
  obtain ⟨I', i1, i2, i3⟩ := e_copy_L56 (Ia := u2 (u2 I x 0 (nI (nT N))) x 1 (nI (nM N))) (L := L') (Q := Q') (B := B) (n := n) (R := R) hx hy hxy (fun (g40 : AH) => some g40) 3 lf 0 _ (by omega) (by decide) (fun _ _ => rfl) (fun c' j hj => absurd hj (Nat.not_lt_zero c'))
  have had : ∀ r, r < 13 → adr Q' x r = adr Q y r := by
    intro r hr
    unfold adr
    rw [r5 r hr]
  refine ⟨I', L', Q', ?_, ⟨?_, ?_, ?_, ?_, ?_, ?_⟩, ?_, r2, r3⟩
  · unfold fX1_copyFrom
    simp (disch := first | assumption | omega) only [ob1_some, ob2_some, bnd_eq, gd_true, oc_none, oc_some, ↓reduceIte, k_Net, g_towns, p_towns, g_size, p_size, g_roads, g_tolls, g_crowds, a_tolls, s_tolls, r_crowds, a_crowd, s_crowd, q_roads, w_roads, hT, hM, u2_ne]
    exact r1.trans i1
  · rw [i2 x (by omega), u2_ne (by omega), u2_eq]
  · rw [i2 x (by omega), u2_eq]
  · intro r hr
    rw [had r hr, r5 r hr]
    exact hQ r hr
  · intro r hr
    rw [had r (by omega)]
    exact hR r hr
  · intro r hr
    rw [r4 r (by omega)]
    exact hL r hr
  · intro c j hc hj
    rw [i3 c j hc hj, u2_ne (by omega), u2_ne (by omega)]
    exact hC c j hc hj
  · intro a ha
    rw [i2 a (by omega), u2_nk (by omega), u2_nk (by omega)]
