theorem e_max {a b : Nat} (ha : a < 2147483648) (hb : b < 2147483648) : fJ9_max_7cf53 (nI a) (nI b) = some (nI (max a b)) := by
  unfold fJ9_max_7cf53
  by_cases h : a < b
  · rw [if_pos (by rw [nI_ltI (by omega) (by omega)]; exact h), show max a b = b by omega]
  · rw [if_neg (by rw [nI_ltI (by omega) (by omega)]; exact h), show max a b = a by omega]
def hereP (N : NET) (mode c : Nat) (ld : Nat → Nat) (q : Nat) : Nat := pAt N mode c q (max 1 (ld q))
def moreP (N : NET) (mode c : Nat) (ld : Nat → Nat) (q : Nat) : Nat := pAt N mode c q (ld q + 1)
def LoadsIs (I : Nat → Nat → Int32) (x : Nat) (ld : Nat → Nat) (rd : Nat → Nat → Nat) : Prop := (∀ q, q < 13 → I (x + 1) q = nI (ld q)) ∧ ∀ c j, c < 3 → j < 211 → I (x + (3 + c)) j = nI (rd c j)
theorem e_tell_L3 {B n : Nat} {I : Nat → Nat → Int32} {La : Nat → Nat → Int64} {Q : Nat → Nat → Option Nat} {R : Nat → RDt} {x y mode c : Nat} {N : NET} {ld : Nat → Nat} {rd : Nat → Nat → Nat} (hx : isS x) (hy : isN y) (hN : NetIs B n I La Q R y N) (hO : NetOK N) (hm : mode < 3) (hc : c < 3) (hl : LoadsIs I x ld rd) (hb : ∀ q, q < 13 → ld q < 1000) (k : AH → Option AH) :
    ∀ (m n' q : Nat) (L : Nat → Nat → Int64), q + m = nM N → m < n' → (∀ a, a ≠ x + 7 → a ≠ x + 8 → L a = La a) → (∀ r, r < q → L (x + 7) r = lN (hereP N mode c ld r) ∧ L (x + 8) r = lN (moreP N mode c ld r)) →
    ∃ L' : Nat → Nat → Int64, fX5_tellPrices_L3 (B + x) (B + y) (nI mode) (nI c) k n' (nI q) (MK B n I L Q R) = k (MK B n I L' Q R) ∧ (∀ a, a ≠ x + 7 → a ≠ x + 8 → L' a = La a) ∧ (∀ r, r < nM N → L' (x + 7) r = lN (hereP N mode c ld r) ∧ L' (x + 8) r = lN (moreP N mode c ld r)) := by
  have hap : y + 7 ≤ x ∨ x + 10 ≤ y := by unfold isS at hx; unfold isN at hy; omega
  have hM := hN.2.1
  have h13 := hO.2.2.1
  intro m
  induction m with
  | zero =>
    intro n' q L hq hn hF hV
    obtain ⟨n1, rfl⟩ := suc_of hn
    rw [show q = nM N by omega] at hV ⊢
    refine ⟨L, ?_, hF, hV⟩
    rw [fX5_tellPrices_L3]
    simp (disch := first | assumption | omega) only [ob1_some, ob2_some, bnd_eq, gd_true, oc_none, oc_some, ↓reduceIte, nI_add, nI_1, nI_leI, nI_ltI, nI_eq, l0, l1, l2, l3, L0, if_pos, if_neg, k_Net, g_towns, p_towns, g_size, p_size, g_roads, g_tolls, g_crowds, a_tolls, s_tolls, r_crowds, a_crowd, s_crowd, q_roads, w_roads, u2_eq, u2_ne, hM]
  | succ m ih =>
    intro n' q L hq hn hF hV
    obtain ⟨n1, rfl⟩ := suc_of hn
    have hlq := hl.1 q (by omega)
    have hbq := hb q (by omega)
    have hN1 : NetIs B n I L Q R y N := hN.same (fun _ _ _ => rfl) (by rw [hF _ (by omega) (by omega)])
    have e1 := e_priceAt hy hN1 hO hm hc (show q < nM N by omega) (show max 1 (ld q) < 2147483648 by omega) (by omega)
    have hN2 : NetIs B n I (u2 L (x + 7) q (lN (hereP N mode c ld q))) Q R y N := hN.same (fun _ _ _ => rfl) (by rw [u2_nk (by omega), hF _ (by omega) (by omega)])
    have e2 := e_priceAt hy hN2 hO hm hc (show q < nM N by omega) (show ld q + 1 < 2147483648 by omega) (by omega)
    have e3 := e_max (show 1 < 2147483648 by omega) (show ld q < 2147483648 by omega)
    obtain ⟨L', r1, r2, r3⟩ := ih n1 (q + 1) (u2 (u2 L (x + 7) q (lN (hereP N mode c ld q))) (x + 8) q (lN (moreP N mode c ld q))) (by omega) (by omega)
      (fun a h1 h2 => by rw [u2_nk h2, u2_nk h1]; exact hF a h1 h2)
      (fun r hr => by
        by_cases e : r = q
        · rw [e, u2_ne (by omega), u2_eq, u2_eq]; exact ⟨rfl, rfl⟩
        · rw [u2_ne (by omega), u2_ne (by omega), u2_ne (by omega), u2_ne (by omega)]; exact hV r (by omega))
    refine ⟨L', ?_, r2, r3⟩
    rw [← r1, fX5_tellPrices_L3]
    unfold hereP at e2 ⊢
    unfold moreP
    simp (disch := first | assumption | omega) only [ob1_some, ob2_some, bnd_eq, gd_true, oc_none, oc_some, ↓reduceIte, nI_add, nI_1, nI_leI, nI_ltI, nI_eq, l0, l1, l2, l3, L0, if_pos, if_neg, k_Net, g_towns, p_towns, g_size, p_size, g_roads, g_tolls, g_crowds, a_tolls, s_tolls, r_crowds, a_crowd, s_crowd, q_roads, w_roads, k_Steady, g_loads, g_riders, g_ssum, g_here, g_more, g_fares, g_stands, p_stands, g_steps, p_steps, a_loads, s_loads, n_loads, r_riders, a_here, s_here, a_more, s_more, a_fares, s_fares, a_rider, s_rider, n_rider, u2_eq, u2_ne, hM, hlq, e1, e2, e3]
theorem e_tell {B n : Nat} {I : Nat → Nat → Int32} {L : Nat → Nat → Int64} {Q : Nat → Nat → Option Nat} {R : Nat → RDt} {x y mode c : Nat} {N : NET} {ld : Nat → Nat} {rd : Nat → Nat → Nat} (hx : isS x) (hy : isN y) (hN : NetIs B n I L Q R y N) (hO : NetOK N) (hm : mode < 3) (hc : c < 3) (hl : LoadsIs I x ld rd) (hb : ∀ q, q < 13 → ld q < 1000) :
    ∃ L' : Nat → Nat → Int64, fX5_tellPrices (B + x) (B + y) (nI mode) (nI c) (MK B n I L Q R) = some (MK B n I L' Q R) ∧ (∀ a, a ≠ x + 7 → a ≠ x + 8 → L' a = L a) ∧ (∀ r, r < nM N → L' (x + 7) r = lN (hereP N mode c ld r) ∧ L' (x + 8) r = lN (moreP N mode c ld r)) := by
  have h13 := hO.2.2.1
  unfold fX5_tellPrices
  exact e_tell_L3 hx hy hN hO hm hc hl hb _ (nM N) lf 0 L (by omega) (by show nM N < 1000; omega) (fun _ _ _ => rfl) (fun r hr => absurd hr (Nat.not_lt_zero r))
theorem e_move_L21 {B n : Nat} {Ia : Nat → Nat → Int32} {L : Nat → Nat → Int64} {Q : Nat → Nat → Option Nat} {R : Nat → RDt} {x p j : Nat} {x4 : Int32} {rows : List ROW} {ld ld' : Nat → Nat} (hx : isS x) (hp : isP p) (hP : PathsIs Ia p rows) (hK : AllOK rows) (hj : j < rows.length) (hl : ∀ q, q < 13 → Ia (x + 1) q = nI (ld q)) (hd : ∀ q, q < 13 → ((wRb (rowAt rows j)).testBit q = true → nI (ld q) + x4 = nI (ld' q)) ∧ ((wRb (rowAt rows j)).testBit q = false → ld' q = ld q)) (k : AH → Option AH) :
    ∀ (m n' q : Nat) (I : Nat → Nat → Int32), q + m = 13 → m < n' → (∀ a, a ≠ x + 1 → I a = Ia a) → (∀ r, r < 13 → I (x + 1) r = nI (if r < q then ld' r else ld r)) →
    ∃ I' : Nat → Nat → Int32, fX5_move_L21 (B + x) (B + p) (nI j) x4 k n' (nI q) (MK B n I L Q R) = k (MK B n I' L Q R) ∧ (∀ a, a ≠ x + 1 → I' a = Ia a) ∧ (∀ r, r < 13 → I' (x + 1) r = nI (ld' r)) := by
  have hap : p + 7 ≤ x ∨ x + 10 ≤ p := by unfold isS at hx; unfold isP at hp; omega
  intro m
  induction m with
  | zero =>
    intro n' q I hq hn hF hV
    obtain ⟨n1, rfl⟩ := suc_of hn
    rw [show q = 13 by omega] at hV ⊢
    refine ⟨I, ?_, hF, fun r hr => by rw [hV r hr, if_pos hr]⟩
    rw [fX5_move_L21]
    simp (disch := first | assumption | omega) only [ob1_some, ob2_some, bnd_eq, gd_true, oc_none, oc_some, ↓reduceIte, nI_add, nI_1, nI_leI, nI_ltI, nI_eq, l0, l1, l2, l3, L0, if_pos, if_neg, k_Steady, g_loads, g_riders, g_ssum, g_here, g_more, g_fares, g_stands, p_stands, g_steps, p_steps, a_loads, s_loads, n_loads, r_riders, a_here, s_here, a_more, s_more, a_fares, s_fares, a_rider, s_rider, n_rider, u2_eq, u2_ne, l13]
  | succ m ih =>
    intro n' q I hq hn hF hV
    obtain ⟨n1, rfl⟩ := suc_of hn
    have hP1 : PathsIs I p rows := hP.same (fun a h1 h2 => hF a (by omega))
    have e1 := e_uses (B := B) (n := n) (L := L) (Q := Q) (R := R) hp hP1 (rowAt_get hj) hK.1 (hK.2 j _ (rowAt_get hj)).1 (show q < 31 by omega)
    have hq1 : I (x + 1) q = nI (ld q) := by rw [hV q (by omega), if_neg (by omega)]
    obtain ⟨d1, d2⟩ := hd q (by omega)
    obtain ⟨I', r1, r2, r3⟩ := ih n1 (q + 1) (u2 I (x + 1) q (nI (ld' q))) (by omega) (by omega) (fun a ha => by rw [u2_nk ha]; exact hF a ha)
      (fun r hr => by
        by_cases e : r = q
        · rw [e, u2_eq, if_pos (by omega)]
        · rw [u2_ne (Or.inr e), hV r hr]
          congr 1
          by_cases h : r < q
          · rw [if_pos h, if_pos (by omega)]
          · rw [if_neg h, if_neg (by omega)])
    refine ⟨I', ?_, r2, r3⟩
    rw [← r1, fX5_move_L21]
    have hn3 : ¬ (13 : Int32) ≤ nI q := by rw [l13, nI_leI (by omega) (by omega)]; omega
    cases hbit : (wRb (rowAt rows j)).testBit q with
    | true =>
      rw [hbit] at e1
      have d3 := d1 hbit
      rw [if_neg hn3]
      simp (disch := first | assumption | omega) only [ob1_some, ob2_some, bnd_eq, gd_true, oc_none, oc_some, ↓reduceIte, k_Steady, g_loads, g_riders, g_ssum, g_here, g_more, g_fares, g_stands, p_stands, g_steps, p_steps, a_loads, s_loads, n_loads, r_riders, a_here, s_here, a_more, s_more, a_fares, s_fares, a_rider, s_rider, n_rider, k_Paths, g_count, p_count, g_parents, a_parents, s_parents, g_lastRoads, a_lastRoads, s_lastRoads, g_ends, a_ends, s_ends, g_lengths, a_lengths, s_lengths, g_roadBits, a_roadBits, s_roadBits, g_townBits, a_townBits, s_townBits, hq1, e1, bzz_t, if_false, d3, nI_1, l0]
    | false =>
      rw [hbit] at e1
      have d3 := d2 hbit
      rw [if_neg hn3, d3]
      simp (disch := first | assumption | omega) only [ob1_some, ob2_some, bnd_eq, gd_true, oc_none, oc_some, ↓reduceIte, k_Steady, g_loads, g_riders, g_ssum, g_here, g_more, g_fares, g_stands, p_stands, g_steps, p_steps, a_loads, s_loads, n_loads, r_riders, a_here, s_here, a_more, s_more, a_fares, s_fares, a_rider, s_rider, n_rider, k_Paths, g_count, p_count, g_parents, a_parents, s_parents, g_lastRoads, a_lastRoads, s_lastRoads, g_ends, a_ends, s_ends, g_lengths, a_lengths, s_lengths, g_roadBits, a_roadBits, s_roadBits, g_townBits, a_townBits, s_townBits, hq1, e1, bzz_f, if_true, nI_1, l0, nI_add, Nat.add_zero]
theorem e_move {B n : Nat} {I : Nat → Nat → Int32} {L : Nat → Nat → Int64} {Q : Nat → Nat → Option Nat} {R : Nat → RDt} {x p j c v : Nat} {x4 : Int32} {rows : List ROW} {ld ld' : Nat → Nat} {rd : Nat → Nat → Nat} (hx : isS x) (hp : isP p) (hP : PathsIs I p rows) (hK : AllOK rows) (hj : j < rows.length) (hc : c < 3) (hl : LoadsIs I x ld rd) (hd : ∀ q, q < 13 → ((wRb (rowAt rows j)).testBit q = true → nI (ld q) + x4 = nI (ld' q)) ∧ ((wRb (rowAt rows j)).testBit q = false → ld' q = ld q)) (hv : nI (rd c j) + x4 = nI v) :
    ∃ I' : Nat → Nat → Int32, fX5_move (B + x) (B + p) (nI c) (nI j) x4 (MK B n I L Q R) = some (MK B n I' L Q R) ∧ LoadsIs I' x ld' (fun a b => if a = c ∧ b = j then v else rd a b) ∧ (∀ a, a < x + 1 ∨ x + 6 ≤ a → I' a = I a) := by
  have hl2 := hK.1
  have hap : p + 7 ≤ x ∨ x + 10 ≤ p := by unfold isS at hx; unfold isP at hp; omega
  have hP1 : PathsIs (u2 I (x + (3 + c)) j (nI v)) p rows := hP.same (fun a h1 h2 => u2_nk (by omega))
  obtain ⟨I', r1, r2, r3⟩ := e_move_L21 (B := B) (n := n) (L := L) (Q := Q) (R := R) (x4 := x4) (ld := ld) (ld' := ld') hx hp hP1 hK hj (fun q hq => by rw [u2_ne (by omega)]; exact hl.1 q hq) hd (fun (g24 : AH) => some g24) 13 lf 0 (u2 I (x + (3 + c)) j (nI v)) (by omega) (by decide) (fun _ _ => rfl) (fun r hr => by rw [u2_ne (by omega), if_neg (by omega)]; exact hl.1 r hr)
  refine ⟨I', ?_, ⟨r3, fun a b ha hb => ?_⟩, fun a ha => by rw [r2 a (by omega), u2_nk (by omega)]⟩
  · have hr := hl.2 c j hc (by omega)
    have h0 : (0 : Int32) ≤ nI j := nI_pos' (by omega)
    unfold fX5_move
    rw [if_pos h0]
    simp (disch := first | assumption | omega) only [ob1_some, ob2_some, bnd_eq, gd_true, oc_none, oc_some, ↓reduceIte, k_Steady, g_loads, g_riders, g_ssum, g_here, g_more, g_fares, g_stands, p_stands, g_steps, p_steps, a_loads, s_loads, n_loads, r_riders, a_here, s_here, a_more, s_more, a_fares, s_fares, a_rider, s_rider, n_rider, hr, hv]
    exact r1
  · rw [r2 _ (by omega)]
    show _ = nI (if a = c ∧ b = j then v else rd a b)
    by_cases e : a = c ∧ b = j
    · rw [if_pos e, e.1, e.2, u2_eq]
    · rw [if_neg e, u2_ne (by omega)]
      exact hl.2 a b ha hb
