theorem e_push_L18 {B n : Nat} {L : Nat → Nat → Int64} {Q : Nat → Nat → Option Nat} {R : Nat → RDt} {y : Nat} {N : NET} {s : BFS} {Ia : Nat → Nat → Int32} (hy : isN y) (hN : NetIs B n Ia L Q R y N) (hO : NetOK N) (hc : CB Ia L N s) (k : AH → Option AH) :
    ∀ (m n' c v : Nat) (F : Nat → Nat) (I : Nat → Nat → Int32), c + m = 6 → m < n' → v < 6 → augOK N s m v F → (∀ a, a ≠ 28 → I a = Ia a) → (∀ q, q < 13 → I 28 q = nI (F q)) →
    ∃ I' : Nat → Nat → Int32, fX0_push_L18 (B + 26) (B + y) k n' (nI v) (nI c) (MK B n I L Q R) = k (MK B n I' L Q R) ∧ (∀ a, a ≠ 28 → I' a = Ia a) ∧ (∀ q, q < 13 → I' 28 q = nI (augN N s.2 m v F q)) := by
  have hap := isN_C hy
  have h13 := hO.2.2.1
  intro m
  induction m with
  | zero =>
    intro n' c v F I hcm hn hv6 hA hF hV
    obtain ⟨n1, rfl⟩ := suc_of hn
    refine ⟨I, ?_, hF, hV⟩
    have c6 : (6 : Int32) ≤ nI c := by rw [l6, nI_leI (by omega) (by omega)]; omega
    rw [fX0_push_L18, if_pos c6]
  | succ m ih =>
    intro n' c v F I hcm hn hv6 hA hF hV
    obtain ⟨n1, rfl⟩ := suc_of hn
    have c6 : ¬ (6 : Int32) ≤ nI c := by rw [l6, nI_leI (by omega) (by omega)]; omega
    rw [fX0_push_L18, if_neg c6, augN]
    by_cases h0 : v = 0
    · rw [if_pos h0]
      refine ⟨I, ?_, hF, hV⟩
      rw [h0, if_pos (show nI 0 = (0 : Int32) from rfl)]
    · rw [if_neg h0]
      rcases hA with h | ⟨g1, g2, g3, g4, g5⟩
      · exact absurd h h0
      · obtain ⟨c31, c32⟩ := hc.2.2 v g2 h0 g3
        have e31 : I 31 v = nI (prevT N v (s.2 v)) := by rw [hF 31 (by decide)]; exact c31
        have e32 : I 32 v = nI (s.2 v) := by rw [hF 32 (by decide)]; exact c32
        have hN1 : NetIs B n I L Q R y N := hN.same (fun a h1 h2 => hF a (by omega)) rfl
        have hrd := hO.2.2.2.1 _ g1
        obtain ⟨⟨k1, k2, k3, k4, k5, k6, k7⟩, kf, kt, kne, ktl⟩ := id hrd
        have hv := hN1.2.2.1 (s.2 v) (by omega)
        have hd := hN1.2.2.2.1 _ g1
        have hq1 := q_roads (B := B) (n := n) (I := I) (L := L) (R := R) hy (show s.2 v < 13 by omega) hv.1
        have to1 : gI (MK B n I L Q R) (adr Q y (s.2 v)) 3 1 = some (nI (dTo (nRd N (s.2 v)))) := by rw [rd_to hv.2, hd]; rfl
        have hld := hV (s.2 v) (by omega)
        have hp6 : prevT N v (s.2 v) < 6 := by unfold prevT; split <;> assumption
        have hstep : nI (F (s.2 v)) + (if dTo (nRd N (s.2 v)) = v then (1 : Int32) else -1) = nI (stepF N v (s.2 v) F (s.2 v)) := by
          unfold stepF
          rw [if_pos rfl]
          by_cases e : dTo (nRd N (s.2 v)) = v
          · rw [if_pos e, if_pos e, nI_1]
          · rw [if_neg e, if_neg e]
            obtain ⟨f, hf⟩ := suc_of (g4 e)
            rw [hf]
            exact pk_m1 f
        obtain ⟨I', r1, r2, r3⟩ := ih n1 (c + 1) (prevT N v (s.2 v)) (stepF N v (s.2 v) F) (u2 I 28 (s.2 v) (nI (stepF N v (s.2 v) F (s.2 v)))) (by omega) (by omega) hp6 g5 (fun a ha => by rw [u2_nk ha]; exact hF a ha) (fun q hq => by
          by_cases e : q = s.2 v
          · rw [e, u2_eq]
          · rw [u2_ne (Or.inr e), hV q hq]
            show nI (F q) = nI (if q = s.2 v then _ else F q)
            rw [if_neg e])
        refine ⟨I', ?_, r2, r3⟩
        have z : (nI v = (0 : Int32)) = False := eq_false (by rw [l0, nI_eq (by omega) (by omega)]; exact h0)
        rw [← r1]
        by_cases e : dTo (nRd N (s.2 v)) = v
        · rw [if_pos e] at hstep
          have z2 : (nI (dTo (nRd N (s.2 v))) = nI v) = True := by rw [e]; exact eq_true rfl
          simp (disch := first | assumption | omega) only [ob1_some, ob2_some, bnd_eq, gd_true, oc_none, oc_some, ↓reduceIte, k_Net, g_towns, p_towns, g_size, p_size, g_roads, g_tolls, g_crowds, a_tolls, s_tolls, r_crowds, a_crowd, s_crowd, q_roads, w_roads, k_Cheapest, g_csum, g_cloads, g_isMet, g_far, g_cameFrom, g_cameBy, a_cloads, s_cloads, n_cloads, a_isMet, s_isMet, a_far, s_far, a_cameFrom, s_cameFrom, a_cameBy, s_cameBy, z, z2, if_true, if_false, e32, hld, hq1, to1, hstep, u2_ne, e31, nI_1]
        · rw [if_neg e] at hstep
          have z2 : (nI (dTo (nRd N (s.2 v))) = nI v) = False := eq_false (by rw [nI_eq (by omega) (by omega)]; exact e)
          simp (disch := first | assumption | omega) only [ob1_some, ob2_some, bnd_eq, gd_true, oc_none, oc_some, ↓reduceIte, k_Net, g_towns, p_towns, g_size, p_size, g_roads, g_tolls, g_crowds, a_tolls, s_tolls, r_crowds, a_crowd, s_crowd, q_roads, w_roads, k_Cheapest, g_csum, g_cloads, g_isMet, g_far, g_cameFrom, g_cameBy, a_cloads, s_cloads, n_cloads, a_isMet, s_isMet, a_far, s_far, a_cameFrom, s_cameFrom, a_cameBy, s_cameBy, z, z2, if_true, if_false, e32, hld, hq1, to1, hstep, u2_ne, e31, nI_1]
theorem e_push {B n : Nat} {I : Nat → Nat → Int32} {L : Nat → Nat → Int64} {Q : Nat → Nat → Option Nat} {R : Nat → RDt} {y t : Nat} {N : NET} {s : BFS} {fl : Nat → Nat} (hE : Env0 B n I L Q R y N fl) (hc : CB I L N s) (ht : t < 6) (hm : s.1 t ≠ none) (hA : augOK N s 6 t fl) :
    ∃ I' : Nat → Nat → Int32, fX0_push (B + 26) (B + y) (nI t) (MK B n I L Q R) = some (MK B n I' L Q R) ∧ (∀ a, a ≠ 28 → I' a = I a) ∧ (∀ q, q < 13 → I' 28 q = nI (augN N s.2 6 t fl q)) := by
  obtain ⟨h1, h2, h3, h4, h5⟩ := hE
  obtain ⟨I', r1, r2, r3⟩ := e_push_L18 h1 h2 h3 hc (fun (g33 : AH) => some g33) 6 lf 0 t fl I rfl (by decide) ht hA (fun _ _ => rfl) h4
  refine ⟨I', ?_, r2, r3⟩
  have hmet : I 29 t = bz true := by
    rw [hc.1 t ht]
    cases e : s.1 t with
    | none => exact absurd e hm
    | some d => rfl
  have z : (bz true = (0 : Int32)) = False := eq_false (by decide)
  unfold fX0_push
  simp (disch := first | assumption | omega) only [ob1_some, ob2_some, bnd_eq, gd_true, oc_none, oc_some, ↓reduceIte, k_Cheapest, g_csum, g_cloads, g_isMet, g_far, g_cameFrom, g_cameBy, a_cloads, s_cloads, n_cloads, a_isMet, s_isMet, a_far, s_far, a_cameFrom, s_cameFrom, a_cameBy, s_cameBy, hmet, z, if_false]
  exact r1
/-- the flow when so many of a class were sent -/
def sndC (N : NET) (t : Nat) : Nat → (Nat → Nat) → (Nat → Nat)
  | 0, F => F
  | k + 1, F => sendN N (sndC N t k F) t
def flAll (N : NET) : Nat → (Nat → Nat)
  | 0 => fun _ => 0
  | c + 1 => sndC N (nC N c 0) (nC N c 1) (flAll N c)
/-- what sending does, class by class -/
theorem sndC_ok {N : NET} {t k0 : Nat} {F : Nat → Nat} (hO : NetOK N) (h : Cheap N F k0) (ht : Rch N t) : ∀ k : Nat, k0 + k ≤ 36 → Cheap N (sndC N t k F) (k0 + k) ∧ ∀ w, netF N (sndC N t k F) w = netF N F w + (k : Int) * ((if t = w then 1 else 0) - (if 0 = w then 1 else 0))
  | 0, _ => ⟨h, fun w => by show netF N F w = _; simp⟩
  | k + 1, hk => by
    obtain ⟨g1, g2⟩ := sndC_ok hO h ht k (by omega)
    obtain ⟨d, r1, r2, r3, r4, r5, _⟩ := send_ok hO g1 (by omega) ht
    refine ⟨r4, fun w => ?_⟩
    show netF N (sendN N (sndC N t k F) t) w = _
    rw [r5 w, g2 w, Int.natCast_succ, Int.add_mul]
    omega
theorem e_seek_L17 {B n : Nat} {Q : Nat → Nat → Option Nat} {R : Nat → RDt} {y c k0 : Nat} {N : NET} {Fa : Nat → Nat} (hc : c < 3) (hch : Cheap N Fa k0) (hk0 : k0 + nC N c 1 ≤ 36) (hr : 0 < nC N c 1 → Rch N (nC N c 0)) (k : AH → Option AH) {Ia : Nat → Nat → Int32} {La : Nat → Nat → Int64} :
    ∀ (m n' j : Nat) (I : Nat → Nat → Int32) (L : Nat → Nat → Int64), j + m = nC N c 1 → m < n' → isN y → NetIs B n I L Q R y N → NetOK N → (∀ q, q < 13 → I 28 q = nI (sndC N (nC N c 0) j Fa q)) → (∀ a, a < 28 ∨ 33 ≤ a → I a = Ia a) → (∀ a, a < 28 ∨ 33 ≤ a → L a = La a) →
    ∃ (I' : Nat → Nat → Int32) (L' : Nat → Nat → Int64), fX0_seek_L17 (B + 26) (B + y) (nI c) k n' (nI j) (MK B n I L Q R) = k (MK B n I' L' Q R) ∧ NetIs B n I' L' Q R y N ∧ (∀ q, q < 13 → I' 28 q = nI (sndC N (nC N c 0) (nC N c 1) Fa q)) ∧ (∀ a, a < 28 ∨ 33 ≤ a → I' a = Ia a) ∧ (∀ a, a < 28 ∨ 33 ≤ a → L' a = La a) := by
  intro m
  induction m with
  | zero =>
    intro n' j I L hj hn hy hN hO hV hF hG
    obtain ⟨n1, rfl⟩ := suc_of hn
    have hC := hN.2.2.2.2.2
    have hcb := hO.2.2.2.2 c hc
    unfold CrN at hcb
    rw [show j = nC N c 1 by omega] at hV ⊢
    refine ⟨I, L, ?_, hN, hV, hF, hG⟩
    rw [fX0_seek_L17]
    simp (disch := first | assumption | omega) only [ob1_some, ob2_some, bnd_eq, gd_true, oc_none, oc_some, ↓reduceIte, nI_add, nI_1, nI_leI, nI_ltI, nI_eq, l0, l1, l2, l3, L0, if_pos, if_neg, k_Net, g_towns, p_towns, g_size, p_size, g_roads, g_tolls, g_crowds, a_tolls, s_tolls, r_crowds, a_crowd, s_crowd, q_roads, w_roads, u2_eq, u2_ne, hC]
  | succ m ih =>
    intro n' j I L hj hn hy hN hO hV hF hG
    obtain ⟨n1, rfl⟩ := suc_of hn
    have hap := isN_C hy
    have hC := hN.2.2.2.2.2
    have hcb := hO.2.2.2.2 c hc
    unfold CrN at hcb
    have hrt := hr (by omega)
    obtain ⟨g1, g2⟩ := sndC_ok hO hch hrt j (by omega)
    obtain ⟨d, r1, r2, r3, r4, r5, r6, r7, π, rk, hf, hcn, h6⟩ := send_ok hO g1 (by omega) hrt
    have hE : Env0 B n I L Q R y N (sndC N (nC N c 0) j Fa) := ⟨hy, hN, hO, hV, fun q hq => by have := g1.2.2 q hq; omega⟩
    obtain ⟨I1, L1, e1, e2, e3, e4⟩ := e_measure hE hf g1.2.1
    obtain ⟨I2, f1, f2, f3⟩ := e_push e4 e2 (show nC N c 0 < 6 by omega) (by rw [r1]; exact fun e => by cases e) r7
    have hN2 : NetIs B n I2 L1 Q R y N := e4.2.1.same (fun a h1 h2 => f2 a (by omega)) rfl
    obtain ⟨I', L', s1, s2⟩ := ih n1 (j + 1) I2 L1 (by omega) (by omega) hy hN2 hO f3 (fun a ha => by rw [f2 a (by omega), e3.1 a (by omega) (by omega) (by omega), hF a ha]) (fun a ha => by rw [e3.2 a (by omega), hG a ha])
    refine ⟨I', L', ?_, s2⟩
    have hC1 := e4.2.1.2.2.2.2.2
    rw [← s1, fX0_seek_L17]
    simp (disch := first | assumption | omega) only [ob1_some, ob2_some, bnd_eq, gd_true, oc_none, oc_some, ↓reduceIte, nI_add, nI_1, nI_leI, nI_ltI, nI_eq, l0, l1, l2, l3, L0, if_pos, if_neg, k_Net, g_towns, p_towns, g_size, p_size, g_roads, g_tolls, g_crowds, a_tolls, s_tolls, r_crowds, a_crowd, s_crowd, q_roads, w_roads, u2_eq, u2_ne, hC, hC1, e1, f1]
theorem e_seek_L10 {B n : Nat} {Q : Nat → Nat → Option Nat} {R : Nat → RDt} {y : Nat} {N : NET} (hO : NetOK N) (hy : isN y) (hr : ∀ c, c < 3 → 0 < nC N c 1 → Rch N (nC N c 0)) (k : AH → Option AH) {Ia : Nat → Nat → Int32} {La : Nat → Nat → Int64} :
    ∀ (m n' c : Nat) (I : Nat → Nat → Int32) (L : Nat → Nat → Int64), c + m = 3 → m < n' → NetIs B n I L Q R y N → Cheap N (flAll N c) (nD N c) → (∀ q, q < 13 → I 28 q = nI (flAll N c q)) → (∀ a, a < 28 ∨ 33 ≤ a → I a = Ia a) → (∀ a, a < 28 ∨ 33 ≤ a → L a = La a) →
    ∃ (I' : Nat → Nat → Int32) (L' : Nat → Nat → Int64), fX0_seek_L10 (B + 26) (B + y) k n' (nI c) (MK B n I L Q R) = k (MK B n I' L' Q R) ∧ NetIs B n I' L' Q R y N ∧ (∀ q, q < 13 → I' 28 q = nI (flAll N 3 q)) ∧ (∀ a, a < 28 ∨ 33 ≤ a → I' a = Ia a) ∧ (∀ a, a < 28 ∨ 33 ≤ a → L' a = La a) := by
  intro m
  induction m with
  | zero =>
    intro n' c I L hc hn hN hch hV hF hG
    obtain ⟨n1, rfl⟩ := suc_of hn
    rw [show c = 3 by omega] at hV ⊢
    refine ⟨I, L, ?_, hN, hV, hF, hG⟩
    rw [fX0_seek_L10]
    simp (disch := first | assumption | omega) only [ob1_some, ob2_some, bnd_eq, gd_true, oc_none, oc_some, ↓reduceIte, nI_add, nI_1, nI_leI, nI_ltI, nI_eq, l0, l1, l2, l3, L0, if_pos, if_neg, u2_eq, u2_ne]
  | succ m ih =>
    intro n' c I L hc hn hN hch hV hF hG
    obtain ⟨n1, rfl⟩ := suc_of hn
    have hcb := hO.2.2.2.2 c (by omega)
    unfold CrN at hcb
    have hd := nD_le hO (c + 1) (by omega)
    have hds : nD N (c + 1) = nD N c + nC N c 1 := rfl
    have c3 : ¬ (3 : Int32) ≤ nI c := by rw [l3, nI_leI (by omega) (by omega)]; omega
    obtain ⟨I1, L1, r1, r2, r3, r4, r5⟩ := e_seek_L17 (c := c) (by omega) hch (by omega) (hr c (by omega)) (fun (g23 : AH) =>
        bnd (nI c + (1 : Int32)) fun y24 =>
        fX0_seek_L10 (B + 26) (B + y) k n1 y24 g23) (nC N c 1) lf 0 I L (by omega) (by show _ < 1000; omega) hy hN hO hV hF hG
    have hch1 : Cheap N (flAll N (c + 1)) (nD N (c + 1)) := by
      show Cheap N (sndC N (nC N c 0) (nC N c 1) (flAll N c)) (nD N c + nC N c 1)
      by_cases h0 : nC N c 1 = 0
      · rw [h0]; exact hch
      · exact (sndC_ok hO hch (hr c (by omega) (by omega)) (nC N c 1) (by omega)).1
    obtain ⟨I', L', s1, s2⟩ := ih n1 (c + 1) I1 L1 (by omega) (by omega) r2 hch1 r3 r4 r5
    refine ⟨I', L', ?_, s2⟩
    rw [fX0_seek_L10, if_neg c3]
    refine r1.trans ?_
    rw [bnd_eq, nI_1]
    exact s1
theorem flAll_cheap {N : NET} (hO : NetOK N) (hr : ∀ c, c < 3 → 0 < nC N c 1 → Rch N (nC N c 0)) : ∀ c : Nat, c ≤ 3 → Cheap N (flAll N c) (nD N c)
  | 0, _ => bf_zero hO
  | c + 1, hc => by
    have hd := nD_le hO (c + 1) (by omega)
    have hds : nD N (c + 1) = nD N c + nC N c 1 := rfl
    show Cheap N (sndC N (nC N c 0) (nC N c 1) (flAll N c)) (nD N c + nC N c 1)
    by_cases h0 : nC N c 1 = 0
    · rw [h0]; exact flAll_cheap hO hr c (by omega)
    · exact (sndC_ok hO (flAll_cheap hO hr c (by omega)) (hr c (by omega) (by omega)) (nC N c 1) (by omega)).1
theorem cC_loads {B : Nat} : (celf B)[28]? = some (fun I _ _ => .inl (0, 13, .inl I)) := rfl
theorem isU_C : isU 27 := Or.inl rfl
theorem e_seek {B n : Nat} {I : Nat → Nat → Int32} {L : Nat → Nat → Int64} {Q : Nat → Nat → Option Nat} {R : Nat → RDt} {y : Nat} {N : NET} (hy : isN y) (hN : NetIs B n I L Q R y N) (hO : NetOK N) (hr : ∀ c, c < 3 → 0 < nC N c 1 → Rch N (nC N c 0)) :
    ∃ (I' : Nat → Nat → Int32) (L' : Nat → Nat → Int64), fX0_seek (B + 26) (B + y) (MK B n I L Q R) = some (MK B n I' L' Q R) ∧ (∀ a, a < 27 ∨ 33 ≤ a → I' a = I a) ∧ (∀ a, a < 27 ∨ 33 ≤ a → L' a = L a) ∧ SumIs I' L' 27 (totN N (flAll N 3) (nM N)) := by
  have hap := isN_C hy
  obtain ⟨I1, e1, e2, e3⟩ := e_fill (B := B) (n := n) (I := I) (L := L) (Q := Q) (R := R) (v := (0 : Int32)) cC_loads (by decide)
  have hN1 : NetIs B n I1 L Q R y N := hN.same (fun a h1 h2 => e2 a (by omega)) rfl
  obtain ⟨I2, L2, r1, r2, r3, r4, r5⟩ := e_seek_L10 hO hy hr (fun (g26 : AH) =>
    ob1 (gR g26 (B + 26) 0 1) fun b27 =>
    ob1 (gR g26 (B + 26) 0 0) fun b29 =>
    gd (ckO g26 (B + y) 1) <|
    ob1 (fX1_addUp (B + y) b27 b29 g26) fun g32 =>
    some g32) 3 lf 0 I1 L rfl (by decide) hN1 (bf_zero hO) e3 (fun _ _ => rfl) (fun _ _ => rfl)
  have hch := flAll_cheap hO hr 3 (by omega)
  have hd3 := nD_le hO 3 (by omega)
  have h13 := hO.2.2.1
  obtain ⟨I3, L3, s1, s2, s3, s4⟩ := e_addUp (kl := 28) (ld := flAll N 3) isU_C hy r2 hO cC_loads (by decide) (fun q hq => r3 q (by omega)) (fun q hq => by have := hch.2.2 q hq; omega)
  refine ⟨I3, L3, ?_, fun a ha => by rw [s2 a (by omega), r4 a (by omega), e2 a (by omega)], fun a ha => by rw [s3 a (by omega), r5 a (by omega)], s4⟩
  unfold fX0_seek
  rw [g_cloads, ob1_some, e1, ob1_some]
  refine r1.trans ?_
  rw [g_cloads, ob1_some, g_csum, ob1_some, k_Net hy, gd_true, s1, ob1_some]
