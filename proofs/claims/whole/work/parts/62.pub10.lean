/-! loads laid into a list -/
theorem nI_subLt {u a b : Nat} (hu : u < 2147483648) (ha : a < 2147483648) (hb : b < 2147483648) : (nI u < nI a - nI b) = (u + b < a) := by
  have e : (nI a - nI b).toInt = (a : Int) - (b : Int) := by
    rw [Int32.toInt_sub, nI_toInt ha, nI_toInt hb]
    exact Int.bmod_eq_of_le (by omega) (by omega)
  rw [Int32.lt_iff_toInt_lt, e, nI_toInt hu]
  exact propext ⟨fun h => by omega, fun h => by omega⟩
def px (x : Int32) : Option Nat := if x < 0 then none else some x.toNatClampNeg
theorem px_cases (x : Int32) : (x < 0 ∧ px x = none) ∨ (∃ u, u < 2147483648 ∧ x = nI u ∧ px x = some u) := by
  unfold px
  by_cases c : x < 0
  · exact Or.inl ⟨c, if_pos c⟩
  · obtain ⟨u, hu, rfl⟩ := nI_of c
    exact Or.inr ⟨u, hu, rfl, by rw [if_neg c, nI_clamp hu]⟩
def laySt (v : Nat → Int64) (ld : Nat → Nat) (u r : Nat) : Nat → Int64 := fun j => if u ≤ j ∧ j < u + r then lN (ld (j - u)) else v j
def A_lay (s : STT) (x f m : Int32) : Int32 × STT := match ix x 4 with
  | some l => (match ix m 3 with
    | some mode => (match stL s l with
      | some q => if canAll (stN s) (rowsN (stN s)) = true then (if nM (stN s) = 0 then (0, s) else match px f with
        | none => (-13, s)
        | some u => if u + nM (stN s) ≤ q.1 then (nI (nM (stN s)), setLs s l (some (q.1, laySt q.2 (stF (stN s) mode (rowsN (stN s))).1.1 u (nM (stN s))))) else (-13, setLs s l (some (q.1, laySt q.2 (stF (stN s) mode (rowsN (stN s))).1.1 u (q.1 - u))))) else (-3, s)
      | none => (-11, s))
    | none => (-1, s))
  | none => (-1, s)
theorem e_lay_L58 {B n : Nat} {I : Nat → Nat → Int32} {La : Nat → Nat → Int64} {Q : Nat → Nat → Option Nat} {R : Nat → RDt} {l x u len : Nat} {N : NET} {ld : Nat → Nat} (hl : l < 4) (hx : isS x) (hM : I 1 1 = nI (nM N)) (hm : nM N ≤ 12) (hlen : I (100 + 2 * l) 0 = nI len) (h24 : len ≤ 24) (hu : u < 2147483648) (hld : ∀ q, q < 13 → I (x + 1) q = nI (ld q)) (hb : ∀ q, ld q ≤ 36) (k : AH → Option (Int32 × AH)) :
    ∀ (m n' r : Nat) (L : Nat → Nat → Int64), r + m = nM N → m < n' → (r = 0 ∨ u + r ≤ len) → (∀ a, a ≠ 100 + 2 * l + 1 → L a = La a) → (∀ j, L (100 + 2 * l + 1) j = laySt (La (100 + 2 * l + 1)) ld u r j) →
    ∃ L' : Nat → Nat → Int64, (∀ a, a ≠ 100 + 2 * l + 1 → L' a = La a) ∧ (if nM N = 0 ∨ u + nM N ≤ len then fX9_lay_L58 B (nI u) (B + (100 + 2 * l)) (B + x) k n' (nI r) (MK B n I L Q R) = k (MK B n I L' Q R) ∧ (∀ j, L' (100 + 2 * l + 1) j = laySt (La (100 + 2 * l + 1)) ld u (nM N) j) else fX9_lay_L58 B (nI u) (B + (100 + 2 * l)) (B + x) k n' (nI r) (MK B n I L Q R) = some (-13, MK B n I L' Q R) ∧ (∀ j, L' (100 + 2 * l + 1) j = laySt (La (100 + 2 * l + 1)) ld u (len - u) j)) := by
  have hr := isRl hl
  intro m
  induction m with
  | zero =>
    intro n' r L hj hn hc hF hV
    obtain ⟨n1, rfl⟩ := suc_of hn
    refine ⟨L, hF, ?_⟩
    rw [if_pos (by omega)]
    refine ⟨?_, fun j => by rw [hV j, show r = nM N by omega]⟩
    rw [fX9_lay_L58, g_Wnow, ob1_some, g_size isN1, ob1_some, hM, if_pos (by rw [nI_leI (by omega) (by omega)]; omega)]
  | succ m ih =>
    intro n' r L hj hn hc hF hV
    obtain ⟨n1, rfl⟩ := suc_of hn
    have hlr := hld r (by omega)
    have e0 : fX9_lay_L58 B (nI u) (B + (100 + 2 * l)) (B + x) k (n1 + 1) (nI r) (MK B n I L Q R) = if u + r < len then fX9_lay_L58 B (nI u) (B + (100 + 2 * l)) (B + x) k n1 (nI (r + 1)) (MK B n I (u2 L (100 + 2 * l + 1) (u + r) (lN (ld r))) Q R) else some (-13, (MK B n I L Q R)) := by
      rw [fX9_lay_L58, g_Wnow, ob1_some, g_size isN1, ob1_some, hM, if_neg (by rw [nI_leI (by omega) (by omega)]; omega), if_neg (nI_pos (by omega)), g_rowsize hr, ob1_some, hlen]
      by_cases c : u + r < len
      · have hb1 := hb r
        rw [if_pos c, if_pos (by rw [nI_subLt (by omega) (by omega) (by omega)]; exact c), g_longs hr, ob1_some, g_loads hx, ob1_some, a_loads hx (by omega), ob1_some, hlr, nI_add, s_longs hr (by omega), ob1_some, bnd_eq, nI_1, nI_l (by omega)]
      · rw [if_neg c, if_neg (by rw [nI_subLt (by omega) (by omega) (by omega)]; exact c)]
    rw [e0]
    by_cases c : u + r < len
    · rw [if_pos c]
      exact ih n1 (r + 1) (u2 L (100 + 2 * l + 1) (u + r) (lN (ld r))) (by omega) (by omega) (Or.inr (by omega)) (fun a ha => by rw [u2_nk ha]; exact hF a ha) (fun j => by
        by_cases e : j = u + r
        · rw [e, u2_eq, laySt, if_pos (by omega), show u + r - u = r by omega]
        · rw [u2_ne (Or.inr e), hV j]
          unfold laySt
          by_cases g : u ≤ j ∧ j < u + r
          · rw [if_pos g, if_pos (by omega)]
          · rw [if_neg g, if_neg (by omega)])
    · rw [if_neg c]
      refine ⟨L, hF, ?_⟩
      rw [if_neg (by omega)]
      refine ⟨rfl, fun j => ?_⟩
      rw [hV j]
      unfold laySt
      by_cases g : u ≤ j ∧ j < u + r
      · rw [if_pos g, if_pos (by omega)]
      · rw [if_neg g, if_neg (by omega)]
theorem c_lay {B n : Nat} {I : Nat → Nat → Int32} {L : Nat → Nat → Int64} {Q : Nat → Nat → Option Nat} {R : Nat → RDt} {s : STT} (h : IsC B n I L Q R s) (x f m : Int32) : RunC B I L (fX9_lay B x f m (MK B n I L Q R)) (A_lay s x f m) := by
  obtain ⟨fp, fs, fc, h0⟩ := id h
  have hO := h0.1.2.2.1
  have hm12 := h0.1.2.2.2.1
  have hd3 := nD_le hO 3 (by omega)
  unfold A_lay fX9_lay
  rw [ix4, ob1_some]
  rcases ix_cases x (m := 4) (by decide) with ⟨l, h1, rfl, h3⟩ | ⟨h1, h2⟩
  · rw [h3, if_neg (bS l), ix3, ob1_some]
    dsimp only
    rcases ix_cases m (m := 3) (by decide) with ⟨mode, m1, rfl, m3⟩ | ⟨m1, m2⟩
    · rw [m3, if_neg (bS mode)]
      dsimp only
      have hr := isRl h1
      have hL := h0.1.2.2.2.2.2.2.2 l h1
      rw [g_Wrows, ob1_some, r_rows h1, ob1_some, k_Row hr, gd_true, e_lmiss h1 hL, ob1_some]
      cases hq : stL s l with
      | none => exact RunC.same h rfl
      | some q =>
        rw [if_pos (by rfl)]
        dsimp only
        obtain ⟨I', L', fs', r1, r2, r3, r4, r5⟩ := e_steadyOf h0 m1
        obtain ⟨hC, ⟨c1, c2, c3, c4, c5, c6⟩, hF⟩ := id r2
        obtain ⟨s1, s2⟩ := (c5 mode m1 r3).2
        have hx := isSm m1
        have hL1 := hC.2.2.2.2.2.2.2 l h1
        rw [hq] at hL1
        obtain ⟨l1, l2, l3⟩ := id hL1
        rw [r1, ob2_some, g_stands hx, ob1_some, s1]
        cases hc : canAll (stN s) (rowsN (stN s)) with
        | false => exact RunC.rep r2 (fun a ha => r5 a (by omega)) rfl
        | true =>
          obtain ⟨t1, t2, t3, t4⟩ := s2 hc
          rw [if_neg (by decide), if_pos rfl]
          have hM := hC.2.1.2.1
          by_cases z : nM (stN s) = 0
          · rw [if_pos z]
            refine RunC.rep r2 (fun a ha => r5 a (by omega)) ?_
            show fX9_lay_L58 B f (B + (100 + 2 * l)) (B + (64 + 10 * mode)) _ (999 + 1) 0 (MK B n I' L' Q R) = _
            rw [fX9_lay_L58, g_Wnow, ob1_some, g_size isN1, ob1_some, hM, if_pos (by rw [l0, nI_leI (by omega) (by omega)]; omega), ob1_some, g_size isN1, ob1_some, hM, z]
            rfl
          · rw [if_neg z]
            rcases px_cases f with ⟨f1, f2⟩ | ⟨u, u1, rfl, u3⟩
            · rw [f2]
              refine RunC.rep r2 (fun a ha => r5 a (by omega)) ?_
              show fX9_lay_L58 B f (B + (100 + 2 * l)) (B + (64 + 10 * mode)) _ (999 + 1) 0 (MK B n I' L' Q R) = _
              rw [fX9_lay_L58, g_Wnow, ob1_some, g_size isN1, ob1_some, hM, if_neg (by rw [l0, nI_leI (by omega) (by omega)]; omega), if_pos f1]
            · rw [u3]
              dsimp only
              obtain ⟨L2, v1, v2⟩ := e_lay_L58 (La := L') (Q := Q) (R := R) (B := B) (n := n) h1 hx hM hm12 l1 l2 u1 t1.1 (fun q => Nat.le_trans (t4.le q) (by omega)) (fun (g35 : AH) =>
                ob1 (gR g35 B 9 0) fun b36 =>
                ob1 (gI g35 b36 1 1) fun v38 =>
                some (v38, g35)) (nM (stN s)) lf 0 L' (by omega) (by show _ < 1000; omega) (Or.inl rfl) (fun _ _ => rfl) (fun j => by rw [laySt, if_neg (by omega)])
              have key : ∀ r, (∀ j, L2 (100 + 2 * l + 1) j = laySt (L' (100 + 2 * l + 1)) (stF (stN s) mode (rowsN (stN s))).1.1 u r j) → RepC B n I' L2 Q R (setLs s l (some (q.1, laySt q.2 (stF (stN s) mode (rowsN (stN s))).1.1 u r))) true fs' fc := fun r hr2 => by
                have hC1 := hC.setList (I' := I') (L' := L2) (v := some (q.1, laySt q.2 (stF (stN s) mode (rowsN (stN s))).1.1 u r)) h1 ⟨l1, l2, fun j hj => by
                  rw [hr2 j]
                  show _ = laySt q.2 (stF (stN s) mode (rowsN (stN s))).1.1 u r j
                  unfold laySt
                  rw [l3 j hj]⟩ (fun _ _ => rfl) v1
                exact r2.core hC1 rfl (fun _ _ => rfl) rfl rfl (fun a ha => v1 a (by omega))
              have hfr : ∀ a, 108 ≤ a → I' a = I a ∧ L2 a = L a := fun a ha => ⟨(r5 a (by omega)).1, by rw [v1 a (by omega), (r5 a (by omega)).2]⟩
              by_cases c : u + nM (stN s) ≤ q.1
              · rw [if_pos (Or.inr c)] at v2
                rw [if_pos c]
                refine ⟨n, I', L2, Q, R, ?_, ⟨true, fs', fc, key _ v2.2⟩, hfr⟩
                refine Eq.trans v2.1 ?_
                rw [g_Wnow, ob1_some, g_size isN1, ob1_some, hM]
              · rw [if_neg (by omega)] at v2
                rw [if_neg c]
                exact ⟨n, I', L2, Q, R, v2.1, ⟨true, fs', fc, key _ v2.2⟩, hfr⟩
    · rw [m1, if_pos bN]
      exact RunC.same h rfl
  · rw [h1, if_pos bN]
    exact RunC.same h rfl
/-! a road is thought of -/
theorem NetIs.sameQ {B n : Nat} {I : Nat → Nat → Int32} {L : Nat → Nat → Int64} {Q : Nat → Nat → Option Nat} {R : Nat → RDt} {I' : Nat → Nat → Int32} {L' : Nat → Nat → Int64} {Q' : Nat → Nat → Option Nat} {x : Nat} {N : NET} (h : NetIs B n I L Q R x N) (hI : ∀ k, x ≤ k → k < x + 7 → I' k = I k) (hL : L' (x + 2) = L (x + 2)) (hQ : Q' (x + 1) = Q (x + 1)) : NetIs B n I' L' Q' R x N := by
  obtain ⟨g1, g2, g3, g4, g5, g6⟩ := h
  have had : ∀ r, adr Q' x r = adr Q x r := fun r => by unfold adr; rw [hQ]
  exact ⟨by rw [hI x (by omega) (by omega)]; exact g1, by rw [hI x (by omega) (by omega)]; exact g2, fun r hr => by rw [had, hQ]; exact g3 r hr, fun r hr => by rw [had]; exact g4 r hr, fun r hr => by rw [hL]; exact g5 r hr, fun c j hc hj => by rw [hI _ (by omega) (by omega)]; exact g6 c j hc hj⟩
theorem Core.sameQ {B n : Nat} {I : Nat → Nat → Int32} {L : Nat → Nat → Int64} {Q : Nat → Nat → Option Nat} {R : Nat → RDt} {I' : Nat → Nat → Int32} {L' : Nat → Nat → Int64} {Q' : Nat → Nat → Option Nat} {s : STT} (h : Core B n I L Q R s) (h02 : I' 0 2 = I 0 2) (hI : ∀ a, (1 ≤ a ∧ a < 17) ∨ (58 ≤ a ∧ a < 60) ∨ (94 ≤ a ∧ a < 108) → I' a = I a) (hL : ∀ a, (1 ≤ a ∧ a < 17) ∨ (94 ≤ a ∧ a < 108) → L' a = L a) (hQ : ∀ a, a ≠ 34 → Q' a = Q a) : Core B n I' L' Q' R s := by
  obtain ⟨h0, h1, h2, h3, h4, h5, h6, h7⟩ := h
  exact ⟨h0, h1.sameQ (fun k a b => hI k (by omega)) (hL 3 (by omega)) (hQ 2 (by decide)), h2, h3, ⟨by rw [h02]; exact h4.1, fun M hM => ⟨(h4.2 M hM).1.sameQ (fun k a b => hI k (by omega)) (hL 11 (by omega)) (hQ 10 (by decide)), (h4.2 M hM).2⟩⟩, h5.same (by rw [hI 58 (by omega)]) (hI 59 (by omega)), fun t ht => (h6 t ht).same (hI _ (by omega)) (hQ _ (by omega)), fun l hl => (h7 l hl).same (hI _ (by omega)) (hL _ (by omega))⟩
theorem Core.grow {B n : Nat} {I : Nat → Nat → Int32} {L : Nat → Nat → Int64} {Q : Nat → Nat → Option Nat} {R : Nat → RDt} {s : STT} {d : RDt} (h : Core B n I L Q R s) : Core B (n + 1) I L Q (updR R n d) s := by
  obtain ⟨h0, h1, h2, h3, h4, h5, h6, h7⟩ := h
  refine ⟨by omega, h1.grow (by omega), h2, h3, ⟨h4.1, fun M hM => ⟨(h4.2 M hM).1.grow (by have := (h4.2 M hM).2.2; omega), (h4.2 M hM).2⟩⟩, h5, fun t ht => ?_, h7⟩
  have g := h6 t ht
  cases hv : stY s t with
  | none => rw [hv] at g; exact g
  | some v =>
    rw [hv] at g
    obtain ⟨g1, g2, g3, g4, g5⟩ := g
    refine ⟨g1, g2, g3, g4, fun j hj => ?_⟩
    have p := g5 j hj
    unfold PlIs at p ⊢
    cases hd : v.2.2 j with
    | none => rw [hd] at p; exact p
    | some e =>
      rw [hd] at p
      obtain ⟨⟨a, p1, p2, p3⟩, p4⟩ := p
      exact ⟨⟨a, p1, p2.grow, by rw [rda_grow p2]; exact p3⟩, p4⟩
def jx (N : NET) (f t : Int32) : Option (Nat × Nat) := match ix f (nT N) with
  | some j => (match ix t (nT N) with
    | some k => if j = k then none else some (j, k)
    | none => none)
  | none => none
theorem jx_cases {N : NET} (f t : Int32) (hm : nT N ≤ 6) : (∃ j k, j < nT N ∧ k < nT N ∧ j ≠ k ∧ f = nI j ∧ t = nI k ∧ jx N f t = some (j, k)) ∨ (jx N f t = none ∧ ∀ j k, j < nT N → k < nT N → j ≠ k → ¬ (f = nI j ∧ t = nI k)) := by
  unfold jx
  rcases ix_cases f (m := nT N) (by omega) with ⟨j, j1, rfl, j3⟩ | ⟨j1, j2⟩
  · rw [j3]
    dsimp only
    rcases ix_cases t (m := nT N) (by omega) with ⟨k, k1, rfl, k3⟩ | ⟨k1, k2⟩
    · rw [k3]
      dsimp only
      by_cases e : j = k
      · refine Or.inr ⟨if_pos e, fun a b ha hb hab ⟨e1, e2⟩ => ?_⟩
        rw [nI_eq (by omega) (by omega)] at e1 e2
        omega
      · exact Or.inl ⟨j, k, j1, k1, e, rfl, rfl, if_neg e⟩
    · rw [k1]
      exact Or.inr ⟨rfl, fun a b ha hb hab ⟨_, e2⟩ => k2 b hb e2⟩
  · rw [j1]
    exact Or.inr ⟨rfl, fun a b ha hb hab ⟨e1, _⟩ => j2 a ha e1⟩
theorem e_joins_jx {B n : Nat} {I : Nat → Nat → Int32} {L : Nat → Nat → Int64} {Q : Nat → Nat → Option Nat} {R : Nat → RDt} {x : Nat} {N : NET} {f t : Int32} (hx : isN x) (hN : NetIs B n I L Q R x N) (hm : nT N ≤ 6) : fX1_joins (B + x) f t (MK B n I L Q R) = some (bz (jx N f t).isSome) := by
  rcases e_joins (f := f) (t := t) hx hN hm with ⟨j, k, h1, h2, h3, h4, h5, h6⟩ | ⟨h1, h2⟩
  · rcases jx_cases (N := N) f t hm with ⟨j', k', a1, a2, a3, a4, a5, a6⟩ | ⟨a1, a2⟩
    · rw [h6, a6]; rfl
    · exact absurd ⟨h4, h5⟩ (a2 j k h1 h2 h3)
  · rcases jx_cases (N := N) f t hm with ⟨j', k', a1, a2, a3, a4, a5, a6⟩ | ⟨a1, a2⟩
    · exact absurd ⟨a4, a5⟩ (h1 j' k' a1 a2 a3)
    · rw [h2, a1]; rfl
theorem bS2 {α : Type} (j : α) : ¬ bz (some j).isSome = (0 : Int32) := by show ¬ bz true = 0; decide
theorem bN2 {α : Type} : bz (none : Option α).isSome = (0 : Int32) := by show bz false = 0; decide
def lnR (j k b sl : Nat) : RD := (j, k, 1, b, sl, 0, 0)
def A_adding (N : NET) (m f t : Int32) (b sl : Int64) : Int64 := match ix m 3 with
  | some mode => (match jx N f t with
    | some p => (match lx b 100000000000000000 with
      | some w => (match lx sl 100000000000000 with
        | some v => diffA (totS N mode (rowsN N)) (totS (putRd N (lnR p.1 p.2 w v)) mode (rowsN (putRd N (lnR p.1 p.2 w v))))
        | none => NOv)
      | none => NOv)
    | none => NOv)
  | none => NOv
theorem putRd_ok {N : NET} {d : RD} (hO : NetOK N) (hm : nM N ≤ 12) (hd : RDok d) (h1 : dFrom d < nT N) (h2 : dTo d < nT N) (h3 : dFrom d ≠ dTo d) : NetOK (putRd N d) := by
  refine ⟨hO.1, hO.2.1, by show nM N + 1 ≤ 13; omega, fun r hr => ?_, hO.2.2.2.2⟩
  have hr : r < nM N + 1 := hr
  show RDok (if r = nM N then d else nRd N r) ∧ dFrom (if r = nM N then d else nRd N r) < nT N ∧ dTo (if r = nM N then d else nRd N r) < nT N ∧ dFrom (if r = nM N then d else nRd N r) ≠ dTo (if r = nM N then d else nRd N r) ∧ (if r = nM N then 0 else nTl N r) ≤ 1000000000
  by_cases e : r = nM N
  · simp only [if_pos e]
    exact ⟨hd, h1, h2, h3, by decide⟩
  · simp only [if_neg e]
    exact hO.2.2.2.1 r (by omega)
theorem rda_is {B n : Nat} {R : Nat → RDt} {d : RD} (hn : B + 132 ≤ n) : rda B (updR R n (rdI d)) n = rdI d ∧ VA B (n + 1) n := rda_new hn
theorem c_adding {B n : Nat} {I : Nat → Nat → Int32} {L : Nat → Nat → Int64} {Q : Nat → Nat → Option Nat} {R : Nat → RDt} {s : STT} (h : IsC B n I L Q R s) (m f t : Int32) (b sl : Int64) : RunC B I L (fX9_adding B m f t b sl (MK B n I L Q R)) (A_adding (stN s) m f t b sl, s) := by
  obtain ⟨fp, fs, fc, h0⟩ := id h
  have hN := h0.1.2.1
  have hO := h0.1.2.2.1
  have hm12 := h0.1.2.2.2.1
  have h6 := hO.2.1
  unfold A_adding fX9_adding
  rw [ix3, ob1_some, NO_lit]
  rcases ix_cases m (m := 3) (by decide) with ⟨mode, h1, rfl, h3⟩ | ⟨h1, h2⟩
  · rw [h3, if_neg (bS mode), g_Wnow, ob1_some, k_Net isN1, gd_true, e_joins_jx isN1 hN hO.2.1, ob1_some]
    dsimp only
    rcases jx_cases (N := stN s) f t hO.2.1 with ⟨j, k, j1, j2, j3, rfl, rfl, j6⟩ | ⟨j1, j2⟩
    · rw [j6, if_neg (bS2 _), show (100000000000000000 : Int64) = lN 100000000000000000 from rfl, e_isWithin_lx, ob1_some]
      dsimp only
      rcases lx_cases b (m := 100000000000000000) (by decide) with ⟨w, w1, rfl, w3⟩ | ⟨w1, w2⟩
      · rw [w3, if_neg (bS w), show (100000000000000 : Int64) = lN 100000000000000 from rfl, e_isWithin_lx, ob1_some]
        dsimp only
        rcases lx_cases sl (m := 100000000000000) (by decide) with ⟨v, v1, rfl, v3⟩ | ⟨v1, v2⟩
        · rw [v3, if_neg (bS v)]
          dsimp only
          have hOd : RDok (lnR j k w v) := ⟨by show 1 ≤ 2; decide, w1, v1, by show 0 ≤ _; omega, by show 0 ≤ 36; decide, by show j < 6; omega, by show k < 6; omega⟩
          have hO' := putRd_ok hO hm12 hOd j1 j2 j3
          obtain ⟨I1, L1, Q1, a1, a2, a3, a4, a5⟩ := e_copyFrom isN33 isN1 (by decide) hN (by omega)
          have hC1 : Core B n I1 L1 Q1 R s := h0.1.sameQ (by rw [a3 0 (by omega)]) (fun a ha => a3 a (by omega)) (fun a ha => a4 a (by omega)) (fun a ha => a5 a ha)
          have hn := hC1.1
          have hg := e_newRoad (B := B) (n := n) (I := I1) (L := L1) (Q := Q1) (R := R) (x1 := nI j) (x2 := nI k) (x3 := nI 1) (x4 := lN w) (x6 := lN v) (x8 := lN 0) (x10 := nI 0) hn
          have hC2 := hC1.grow (d := rdI (lnR j k w v))
          have hN2 := a2.grow (d := rdI (lnR j k w v)) (by omega)
          obtain ⟨g1, g2⟩ := rda_is (R := R) (d := lnR j k w v) hn
          obtain ⟨p1, p2⟩ := e_append isN33 hN2 (by omega) g2 g1
          generalize hI3 : u2 I1 (33 : Nat) 1 (nI (nM (stN s) + 1)) = I3 at p1 p2
          generalize hL3 : u2 L1 (33 + 2 : Nat) (nM (stN s)) (lN 0) = L3 at p1 p2
          generalize hQ3 : u2 Q1 (33 + 1 : Nat) (nM (stN s)) (some n) = Q3 at p1 p2
          have fI3 : ∀ a, a < 33 ∨ 40 ≤ a → I3 a = I a := fun a ha => by rw [← hI3, u2_nk (by omega), a3 a (by omega)]
          have fL3 : ∀ a, a ≠ 35 → L3 a = L a := fun a ha => by rw [← hL3, u2_nk (by omega), a4 a (by omega)]
          have fQ3 : ∀ a, a ≠ 34 → Q3 a = Q a := fun a ha => by rw [← hQ3, u2_nk (by omega), a5 a (by omega)]
          have hC3 : Core B (n + 1) I3 L3 Q3 (updR R n (rdI (lnR j k w v))) s := hC2.sameQ (by rw [fI3 0 (by omega), a3 0 (by omega)]) (fun a ha => by rw [fI3 a (by omega), a3 a (by omega)]) (fun a ha => by rw [fL3 a (by omega), a4 a (by omega)]) (fun a ha => by rw [fQ3 a ha, a5 a (by omega)])
          have hR3 : RepC B (n + 1) I3 L3 Q3 (updR R n (rdI (lnR j k w v))) s fp fs fc := ⟨hC3, h0.2.1.same (by rw [fI3 0 (by omega)]) (by rw [fI3 0 (by omega)]) (fun a ha => fI3 a (by omega)) (fun a ha => fL3 a (by omega)), ⟨h0.2.2.1.same (fun a b1 b2 => fI3 a (by omega)), h0.2.2.2.1.same (fun a b1 b2 => fI3 a (by omega)), fun x hx => by rw [fL3 _ (by unfold isS at hx; omega)]; exact h0.2.2.2.2 x hx⟩⟩
          have f2 := hR3.2.2.2.1
          obtain ⟨I4, r1, r2, r3⟩ := e_find (A := fun _ => true) (x2 := -1) isP41 isN33 p2 hO' (fun q hq => ⟨fun e => by
            have := eq_m1 (a := q) (by omega)
            rw [show (-1 : Int32) = m1 from rfl, this] at e
            exact e.elim, fun e => by cases e⟩) (rows_le hO') f2.1 f2.2.1 f2.2.2.1 f2.2.2.2.1 f2.2.2.2.2.1 f2.2.2.2.2.2
          have hE : Env5 B (n + 1) I4 L3 Q3 (updR R n (rdI (lnR j k w v))) 48 33 41 (putRd (stN s) (lnR j k w v)) (fun _ => true) (rowsN (putRd (stN s) (lnR j k w v))) := ⟨isS48, isN33, isP41, p2.same (fun k g1 g2 => r3 k (by omega)) rfl, hO', r2, rows_wf _ _, rows_le hO', rows_pos _ _⟩
          obtain ⟨I5, L5, t1, t2, t3, t4⟩ := e_settle h1 hE (hR3.2.2.2.2 48 isS48)
          have fI5 : ∀ a, a < 33 ∨ 58 ≤ a → I5 a = I3 a := fun a ha => by rw [t2.1 a (by omega), r3 a (by omega)]
          have hr0 := r2.fix0
          have hR5 : RepC B (n + 1) I5 L5 Q3 (updR R n (rdI (lnR j k w v))) s fp fs fc := ⟨hC3.same (by rw [fI5 0 (by omega)]) (fun a ha => fI5 a (by omega)) (fun a ha => t2.2 a (by omega)), hR3.2.1.same (by rw [fI5 0 (by omega)]) (by rw [fI5 0 (by omega)]) (fun a ha => fI5 a (by omega)) (fun a ha => t2.2 a (by omega)), ⟨hR3.2.2.1.same (fun a b1 b2 => fI5 a (by omega)), hr0.same (fun a b1 b2 => t2.1 a (by omega)), fun x hx => by
            by_cases e : x = 48
            · rw [e]; exact t3
            · rw [t2.2 (x + 9) (by unfold isS at hx; omega)]; exact hR3.2.2.2.2 x hx⟩⟩
          obtain ⟨I6, L6, fs6, q1, q2, q3, q4, q5, q6⟩ := e_steadyOfX hR5 h1
          have hs48 : SteadyIs I6 L6 48 (putRd (stN s) (lnR j k w v)) mode (rowsN (putRd (stN s) (lnR j k w v))) := t4.same (fun a b1 b2 => (q6 a (by omega) (by omega)).1) (q6 _ (by omega) (by omega)).2
          have hs := (q2.2.1.2.2.2.2.1 mode h1 q3).2
          refine ⟨n + 1, I6, L6, Q3, _, ?_, ⟨true, fs6, fc, q2⟩, fun a ha => ⟨by rw [(q5 a (by omega)).1, fI5 a (by omega), fI3 a (by omega)], by rw [(q5 a (by omega)).2, t2.2 a (by omega), fL3 a (by omega)]⟩⟩
          rw [g_WthoughtNet, ob1_some, ob1_some, k_Net isN33, gd_true, a1, ob1_some, g_WthoughtNet, ob1_some, bnd_eq, bnd_eq]
          have hg' : fX3_init (MK B n I1 L1 Q1 R).1 (nI j) (nI k) 1 (lN w) (lN v) 0 0 (hnew (MK B n I1 L1 Q1 R) (.inr (3, [.int 0, .int 0, .int 0, .long 0, .long 0, .long 0, .int 0]))) = some (MK B (n + 1) I1 L1 Q1 (updR R n (rdI (lnR j k w v)))) := hg
          rw [hg', ob1_some, k_Net isN33, gd_true, show (MK B n I1 L1 Q1 R).1 = n from rfl, p1, ob1_some, g_WthoughtPaths, ob1_some, g_WthoughtNet, ob1_some, k_Paths isP41, gd_true, r1, ob1_some, g_WthoughtSteady, ob1_some, g_WthoughtNet, ob1_some, g_WthoughtPaths, ob1_some, k_Steady isS48, gd_true, t1, ob1_some, q1, ob2_some, g_WthoughtSteady, ob1_some, e_difference (isSm h1) isS48 hs hs48, ob1_some]
        · rw [v1, if_pos bN]
          exact RunC.same h rfl
      · rw [w1, if_pos bN]
        exact RunC.same h rfl
    · rw [j1, if_pos bN2]
      exact RunC.same h rfl
  · rw [h1, if_pos bN]
    exact RunC.same h rfl
/-! a road is told -/
def A_road (s : STT) (f t k : Int32) (b sl st : Int64) (kn : Int32) : Int32 × STT := match jx (stN s) f t with
  | some p => (match ix k 3 with
    | some kd => (match lx b 100000000000000000 with
      | some w => (match lx sl 100000000000000 with
        | some v => (match lx st 100000000000000 with
          | some u => (match ix kn 37 with
            | some g => if nM (stN s) < 12 then (nI (nM (stN s)), setN s (putRd (stN s) (p.1, p.2, kd, w, v, u, g))) else (-4, s)
            | none => (-2, s))
          | none => (-2, s))
        | none => (-2, s))
      | none => (-2, s))
    | none => (-1, s))
  | none => (-1, s)
theorem e_knee (x : Int32) : fX9_isWithin (Int32.toInt64 x) 36 = some (bz (ix x 37).isSome) := by
  unfold fX9_isWithin
  have e0 : (Int32.toInt64 x).toInt = x.toInt := Int32.toInt_toInt64 x
  have z0 : (0 : Int64).toInt = 0 := rfl
  have z1 : (36 : Int64).toInt = 36 := rfl
  have z2 : (0 : Int32).toInt = 0 := rfl
  rcases ix_cases x (m := 37) (by decide) with ⟨j, h1, rfl, h3⟩ | ⟨h1, h2⟩
  · rw [h3, if_neg (by rw [Int64.lt_iff_toInt_lt, e0, nI_toInt (by omega)]; omega), if_neg (by rw [Int64.lt_iff_toInt_lt, e0, nI_toInt (by omega)]; omega)]
    rfl
  · rw [h1]
    by_cases c : Int32.toInt64 x < 0
    · rw [if_pos c]; rfl
    · rw [if_neg c]
      have c2 : ¬ x < 0 := fun q => c (by
        have e1 := Int32.lt_iff_toInt_lt.mp q
        rw [Int64.lt_iff_toInt_lt, e0]
        omega)
      obtain ⟨u, hu, rfl⟩ := nI_of c2
      have : ¬ u < 37 := fun q => h2 u q rfl
      rw [if_pos (by rw [Int64.lt_iff_toInt_lt, e0, nI_toInt (by omega)]; omega)]
      rfl
theorem c_road {B n : Nat} {I : Nat → Nat → Int32} {L : Nat → Nat → Int64} {Q : Nat → Nat → Option Nat} {R : Nat → RDt} {s : STT} (h : IsC B n I L Q R s) (f t k : Int32) (b sl st : Int64) (kn : Int32) : RunC B I L (fX9_road B f t k b sl st kn (MK B n I L Q R)) (A_road s f t k b sl st kn) := by
  obtain ⟨fp, fs, fc, h0⟩ := id h
  have hN := h0.1.2.1
  have hO := h0.1.2.2.1
  have hm12 := h0.1.2.2.2.1
  have h6 := hO.2.1
  unfold A_road fX9_road
  rw [g_Wnow, ob1_some, k_Net isN1, gd_true, e_joins_jx isN1 hN hO.2.1, ob1_some]
  rcases jx_cases (N := stN s) f t hO.2.1 with ⟨j, i, j1, j2, j3, rfl, rfl, j6⟩ | ⟨j1, j2⟩
  · rw [j6, if_neg (bS2 _), e_isKind, ob1_some]
    dsimp only
    rcases ix_cases k (m := 3) (by decide) with ⟨kd, k1, rfl, k3⟩ | ⟨k1, k2⟩
    · rw [k3, if_neg (bS kd), show (100000000000000000 : Int64) = lN 100000000000000000 from rfl, e_isWithin_lx, ob1_some, bnd_eq]
      dsimp only
      rcases lx_cases b (m := 100000000000000000) (by decide) with ⟨w, w1, rfl, w3⟩ | ⟨w1, w2⟩
      · rw [w3, if_neg (bS w), show (100000000000000 : Int64) = lN 100000000000000 from rfl, e_isWithin_lx, ob1_some]
        dsimp only
        rcases lx_cases sl (m := 100000000000000) (by decide) with ⟨v, v1, rfl, v3⟩ | ⟨v1, v2⟩
        · rw [v3, if_neg (bS v), if_neg (by decide), e_isWithin_lx, ob1_some]
          dsimp only
          rcases lx_cases st (m := 100000000000000) (by decide) with ⟨u, u1, rfl, u3⟩ | ⟨u1, u2'⟩
          · rw [u3, if_neg (bS u), e_knee, ob1_some]
            dsimp only
            rcases ix_cases kn (m := 37) (by decide) with ⟨g, g1, rfl, g3⟩ | ⟨g1, g2⟩
            · rw [g3, if_neg (bS g), ob1_some, g_size isN1, ob1_some, hN.2.1]
              dsimp only
              by_cases c : nM (stN s) < 12
              · have hn := h0.1.1
                have hOd : RDok (j, i, kd, w, v, u, g) := ⟨by show kd ≤ 2; omega, w1, v1, u1, by show g ≤ 36; omega, by show j < 6; omega, by show i < 6; omega⟩
                have hO' := putRd_ok hO hm12 hOd j1 j2 j3
                have hg := e_newRoad (B := B) (n := n) (I := I) (L := L) (Q := Q) (R := R) (x1 := nI j) (x2 := nI i) (x3 := nI kd) (x4 := lN w) (x6 := lN v) (x8 := lN u) (x10 := nI g) hn
                have hg' : fX3_init (MK B n I L Q R).1 (nI j) (nI i) (nI kd) (lN w) (lN v) (lN u) (nI g) (hnew (MK B n I L Q R) (.inr (3, [.int 0, .int 0, .int 0, .long 0, .long 0, .long 0, .int 0]))) = some (MK B (n + 1) I L Q (updR R n (rdI (j, i, kd, w, v, u, g)))) := hg
                have hC2 := h0.1.grow (d := rdI (j, i, kd, w, v, u, g))
                obtain ⟨g1', g2'⟩ := rda_is (R := R) (d := (j, i, kd, w, v, u, g)) hn
                obtain ⟨p1, p2⟩ := e_append isN1 hC2.2.1 (by omega) g2' g1'
                have hC3 := hC2.setNow p2 hO' (by show nM (stN s) + 1 ≤ 12; omega) (fun a ha => u2_nk (by omega)) (fun a ha => u2_nk ha) (fun a ha => u2_nk ha)
                obtain ⟨I2, t1, t2, t3⟩ := done_changed hC3 (h0.2.2.same (fun a b1 b2 => u2_nk (by omega)) (fun x hx => u2_nk (by unfold isS at hx; omega)))
                refine ⟨n + 1, I2, _, _, _, ?_, by rw [if_pos c]; exact t2, fun a ha => ⟨by rw [t3 a (by omega) (by omega), u2_nk (by omega)], u2_nk (by omega)⟩⟩
                rw [if_pos c, if_pos (by rw [l12, nI_ltI (by omega) (by omega)]; exact c), ob1_some, bnd_eq, bnd_eq, hg', ob1_some, k_Net isN1, gd_true, show (MK B n I L Q R).1 = n from rfl, p1, ob1_some, t1, ob1_some, g_Wnow, ob1_some, g_size isN1, ob1_some, t3 1 (by decide) (by decide), u2_eq, l1, pk_sub (by omega)]
                rfl
              · rw [if_neg c, if_neg (by rw [l12, nI_ltI (by omega) (by omega)]; exact c)]
                exact RunC.same h rfl
            · rw [g1, if_pos bN]
              exact RunC.same h rfl
          · rw [u1, if_pos bN]
            exact RunC.same h rfl
        · rw [v1, if_pos bN, if_pos (by decide)]
          exact RunC.same h rfl
      · rw [w1, if_pos bN, if_pos (by decide)]
        exact RunC.same h rfl
    · rw [k1, if_pos bN]
      exact RunC.same h rfl
  · rw [j1, if_pos bN2]
    exact RunC.same h rfl
