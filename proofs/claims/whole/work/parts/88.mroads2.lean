theorem townP_ok {t : TAPE} {T p : Nat} {o : Option Nat} {v : Nat × Nat} (h : townP t T p o = some v) : v.1 < T ∧ o ≠ some v.1 := by
  unfold townP at h
  cases e : numP t 1 p with
  | none => rw [e] at h; cases h
  | some w =>
    rw [e] at h
    dsimp only at h
    by_cases c : T ≤ w.1
    · rw [if_pos c] at h; cases h
    · rw [if_neg c] at h
      by_cases c2 : o = some w.1
      · rw [if_pos c2] at h; cases h
      · rw [if_neg c2] at h
        rw [← Option.some.inj h]
        exact ⟨by omega, c2⟩
theorem numP_lt {t : TAPE} {p : Nat} {v : Nat × Nat} (h : numP t 6 p = some v) : v.1 < 1000000 := by
  rw [← numP_v h]
  exact opNv_lt (by decide)
theorem kneeP_ok {t : TAPE} {p : Nat} {v : Nat × Nat} (h : kneeP t p = some v) : v.1 ≤ 36 := by
  unfold kneeP at h
  cases e : numP t 2 p with
  | none => rw [e] at h; cases h
  | some w =>
    rw [e] at h
    dsimp only at h
    by_cases c : w.1 ≤ 36
    · rw [if_pos c] at h
      rw [← Option.some.inj h]
      exact c
    · rw [if_neg c] at h; cases h
theorem restP_ok {t : TAPE} {j k b p : Nat} {w : RD × Nat} (h : restP t j k b p = .inr w) : ∃ kd v u g, w.1 = (j, k, kd, b, v, u, g) ∧ kd ≤ 2 ∧ v < 1000000 ∧ u < 1000000 ∧ g ≤ 36 := by
  unfold restP at h
  by_cases c1 : chAt t p 43 = true
  · rw [if_pos c1] at h
    cases h1 : numP t 6 (p + 1) with
    | none => rw [h1] at h; cases h
    | some v =>
      rw [h1] at h
      dsimp only at h
      have b1 := numP_lt h1
      by_cases c2 : chAt t v.2 94 = true
      · rw [if_pos c2] at h
        cases h2 : kneeP t (v.2 + 1) with
        | none => rw [h2] at h; cases h
        | some g =>
          rw [h2] at h
          dsimp only at h
          have b2 := kneeP_ok h2
          by_cases c3 : chAt t g.2 58 = true
          · rw [if_pos c3] at h
            cases h3 : numP t 6 (g.2 + 1) with
            | none => rw [h3] at h; cases h
            | some u =>
              rw [h3] at h
              cases h
              exact ⟨2, v.1, u.1, g.1, rfl, by decide, b1, numP_lt h3, b2⟩
          · rw [if_neg c3] at h; cases h
      · rw [if_neg c2] at h
        cases h
        exact ⟨1, v.1, 0, 0, rfl, by decide, b1, by decide, by decide⟩
  · rw [if_neg c1] at h
    cases h
    exact ⟨0, 0, 0, 0, rfl, by decide, by decide, by decide, by decide⟩
theorem roadP_ok {t : TAPE} {N : NET} {p : Nat} {w : RD × Nat} (h6 : nT N ≤ 6) (h : roadP t N p = .inr w) : RDok w.1 ∧ dFrom w.1 < nT N ∧ dTo w.1 < nT N ∧ dFrom w.1 ≠ dTo w.1 ∧ nM N < 12 ∧ dBase w.1 < 1000000 ∧ dSlope w.1 < 1000000 ∧ dSteep w.1 < 1000000 := by
  unfold roadP at h
  by_cases c0 : nM N < 12
  · rw [if_pos c0] at h
    cases h1 : townP t (nT N) p none with
    | none => rw [h1] at h; cases h
    | some a =>
      rw [h1] at h
      dsimp only at h
      have a1 := (townP_ok h1).1
      by_cases c1 : chAt t a.2 62 = true
      · rw [if_pos c1] at h
        cases h2 : townP t (nT N) (a.2 + 1) (some a.1) with
        | none => rw [h2] at h; cases h
        | some b =>
          rw [h2] at h
          dsimp only at h
          obtain ⟨b1, b2⟩ := townP_ok h2
          by_cases c2 : chAt t b.2 61 = true
          · rw [if_pos c2] at h
            cases h3 : numP t 6 (b.2 + 1) with
            | none => rw [h3] at h; cases h
            | some v =>
              rw [h3] at h
              dsimp only at h
              have v1 := numP_lt h3
              obtain ⟨kd, u, x, g, e, k1, k2, k3, k4⟩ := restP_ok h
              rw [e]
              exact ⟨⟨k1, by show v.1 ≤ _; omega, by show u ≤ _; omega, by show x ≤ _; omega, k4, by show a.1 < 6; omega, by show b.1 < 6; omega⟩, a1, b1, fun q => b2 (congrArg some q), c0, v1, k2, k3⟩
          · rw [if_neg c2] at h; cases h
      · rw [if_neg c1] at h; cases h
  · rw [if_neg c0] at h; cases h
def stX (x : Sum Nat (RD × Nat)) : PST := match x with
  | .inl f => .inl f
  | .inr v => .inr v.2
theorem m_readRoad2 {B n : Nat} {I : Nat → Nat → Int32} {L : Nat → Nat → Int64} {Q : Nat → Nat → Option Nat} {R : Nat → RDt} {t : TAPE} {N0 N : NET} {p c : Nat} (hM : MNet L 109 N0) (h6 : nT N0 ≤ 6) (h2 : 2 ≤ nT N0) (hc : c < 13) (hT : nT N = nT N0) (hm : nM N = nM N0 + c) (h12 : nM N ≤ 12) (h : StM I t (.inr p)) (h9 : I 108 9 = nI c) : ∃ I' : Nat → Nat → Int32, fX10_readRoad (B + 108) (MK B n I L Q R) = some (MK B n I' L Q R) ∧ StM I' t (stX (roadP t N p)) ∧ (∀ v, roadP t N p = .inr v → I' 108 9 = nI (c + 1) ∧ Row7 I' c v.1) ∧ FrR c I I' := by
  by_cases cm : nM N < 12
  · obtain ⟨I', r1, r2, r3, r4, r5⟩ := m_readRoad (B := B) (n := n) (Q := Q) (R := R) hM h6 h2 (by omega) hc (by omega) h h9
    have e := road_eq (t := t) (N := N) (p := p) (by omega) cm
    rw [hT] at e
    rw [← e]
    unfold ofS
    cases hx : (roadS t (nT N0) p).2 with
    | inl f =>
      rw [hx] at r2
      exact ⟨I', r1, r2, fun v q => (by cases q), r5⟩
    | inr q =>
      rw [hx] at r2
      exact ⟨I', r1, r2, fun v e => by cases e; exact ⟨r3, r4⟩, r5⟩
  · have e : roadP t N p = .inl p := by rw [roadP, if_neg cm]
    rw [e]
    obtain ⟨hT', h7, h6', hp⟩ := id h
    have hF : F67 I (u2 I 108 7 1) := F67.u (Or.inr rfl)
    refine ⟨u2 I 108 7 1, ?_, StM.bad hT' hF u2_eq (by rw [u2_ne (by omega)]; exact h6') hp, fun v q => (by cases q), hF.r⟩
    unfold fX10_readRoad
    rw [g_MreadMany, ob1_some, h9, bnd_eq, m_roadMany hM (by omega), ob1_some, ob1_some, nI_add, if_pos (by rw [l12, nI_eq (by omega) (by omega)]; omega), p_MisBad, ob1_some]
def contP (t : TAPE) (f : Nat) (N : NET) (x : Sum Nat (RD × Nat)) (c : Nat) : Sum Nat (NET × Nat) := match x with
    | .inl q => .inl q
    | .inr v => if v.2 < t.1 then (if chAt t v.2 59 = true then allP t f (putRd N v.1) (v.2 + 1) (c + 1) else .inl v.2) else .inr (putRd N v.1, c + 1)
theorem allP_c {t : TAPE} {f : Nat} {N : NET} {p c : Nat} : allP t (f + 1) N p c = contP t f N (roadP t N p) c := by
  rw [allP]
  cases roadP t N p with
  | inl q => rfl
  | inr v => rfl
def FrX (I I' : Nat → Nat → Int32) : Prop := (∀ a, a ≠ 108 → a ≠ 113 → I' a = I a) ∧ ∀ j, j ≠ 6 → j ≠ 7 → j ≠ 9 → I' 108 j = I 108 j
theorem FrX.tr {I I1 I2 : Nat → Nat → Int32} (h : FrX I I1) (g : FrX I1 I2) : FrX I I2 := ⟨fun a h1 h2 => by rw [g.1 a h1 h2, h.1 a h1 h2], fun j h1 h2 h3 => by rw [g.2 j h1 h2 h3, h.2 j h1 h2 h3]⟩
theorem FrR.x {c : Nat} {I I' : Nat → Nat → Int32} (h : FrR c I I') : FrX I I' := ⟨h.1, h.2.1⟩
/-- the roads that were read -/
def Read (I : Nat → Nat → Int32) (N0 N : NET) (ds : List RD) : Prop := N = ds.foldl putRd N0 ∧ nM N = nM N0 + ds.length ∧ nT N = nT N0 ∧ (∀ d, d ∈ ds → RDok d ∧ dBase d < 1000000 ∧ dSlope d < 1000000 ∧ dSteep d < 1000000) ∧ ∀ i d, ds[i]? = some d → Row7 I i d
def EndR (I : Nat → Nat → Int32) (t : TAPE) (N0 : NET) (x : Sum Nat (NET × Nat)) : Prop := TapeM I t ∧ match x with
  | .inl f => I 108 6 = nI f ∧ f ≤ t.1 ∧ (I 108 7 = 1 ∨ (I 108 7 = 0 ∧ f < t.1))
  | .inr v => I 108 7 = 0 ∧ (∃ p, I 108 6 = nI p ∧ p ≤ t.1 ∧ ¬ p < t.1) ∧ I 108 9 = nI v.2 ∧ nM v.1 ≤ 12 ∧ ∃ ds, ds.length = v.2 ∧ Read I N0 v.1 ds
theorem m_roads_L19 {B n : Nat} {L : Nat → Nat → Int64} {Q : Nat → Nat → Option Nat} {R : Nat → RDt} {t : TAPE} {N0 : NET} (hM : MNet L 109 N0) (h6 : nT N0 ≤ 6) (h2 : 2 ≤ nT N0) (k : AH → Option (Int32 × AH)) : ∀ (m n' c p : Nat) (N : NET) (ds : List RD) (I : Nat → Nat → Int32), c + m = 13 → m < n' → ds.length = c → Read I N0 N ds → nM N ≤ 12 → StM I t (stX (roadP t N p)) → (∀ v, roadP t N p = .inr v → I 108 9 = nI (c + 1) ∧ Row7 I c v.1) →
    ∃ I' : Nat → Nat → Int32, fX10_roads_L19 (B + 108) k n' (MK B n I L Q R) = k (MK B n I' L Q R) ∧ EndR I' t N0 (contP t m N (roadP t N p) c) ∧ FrX I I' := by
  intro m
  induction m with
  | zero =>
    intro n' c p N ds I hc hn hd hR h12 hS hv
    have := hR.2.1
    omega
  | succ m ih =>
    intro n' c p N ds I hc hn hd hR h12 hS hv
    obtain ⟨n1, rfl⟩ := suc_of hn
    obtain ⟨R1, R2, R3, R4, R5⟩ := hR
    obtain ⟨I1, r1, r2, r3⟩ := m_goesOn (B := B) (n := n) (L := L) (Q := Q) (R := R) (c := 59) (by decide) hS
    have r1 : fX10_goesOn (B + 108) 59 (MK B n I L Q R) = some (bz (opG t 59 (stX (roadP t N p))), MK B n I1 L Q R) := r1
    have fx : FrX I I1 := (F67.r (c := 0) r2).x
    rw [fX10_roads_L19, r1, ob2_some]
    cases hx : roadP t N p with
    | inl f =>
      rw [hx] at r3
      obtain ⟨g1, g2, g3, g4⟩ := r3
      rw [if_pos (show bz (opG t 59 (stX (.inl f))) = 0 from rfl)]
      exact ⟨I1, rfl, ⟨g1, g3, g4, Or.inl g2⟩, fx⟩
    | inr v =>
      rw [hx] at r3
      obtain ⟨hv1, hv2⟩ := hv v hx
      have e1 : opG t 59 (stX (.inr v)) = chAt t v.2 59 := rfl
      have e2 : opGs t 59 (stX (.inr v)) = if chAt t v.2 59 = true then .inr (v.2 + 1) else .inr v.2 := rfl
      have e3 : contP t (m + 1) N (.inr v) c = if v.2 < t.1 then (if chAt t v.2 59 = true then allP t (m + 1) (putRd N v.1) (v.2 + 1) (c + 1) else .inl v.2) else .inr (putRd N v.1, c + 1) := rfl
      obtain ⟨k1, k2, k3, k4, k5, k6⟩ := roadP_ok (by omega) hx
      rw [e2] at r3
      rw [e1, e3]
      have hRd : Read I1 N0 (putRd N v.1) (ds ++ [v.1]) := by
        refine ⟨by rw [List.foldl_append, ← R1]; rfl, ?_, R3, fun d hd => ?_, fun i d hi => ?_⟩
        · rw [List.length_append]
          show nM N + 1 = nM N0 + (ds.length + 1)
          omega
        · rcases List.mem_append.mp hd with h | h
          · exact R4 d h
          · rw [List.mem_singleton.mp h]; exact ⟨k1, k6⟩
        · unfold Row7
          rw [r2.1 113 (by decide)]
          by_cases c1 : i < ds.length
          · rw [List.getElem?_append_left c1] at hi
            exact R5 i d hi
          · have hl := (List.getElem?_eq_some_iff.mp hi).1
            rw [List.length_append] at hl
            have hl : i < ds.length + 1 := hl
            have e : i = ds.length := by omega
            rw [e, List.getElem?_append_right (Nat.le_refl _), Nat.sub_self] at hi
            have hi : v.1 = d := Option.some.inj hi
            rw [← hi, e, hd]
            exact hv2
      have hlen : (ds ++ [v.1]).length = c + 1 := by rw [List.length_append, hd]; rfl
      have h9 : I1 108 9 = nI (c + 1) := by rw [r2.2 9 (by decide) (by decide)]; exact hv1
      have hM1 : nM (putRd N v.1) = nM N + 1 := rfl
      by_cases c1 : chAt t v.2 59 = true
      · have hlt : v.2 < t.1 := (of_decide_eq_true c1).1
        rw [c1, if_neg (show ¬ bz true = 0 by decide), if_pos hlt, if_pos rfl, allP_c]
        rw [if_pos c1] at r3
        obtain ⟨I2, s1, s2, s3, s4⟩ := m_readRoad2 (B := B) (n := n) (Q := Q) (R := R) (N := putRd N v.1) hM h6 h2 (show c + 1 < 13 by omega) R3 (by omega) (by omega) r3 h9
        have hRd2 : Read I2 N0 (putRd N v.1) (ds ++ [v.1]) := by
          obtain ⟨q1, q2, q3, q4, q5⟩ := hRd
          refine ⟨q1, q2, q3, q4, fun i d hi j hj => ?_⟩
          have hl := (List.getElem?_eq_some_iff.mp hi).1
          rw [s4.2.2 _ (by omega)]
          exact q5 i d hi j hj
        obtain ⟨I3, t1, t2, t3⟩ := ih n1 (c + 1) (v.2 + 1) (putRd N v.1) (ds ++ [v.1]) I2 (by omega) (by omega) hlen hRd2 (by omega) s2 s3
        refine ⟨I3, ?_, t2, (fx.tr s4.x).tr t3⟩
        rw [s1, ob1_some]
        exact t1
      · rw [Bool.eq_false_iff.mpr c1, if_pos (show bz false = 0 from rfl), if_neg (show ¬ false = true by decide)]
        rw [if_neg c1] at r3
        obtain ⟨g1, g2, g3, g4⟩ := r3
        refine ⟨I1, rfl, ⟨g1, ?_⟩, fx⟩
        by_cases c2 : v.2 < t.1
        · rw [if_pos c2]
          exact ⟨g3, g4, Or.inr ⟨g2, c2⟩⟩
        · rw [if_neg c2]
          exact ⟨g2, ⟨v.2, g3, g4, c2⟩, h9, by show nM N + 1 ≤ 12; omega, ds ++ [v.1], hlen, hRd⟩
theorem m_roads_L84 {B n : Nat} {I : Nat → Nat → Int32} {Q : Nat → Nat → Option Nat} {R : Nat → RDt} {c : Nat} (hc : c < 13) (h9 : I 108 9 = nI c) (k : AH → Option (Int32 × AH)) : ∀ (ds : List RD) (n' i : Nat) (N : NET) (L : Nat → Nat → Int64), i + ds.length = c → ds.length < n' → MNet L 109 N → nM N + ds.length ≤ 12 → (∀ d, d ∈ ds → RDok d ∧ dBase d < 1000000 ∧ dSlope d < 1000000 ∧ dSteep d < 1000000) → (∀ j d, ds[j]? = some d → Row7 I (i + j) d) →
    ∃ L' : Nat → Nat → Int64, fX10_roads_L84 (B + 108) k n' (nI (7 * i)) (MK B n I L Q R) = k (MK B n I L' Q R) ∧ MNet L' 109 (ds.foldl putRd N) ∧ ∀ a, a ≠ 109 → L' a = L a := by
  intro ds
  induction ds with
  | nil =>
    intro n' i N L hi hn hM hm hd hr
    obtain ⟨n1, rfl⟩ := suc_of hn
    have hi : i + 0 = c := hi
    refine ⟨L, ?_, hM, fun _ _ => rfl⟩
    rw [fX10_roads_L84, g_MreadMany, ob1_some, h9, show (7 : Int32) = nI 7 from rfl, nI_mulx, if_pos (by rw [nI_leI (by omega) (by omega)]; omega)]
  | cons d ds ih =>
    intro n' i N L hi hn hM hm hd hr
    obtain ⟨n1, rfl⟩ := suc_of hn
    have hi : i + (ds.length + 1) = c := hi
    have hm : nM N + (ds.length + 1) ≤ 12 := hm
    have hn : ds.length + 1 < n1 + 1 := hn
    obtain ⟨d1, d2, d3, d4⟩ := hd d List.mem_cons_self
    have hr0 := hr 0 d rfl
    obtain ⟨L1, r1, r2, r3⟩ := m_puts (B := B) (n := n) (I := I) (Q := Q) (R := R) hM (by omega) d1
    obtain ⟨L2, s1, s2, s3⟩ := ih n1 (i + 1) (putRd N d) L1 (by omega) (by omega) r2 (by show nM N + 1 + ds.length ≤ 12; omega) (fun e he => hd e (List.mem_cons_of_mem _ he)) (fun j e he => by
      have := hr (j + 1) e he
      rw [show i + 1 + j = i + (j + 1) by omega]
      exact this)
    refine ⟨L2, ?_, s2, fun a ha => by rw [s3 a ha, r3 a ha]⟩
    have f0 : I 113 (7 * i) = nI (dFrom d) := hr0 0 (by decide)
    have f1 : I 113 (7 * i + 1) = nI (dTo d) := hr0 1 (by decide)
    have f2 : I 113 (7 * i + 2) = nI (dKind d) := hr0 2 (by decide)
    have f3 : I 113 (7 * i + 3) = nI (dBase d) := hr0 3 (by decide)
    have f4 : I 113 (7 * i + 4) = nI (dSlope d) := hr0 4 (by decide)
    have f5 : I 113 (7 * i + 5) = nI (dSteep d) := hr0 5 (by decide)
    have f6 : I 113 (7 * i + 6) = nI (dKnee d) := hr0 6 (by decide)
    rw [fX10_roads_L84, g_MreadMany, ob1_some, h9, show (7 : Int32) = nI 7 from rfl, nI_mulx, if_neg (by rw [nI_leI (by omega) (by omega)]; omega)]
    rw [g_Mread, ob1_some, a_Mread (by omega), ob1_some, f0, ob1_some, show (1 : Int32) = nI 1 from rfl, nI_add, a_Mread (by omega), ob1_some, f1, ob1_some, show (2 : Int32) = nI 2 from rfl, nI_add, a_Mread (by omega), ob1_some, f2, ob1_some, show (3 : Int32) = nI 3 from rfl, nI_add, a_Mread (by omega), ob1_some, f3, ob1_some, show (4 : Int32) = nI 4 from rfl, nI_add, a_Mread (by omega), ob1_some, f4, ob1_some, show (5 : Int32) = nI 5 from rfl, nI_add, a_Mread (by omega), ob1_some, f5, ob1_some, show (6 : Int32) = nI 6 from rfl, nI_add, a_Mread (by omega), ob1_some, f6, nI_l (by omega), nI_l (by omega), nI_l (by omega), r1, ob1_some, bnd_eq, nI_add, show 7 * i + 7 = 7 * (i + 1) by omega]
    exact s1
theorem IsM.clr {I I' : Nat → Nat → Int32} {L : Nat → Nat → Int64} {s : STT} (h : IsM I L s) (h3 : I' 108 3 = I 108 3) (h5 : I' 108 5 = 0) (hI : ∀ a, a ≠ 108 → a ≠ 113 → I' a = I a) : IsM I' L (setT s (0, (stT s).2)) := by
  obtain ⟨g1, g2, g3, g4, g5⟩ := h
  refine ⟨g1, ⟨by rw [h3]; exact g2.1, g2.2⟩, ⟨h5, fun j hj => absurd hj (Nat.not_lt_zero j)⟩, fun l hl => ?_, fun t ht => ?_⟩
  · have := g4 l hl
    show MList _ _ l (stL s l)
    unfold MList at *
    rw [hI 126 (by decide) (by decide)]
    exact this
  · have := g5 t ht
    show MTray _ _ t (stY s t)
    unfold MTray MPlace at *
    rw [hI 128 (by decide) (by decide), hI 129 (by decide) (by decide), hI 130 (by decide) (by decide)]
    exact this
theorem d_roads {B n : Nat} {I : Nat → Nat → Int32} {L : Nat → Nat → Int64} {Q : Nat → Nat → Option Nat} {R : Nat → RDt} {s : STT} (h : IsM I L s) (hs : OkS s) : RunM B n I L Q R (fX10_roads (B + 108) (MK B n I L Q R)) (A_roads s) := by
  have hM := h.1
  have hO := hs.1
  have h12 := hs.2.1
  have hT := hs.2.2.2.1
  have hI0 : FrX I (u2 (u2 (u2 I 108 6 0) 108 7 0) 108 9 0) := ⟨fun a h1 h2 => by rw [u2_nk h1, u2_nk h1, u2_nk h1], fun j h1 h2 h3 => by rw [u2_ne (by omega), u2_ne (by omega), u2_ne (by omega)]⟩
  have hS0 : StM (u2 (u2 (u2 I 108 6 0) 108 7 0) 108 9 0) (stT s) (.inr 0) := by
    refine ⟨⟨⟨?_, ?_⟩, hT⟩, ?_, ?_, Nat.zero_le _⟩
    · rw [hI0.2 5 (by decide) (by decide) (by decide)]; exact h.2.2.1.1
    · rw [hI0.1 112 (by decide) (by decide)]; exact h.2.2.1.2
    · rw [u2_ne (by omega), u2_eq]
    · rw [u2_ne (by omega), u2_ne (by omega), u2_eq]; rfl
  have h90 : u2 (u2 (u2 I 108 6 0) 108 7 0) 108 9 0 108 9 = nI 0 := u2_eq
  obtain ⟨I1, r1, r2, r3, r4⟩ := m_readRoad2 (B := B) (n := n) (L := L) (Q := Q) (R := R) (N := stN s) hM hO.2.1 hO.1 (show 0 < 13 by decide) rfl rfl h12 hS0 h90
  unfold fX10_roads A_roads
  rw [p_Mplace, ob1_some, p_MisBad, ob1_some, p_MreadMany, ob1_some, r1, ob1_some, allP_c]
  generalize u2 (u2 (u2 I 108 6 0) 108 7 0) 108 9 0 = I0 at *
  obtain ⟨I2, s1, s2, s3⟩ := m_roads_L19 (B := B) (n := n) (L := L) (Q := Q) (R := R) (t := stT s) hM hO.2.1 hO.1 (fun (g15 : AH) =>
    ob1 (gI g15 (B + 108) 10 7) fun v16 =>
    bnd (fun (g19 : AH) =>
      ob1 (pV g19 (B + 108) 10 7 (.int (1 : Int32))) fun g20 =>
      ob1 (pV g20 (B + 108) 10 5 (.int (0 : Int32))) fun g22 =>
      ob1 (gI g22 (B + 108) 10 7) fun v24 =>
      if v24 = (0 : Int32) then
        fX10_roads_L84 (B + 108) (fun (g60 : AH) =>
          ob1 (gI g60 (B + 108) 10 9) fun v61 =>
          some (v61, g60)
        ) lf (0 : Int32) g22
      else
        ob1 (gI g22 (B + 108) 10 6) fun v63 =>
        some ((-100 : Int32) - v63, g22)
    ) fun j18 =>
    if v16 = (0 : Int32) then
      ob1 (gI g15 (B + 108) 10 6) fun v66 =>
      ob1 (gI g15 (B + 108) 10 5) fun v68 =>
      if v68 ≤ v66 then
        ob1 (pV g15 (B + 108) 10 7 (.int (0 : Int32))) fun g70 =>
        ob1 (pV g70 (B + 108) 10 5 (.int (0 : Int32))) fun g72 =>
        ob1 (gI g72 (B + 108) 10 7) fun v74 =>
        if v74 = (0 : Int32) then
          fX10_roads_L84 (B + 108) (fun (g76 : AH) =>
            ob1 (gI g76 (B + 108) 10 9) fun v77 =>
            some (v77, g76)
          ) lf (0 : Int32) g72
        else
          ob1 (gI g72 (B + 108) 10 6) fun v79 =>
          some ((-100 : Int32) - v79, g72)
      else
        j18 g15
    else
      j18 g15) 13 lf 0 0 (stN s) [] I1 (by omega) (by decide) rfl ⟨rfl, rfl, rfl, fun d hd => (by cases hd), fun i d hi => (by cases hi)⟩ h12 r2 r3
  have s1 := s1
  have fx : FrX I I2 := (hI0.tr r4.x).tr s3
  generalize contP (stT s) 13 (stN s) (roadP (stT s) (stN s) 0) 0 = x at *
  rw [s1]
  clear s1
  have h3 := fx.2 3 (by decide) (by decide) (by decide)
  cases x with
  | inl f =>
    obtain ⟨⟨⟨e5, _⟩, e100, _⟩, e6, ef, e7⟩ := s2
    have hout : (ob1 (pV (MK B n I2 L Q R) (B + 108) 10 7 (.int (1 : Int32))) fun g20 =>
      ob1 (pV g20 (B + 108) 10 5 (.int (0 : Int32))) fun g22 =>
      ob1 (gI g22 (B + 108) 10 7) fun v24 =>
      if v24 = (0 : Int32) then
        fX10_roads_L84 (B + 108) (fun (g60 : AH) =>
          ob1 (gI g60 (B + 108) 10 9) fun v61 =>
          some (v61, g60)
        ) lf (0 : Int32) g22
      else
        ob1 (gI g22 (B + 108) 10 6) fun v63 =>
        some ((-100 : Int32) - v63, g22)) = some ((-100 : Int32) - nI f, MK B n (u2 (u2 I2 108 7 1) 108 5 0) L Q R) := by
      rw [p_MisBad, ob1_some, p_Msize, ob1_some, g_MisBad, ob1_some, u2_ne (by omega), u2_eq, if_neg (by decide), g_Mplace, ob1_some, u2_ne (by omega), u2_ne (by omega), e6]
    refine ⟨u2 (u2 I2 108 7 1) 108 5 0, L, ?_, h.clr (by rw [u2_ne (by omega), u2_ne (by omega)]; exact h3) u2_eq (fun a a1 a2 => by rw [u2_nk a1, u2_nk a1, fx.1 a a1 a2]), fun a ha => ⟨by rw [u2_nk (by omega), u2_nk (by omega), fx.1 a (by omega) (by omega)], rfl⟩⟩
    rw [g_MisBad, ob1_some, bnd_eq]
    rcases e7 with e7 | ⟨e7, e8⟩
    · rw [e7, if_neg (by decide)]
      exact hout
    · rw [e7, if_pos rfl, g_Mplace, ob1_some, g_Msize, ob1_some, e6, e5, if_neg (by rw [nI_leI (by omega) (by omega)]; omega)]
      exact hout
  | inr v =>
    obtain ⟨⟨⟨e5, _⟩, e100, _⟩, e7, ⟨p, e6, ep, ep2⟩, e9, em, ds, hd, hR⟩ := s2
    obtain ⟨R1, R2, R3, R4, R5⟩ := hR
    obtain ⟨L2, t1, t2, t3⟩ := m_roads_L84 (B := B) (n := n) (I := u2 (u2 I2 108 7 0) 108 5 0) (Q := Q) (R := R) (c := v.2) (by omega) (by rw [u2_ne (by omega), u2_ne (by omega)]; exact e9) (fun (g76 : AH) =>
            ob1 (gI g76 (B + 108) 10 9) fun v77 =>
            some (v77, g76)) ds lf 0 (stN s) L (by omega) (by show _ < 1000; omega) hM (by omega) R4 (fun j d hj => by
      rw [Nat.zero_add]
      intro i hi
      rw [u2_nk (by decide), u2_nk (by decide)]
      exact R5 j d hj i hi)
    have t1 : fX10_roads_L84 (B + 108) (fun (g76 : AH) =>
            ob1 (gI g76 (B + 108) 10 9) fun v77 =>
            some (v77, g76)) lf 0 (MK B n (u2 (u2 I2 108 7 0) 108 5 0) L Q R) = ob1 (gI (MK B n (u2 (u2 I2 108 7 0) 108 5 0) L2 Q R) (B + 108) 10 9) fun v77 => some (v77, MK B n (u2 (u2 I2 108 7 0) 108 5 0) L2 Q R) := t1
    rw [← R1] at t2
    have hX := h.clr (I' := u2 (u2 I2 108 7 0) 108 5 0) (by rw [u2_ne (by omega), u2_ne (by omega)]; exact h3) u2_eq (fun a a1 a2 => by rw [u2_nk a1, u2_nk a1, fx.1 a a1 a2])
    refine ⟨u2 (u2 I2 108 7 0) 108 5 0, L2, ?_, hX.setNow t2 t3, fun a ha => ⟨by rw [u2_nk (by omega), u2_nk (by omega), fx.1 a (by omega) (by omega)], by rw [t3 a (by omega)]⟩⟩
    rw [g_MisBad, ob1_some, bnd_eq, e7, if_pos rfl, g_Mplace, ob1_some, g_Msize, ob1_some, e6, e5, if_pos (by rw [nI_leI (by omega) (by omega)]; omega), p_MisBad, ob1_some, p_Msize, ob1_some, g_MisBad, ob1_some, u2_ne (by omega), u2_eq, if_pos rfl, t1, g_MreadMany, ob1_some, u2_ne (by omega), u2_ne (by omega), e9]
