theorem rows_wf (N : NET) (A : Nat → Bool) : WFr N A (rowsOf N A) := bfs_wf 211 0 [row0] (WFr.one N A)
theorem rows_all {N : NET} (A : Nat → Bool) (hO : NetOK N) : AllOK (rowsOf N A) := (rows_wf N A).all hO (rows_le hO)
theorem WFr.rch {N : NET} {A : Nat → Bool} {rows : List ROW} (h : WFr N A rows) : ∀ (m j : Nat), j < m → j < rows.length → Rch N (wEnd (rowAt rows j)) := by
  intro m
  induction m with
  | zero => intro j hj; omega
  | succ m ih =>
    intro j hj hl
    rcases Nat.eq_zero_or_pos j with e | e
    · rw [e, h.zero (by omega)]
      exact Rch.zero N
    · obtain ⟨g1, g2, g3, g4⟩ := h.par hl e
      have h1 := ih (wPar (rowAt rows j)) (by omega) (by omega)
      have h2 := (goesOn_iff.mp g4).2.1
      rw [← h2] at h1
      have h3 := h1.go g3
      rw [g2]
      exact h3
theorem cnt_row {rows : List ROW} {t : Nat} : ∀ c : Nat, 0 < cntTo rows t c → ∃ j, 1 ≤ j ∧ j < c ∧ wEnd (rowAt rows j) = t
  | 0, h => by simp [cntTo] at h
  | c + 1, h => by
    rw [cntTo] at h
    by_cases e : 1 ≤ c ∧ wEnd (rowAt rows c) = t
    · exact ⟨c, e.1, by omega, e.2⟩
    · rw [if_neg e] at h
      obtain ⟨j, h1, h2, h3⟩ := cnt_row c h
      exact ⟨j, h1, by omega, h3⟩
theorem can_rch {N : NET} {A : Nat → Bool} {rows : List ROW} (hW : WFr N A rows) (h : canAll N rows = true) : ∀ c, c < 3 → 0 < nC N c 1 → Rch N (nC N c 0) := by
  intro c hc hp
  obtain ⟨j, j1, j2, j3⟩ := cnt_row _ (canF_is 3 0 h c (by omega) (by omega) hp)
  rw [← j3]
  exact hW.rch (j + 1) j (by omega) j2
/-- what is behind the class's cells stays -/
def FrC (I I' : Nat → Nat → Int32) (L L' : Nat → Nat → Int64) : Prop := ∀ a, 94 ≤ a → I' a = I a ∧ L' a = L a
theorem FrC.rf {I : Nat → Nat → Int32} {L : Nat → Nat → Int64} : FrC I I L L := fun _ _ => ⟨rfl, rfl⟩
theorem FrC.tr {I I1 I2 : Nat → Nat → Int32} {L La Lb : Nat → Nat → Int64} (h : FrC I I1 L La) (g : FrC I1 I2 La Lb) : FrC I I2 L Lb := fun a ha => ⟨by rw [(g a ha).1, (h a ha).1], by rw [(g a ha).2, (h a ha).2]⟩
theorem e_changed_L12 {B n : Nat} {Ia : Nat → Nat → Int32} {L : Nat → Nat → Int64} {Q : Nat → Nat → Option Nat} {R : Nat → RDt} (k : AH → Option AH) :
    ∀ (m n' c : Nat) (I : Nat → Nat → Int32), c + m = 3 → m < n' → (∀ a, a ≠ 25 → I a = Ia a) → (∀ j, j < c → I 25 j = bz false) →
    ∃ I' : Nat → Nat → Int32, fX9_changed_L12 B k n' (nI c) (MK B n I L Q R) = k (MK B n I' L Q R) ∧ (∀ a, a ≠ 25 → I' a = Ia a) ∧ (∀ j, j < 3 → I' 25 j = bz false) := by
  intro m
  induction m with
  | zero =>
    intro n' c I hc hn hF hV
    obtain ⟨n1, rfl⟩ := suc_of hn
    rw [show c = 3 by omega] at hV ⊢
    refine ⟨I, ?_, hF, hV⟩
    rw [fX9_changed_L12]
    simp (disch := first | assumption | omega) only [ob1_some, ob2_some, bnd_eq, gd_true, oc_none, oc_some, ↓reduceIte, nI_add, nI_1, nI_leI, nI_ltI, nI_eq, l0, l1, l2, l3, L0, if_pos, if_neg, u2_eq, u2_ne]
  | succ m ih =>
    intro n' c I hc hn hF hV
    obtain ⟨n1, rfl⟩ := suc_of hn
    obtain ⟨I', r1, r2⟩ := ih n1 (c + 1) (u2 I 25 c 0) (by omega) (by omega) (fun a ha => by rw [u2_nk ha]; exact hF a ha) (fun j hj => by
      by_cases e : j = c
      · rw [e, u2_eq]; rfl
      · rw [u2_ne (Or.inr e)]; exact hV j (by omega))
    refine ⟨I', ?_, r2⟩
    have c3 : ¬ (3 : Int32) ≤ nI c := by rw [l3, nI_leI (by omega) (by omega)]; omega
    rw [← r1, fX9_changed_L12, if_neg c3, g_Wsfresh, ob1_some, s_sfresh (v := 0) (by omega) (Or.inl rfl), ob1_some, bnd_eq, nI_1]
theorem e_changed {B n : Nat} {I : Nat → Nat → Int32} {L : Nat → Nat → Int64} {Q : Nat → Nat → Option Nat} {R : Nat → RDt} : ∃ I' : Nat → Nat → Int32, fX9_changed B (MK B n I L Q R) = some (MK B n I' L Q R) ∧ (∀ N, Caches I' L N false (fun _ => false) false) ∧ (∀ a, a ≠ 0 → a ≠ 25 → I' a = I a) ∧ I' 0 2 = I 0 2 := by
  obtain ⟨I', r1, r2, r3⟩ := e_changed_L12 (B := B) (n := n) (L := L) (Q := Q) (R := R) (fun (g11 : AH) => some g11) 3 lf 0 (u2 (u2 I 0 4 0) 0 8 0) rfl (by decide) (fun _ _ => rfl) (fun j hj => absurd hj (Nat.not_lt_zero j))
  refine ⟨I', ?_, fun N => ⟨?_, r3, ?_, (fun h => absurd h (by decide)), (fun m _ h => absurd (show false = true from h) (by decide)), (fun h => absurd h (by decide))⟩, fun a h1 h2 => ?_, ?_⟩
  · unfold fX9_changed
    rw [p_Wpfresh, ob1_some, p_Wcfresh, ob1_some]
    exact r1
  · rw [r2 0 (by decide), u2_ne (by omega), u2_eq]; rfl
  · rw [r2 0 (by decide), u2_eq]; rfl
  · rw [r2 a h2, u2_nk h1, u2_nk h1]
  · rw [r2 0 (by decide), u2_ne (by omega), u2_ne (by omega)]
theorem bz_cases (b : Bool) : (bz b = (0 : Int32)) = (b = false) := by cases b <;> decide
theorem e_freshPaths {B n : Nat} {I : Nat → Nat → Int32} {L : Nat → Nat → Int64} {Q : Nat → Nat → Option Nat} {R : Nat → RDt} {s : STT} {fp : Bool} {fs : Nat → Bool} {fc : Bool} (h : RepC B n I L Q R s fp fs fc) : ∃ I' : Nat → Nat → Int32, fX9_freshPaths B (MK B n I L Q R) = some (B + 17, MK B n I' L Q R) ∧ RepC B n I' L Q R s true fs fc ∧ (∀ a, 24 ≤ a → I' a = I a) := by
  obtain ⟨hC, ⟨c1, c2, c3, c4, c5, c6⟩, f1, f2, f3⟩ := id h
  cases fp with
  | true =>
    refine ⟨I, ?_, h, fun _ _ => rfl⟩
    unfold fX9_freshPaths
    rw [g_Wpfresh, ob1_some, c1, if_neg (by decide), g_Wpaths, ob1_some]
  | false =>
    have hfs : ∀ m, m < 3 → fs m = false := fun m hm => by
      cases e : fs m with
      | false => rfl
      | true => have := (c5 m hm e).1; cases this
    obtain ⟨h0, h1, h2, h3, h4⟩ := id hC
    obtain ⟨I', r1, r2, r3⟩ := e_find (A := fun _ => true) (x2 := -1) isP17 isN1 h1 h2 (fun q hq => ⟨fun e => by
      have := eq_m1 (a := q) (by omega)
      rw [show (-1 : Int32) = m1 from rfl, this] at e
      exact e.elim, fun e => by cases e⟩) (rows_le h2) f1.1 f1.2.1 f1.2.2.1 f1.2.2.2.1 f1.2.2.2.2.1 f1.2.2.2.2.2
    have hr0 := r2.fix0
    refine ⟨u2 I' 0 4 1, ?_, ⟨hC.same ?_ ?_ (fun _ _ => rfl), ⟨u2_eq, fun m hm => ?_, ?_, fun _ => r2.same (fun k g1 g2 => u2_nk (by omega)), fun m hm hf => ?_, fun hf => ?_⟩, hr0.same (fun a g1 g2 => u2_nk (by omega)), f2.same (fun a g1 g2 => by rw [u2_nk (by omega), r3 a (by omega)]), f3⟩, fun a ha => by rw [u2_nk (by omega), r3 a (by omega)]⟩
    · unfold fX9_freshPaths
      rw [g_Wpfresh, ob1_some, c1, if_pos (by decide), g_Wpaths, ob1_some, g_Wnow, ob1_some, k_Paths isP17, gd_true, r1, ob1_some, p_Wpfresh, ob1_some, g_Wpaths, ob1_some]
    · rw [u2_ne (by omega), r3 0 (by omega)]
    · intro a ha; rw [u2_nk (by omega), r3 a (by omega)]
    · rw [u2_ne (by omega), r3 25 (by omega)]; exact c2 m hm
    · rw [u2_ne (by omega), r3 0 (by omega)]; exact c3
    · rw [hfs m hm] at hf; cases hf
    · have := c6 hf
      obtain ⟨s1, s2, s3⟩ := this
      exact ⟨s1, by rw [u2_ne (by omega), r3 27 (by omega)]; exact s2, s3⟩
theorem RepC.env {B n : Nat} {I : Nat → Nat → Int32} {L : Nat → Nat → Int64} {Q : Nat → Nat → Option Nat} {R : Nat → RDt} {s : STT} {fs : Nat → Bool} {fc : Bool} {m : Nat} (h : RepC B n I L Q R s true fs fc) (hm : m < 3) : Env5 B n I L Q R (64 + 10 * m) 1 17 (stN s) (fun _ => true) (rowsN (stN s)) := by
  obtain ⟨hC, ⟨c1, c2, c3, c4, c5, c6⟩, f1, f2, f3⟩ := h
  exact ⟨isSm hm, isN1, isP17, hC.2.1, hC.2.2.1, c4 rfl, rows_wf _ _, rows_le hC.2.2.1, rows_pos _ _⟩
theorem e_steadyOfX {B n : Nat} {I : Nat → Nat → Int32} {L : Nat → Nat → Int64} {Q : Nat → Nat → Option Nat} {R : Nat → RDt} {s : STT} {fp : Bool} {fs : Nat → Bool} {fc : Bool} {m : Nat} (h : RepC B n I L Q R s fp fs fc) (hm : m < 3) : ∃ (I' : Nat → Nat → Int32) (L' : Nat → Nat → Int64) (fs' : Nat → Bool), fX9_steadyOf B (nI m) (MK B n I L Q R) = some (B + (64 + 10 * m), MK B n I' L' Q R) ∧ RepC B n I' L' Q R s true fs' fc ∧ fs' m = true ∧ (∀ a, fs a = true → fs' a = true) ∧ FrC I I' L L' ∧ (∀ a, 26 ≤ a → a < 64 → I' a = I a ∧ L' a = L a) := by
  obtain ⟨hC, ⟨c1, c2, c3, c4, c5, c6⟩, f1, f2, f3⟩ := id h
  cases hf : fs m with
  | true =>
    have hfp := (c5 m hm hf).1
    subst hfp
    refine ⟨I, L, fs, ?_, h, hf, fun _ h => h, FrC.rf, fun _ _ _ => ⟨rfl, rfl⟩⟩
    unfold fX9_steadyOf
    rw [g_Wsfresh, ob1_some, a_sfresh hm, ob1_some, c2 m hm, hf, if_neg (by decide), g_Wsteadies, ob1_some, r_steadies hm, ob1_some]
  | false =>
    obtain ⟨I1, r1, r2, r3⟩ := e_freshPaths h
    obtain ⟨hC1, ⟨d1, d2, d3, d4, d5, d6⟩, g1, g2, g3⟩ := id r2
    obtain ⟨I2, L2, t1, t2, t3, t4⟩ := e_settle hm (r2.env hm) (g3 _ (isSm hm))
    refine ⟨u2 I2 25 m 1, L2, fun a => if a = m then true else fs a, ?_, ⟨hC1.same ?_ ?_ (fun a ha => t2.2 a (by omega)), ⟨?_, fun j hj => ?_, ?_, fun _ => (d4 rfl).same (fun k g1 g2 => by rw [u2_nk (by omega), t2.1 k (by omega)]), fun j hj hfj => ⟨rfl, ?_⟩, fun hf => ?_⟩, g1.same (fun a b1 b2 => by rw [u2_nk (by omega), t2.1 a (by omega)]), g2.same (fun a b1 b2 => by rw [u2_nk (by omega), t2.1 a (by omega)]), fun x hx => ?_⟩, if_pos rfl, fun a ha => ?_, fun a ha => ⟨?_, t2.2 a (by omega)⟩, fun a h1 h2 => ⟨by rw [u2_nk (by omega), t2.1 a (by omega), r3 a (by omega)], t2.2 a (by omega)⟩⟩
    · unfold fX9_steadyOf
      rw [g_Wsfresh, ob1_some, a_sfresh hm, ob1_some, c2 m hm, hf, if_pos (by decide), g_Wsteadies, ob1_some, r_steadies hm, ob1_some, g_Wnow, ob1_some, r1, ob2_some, k_Steady (isSm hm), gd_true, t1, ob1_some, g_Wsfresh, ob1_some, s_sfresh (v := 1) hm (Or.inr rfl), ob1_some, g_Wsteadies, ob1_some, r_steadies hm, ob1_some]
    · rw [u2_ne (by omega), t2.1 0 (by omega)]
    · intro a ha; rw [u2_nk (by omega), t2.1 a (by omega)]
    · rw [u2_ne (by omega), t2.1 0 (by omega)]; exact d1
    · show _ = bz (if j = m then true else fs j)
      by_cases e : j = m
      · rw [e, u2_eq, if_pos rfl]; rfl
      · rw [u2_ne (Or.inr e), t2.1 25 (by omega), if_neg e]; exact d2 j hj
    · rw [u2_ne (by omega), t2.1 0 (by omega)]; exact d3
    · by_cases e : j = m
      · rw [e]; exact t4.same (fun a b1 b2 => u2_nk (by omega)) rfl
      · have hfj : (if j = m then true else fs j) = true := hfj
        rw [if_neg e] at hfj
        exact (d5 j hj hfj).2.same (fun a b1 b2 => by rw [u2_nk (by omega), t2.1 a (by omega)]) (t2.2 _ (by omega))
    · obtain ⟨s1, s2, s3⟩ := d6 hf
      exact ⟨by rw [t2.2 27 (by omega)]; exact s1, by rw [u2_ne (by omega), t2.1 27 (by omega)]; exact s2, s3⟩
    · by_cases e : x = 64 + 10 * m
      · rw [e]; exact t3
      · rw [t2.2 (x + 9) (by unfold isS at hx; omega)]; exact g3 x hx
    · show (if a = m then true else fs a) = true
      by_cases e : a = m
      · exact if_pos e
      · rw [if_neg e]; exact ha
    · rw [u2_nk (by omega), t2.1 a (by omega), r3 a (by omega)]
theorem e_steadyOf {B n : Nat} {I : Nat → Nat → Int32} {L : Nat → Nat → Int64} {Q : Nat → Nat → Option Nat} {R : Nat → RDt} {s : STT} {fp : Bool} {fs : Nat → Bool} {fc : Bool} {m : Nat} (h : RepC B n I L Q R s fp fs fc) (hm : m < 3) : ∃ (I' : Nat → Nat → Int32) (L' : Nat → Nat → Int64) (fs' : Nat → Bool), fX9_steadyOf B (nI m) (MK B n I L Q R) = some (B + (64 + 10 * m), MK B n I' L' Q R) ∧ RepC B n I' L' Q R s true fs' fc ∧ fs' m = true ∧ (∀ a, fs a = true → fs' a = true) ∧ FrC I I' L L' := by
  obtain ⟨I', L', fs', r1, r2, r3, r4, r5, _⟩ := e_steadyOfX h hm
  exact ⟨I', L', fs', r1, r2, r3, r4, r5⟩
/-- a total as a long: NO, where there is none, or it's over -/
def NOv : Int64 := -9223372036854775808
def totA (st : Bool) (v : Nat × Bool) : Int64 := if st = true then (if v.2 = true then NOv else lN v.1) else NOv
def bestA (N : NET) : Int64 := totA (canAll N (rowsN N)) (totN N (flAll N 3) (nM N))
theorem e_totalOrNo {B n : Nat} {I : Nat → Nat → Int32} {L : Nat → Nat → Int64} {Q : Nat → Nat → Option Nat} {R : Nat → RDt} {x mode : Nat} {N : NET} {rows : List ROW} (hx : isS x) (h : SteadyIs I L x N mode rows) : fX5_totalOrNo (B + x) (MK B n I L Q R) = some (totA (canAll N rows) (totN N (stF N mode rows).1.1 (nM N))) := by
  unfold fX5_totalOrNo totA
  obtain ⟨h1, h2⟩ := h
  have hU := isU_S hx
  rw [g_stands hx, ob1_some, h1]
  cases hc : canAll N rows with
  | false => rfl
  | true =>
    obtain ⟨_, _, ⟨s1, s2, s3⟩, _⟩ := h2 hc
    rw [if_neg (by decide), g_ssum hx, ob1_some, g_isOver hU, ob1_some, s2, if_pos rfl]
    cases ho : (totN N (stF N mode rows).1.1 (nM N)).2 with
    | true => rfl
    | false => rw [if_pos (by decide), ob1_some, g_value hU, ob1_some, s1, if_neg (by decide)]
theorem e_canNow {B n : Nat} {I : Nat → Nat → Int32} {L : Nat → Nat → Int64} {Q : Nat → Nat → Option Nat} {R : Nat → RDt} {s : STT} {fs : Nat → Bool} {fc : Bool} (h : RepC B n I L Q R s true fs fc) : fX5_canAllDrive (B + 1) (B + 17) (MK B n I L Q R) = some (bz (canAll (stN s) (rowsN (stN s)))) :=
  e_can (h.env (m := 0) (by decide))
theorem e_bestOrNoX {B n : Nat} {I : Nat → Nat → Int32} {L : Nat → Nat → Int64} {Q : Nat → Nat → Option Nat} {R : Nat → RDt} {s : STT} {fp : Bool} {fs : Nat → Bool} {fc : Bool} (h : RepC B n I L Q R s fp fs fc) : ∃ (I' : Nat → Nat → Int32) (L' : Nat → Nat → Int64) (fs' : Nat → Bool) (fc' : Bool), fX9_bestOrNo B (MK B n I L Q R) = some (bestA (stN s), MK B n I' L' Q R) ∧ RepC B n I' L' Q R s true fs' fc' ∧ fs' = fs ∧ (∀ a, fs a = true → fs' a = true) ∧ FrC I I' L L' ∧ (∀ a, 33 ≤ a → a < 64 → I' a = I a ∧ L' a = L a) := by
  obtain ⟨I1, r1, r2, r6⟩ := e_freshPaths h
  obtain ⟨hC1, ⟨d1, d2, d3, d4, d5, d6⟩, g1, g2, g3⟩ := id r2
  unfold fX9_bestOrNo bestA totA
  rw [g_Wnow, ob1_some, r1, ob2_some, e_canNow r2, ob1_some]
  cases hc : canAll (stN s) (rowsN (stN s)) with
  | false => exact ⟨I1, L, fs, fc, rfl, r2, rfl, fun _ h => h, fun a ha => ⟨r6 a (by omega), rfl⟩, fun a h1 h2 => ⟨r6 a (by omega), rfl⟩⟩
  | true =>
    rw [if_neg (by decide), g_Wcfresh, ob1_some, d3, bnd_eq, if_pos rfl]
    have hfin : ∀ (I' : Nat → Nat → Int32) (L' : Nat → Nat → Int64), SumIs I' L' 27 (totN (stN s) (flAll (stN s) 3) (nM (stN s))) → (ob1 (gR (MK B n I' L' Q R) B 9 7) fun b10 =>
      ob1 (gR (MK B n I' L' Q R) b10 0 0) fun b12 =>
      ob1 (gI (MK B n I' L' Q R) b12 6 1) fun v14 =>
      if v14 = (0 : Int32) then
        ob1 (gR (MK B n I' L' Q R) B 9 7) fun b16 =>
        ob1 (gR (MK B n I' L' Q R) b16 0 0) fun b18 =>
        ob1 (gL (MK B n I' L' Q R) b18 6 0) fun v20 =>
        some (v20, MK B n I' L' Q R)
      else
        some ((-9223372036854775808 : Int64), MK B n I' L' Q R)) = some (if (totN (stN s) (flAll (stN s) 3) (nM (stN s))).2 = true then NOv else lN (totN (stN s) (flAll (stN s) 3) (nM (stN s))).1, MK B n I' L' Q R) := by
      intro I' L' ⟨s1, s2, s3⟩
      rw [g_Wcheapest, ob1_some, g_csum, ob1_some, g_isOver isU_C, ob1_some, s2]
      cases (totN (stN s) (flAll (stN s) 3) (nM (stN s))).2 with
      | true => rfl
      | false => rw [if_pos (by decide), ob1_some, g_csum, ob1_some, g_value isU_C, ob1_some, s1, if_neg (by decide)]
    cases fc with
    | true =>
      rw [if_neg (by decide)]
      exact ⟨I1, L, fs, true, hfin I1 L (d6 rfl), r2, rfl, fun _ h => h, fun a ha => ⟨r6 a (by omega), rfl⟩, fun a h1 h2 => ⟨r6 a (by omega), rfl⟩⟩
    | false =>
      rw [if_pos (by decide), g_Wcheapest, ob1_some, g_Wnow, ob1_some, k_Cheapest, gd_true]
      obtain ⟨I2, L2, t1, t2, t3, t4⟩ := e_seek isN1 hC1.2.1 hC1.2.2.1 (can_rch (rows_wf _ _) hc)
      rw [t1, ob1_some, p_Wcfresh, ob1_some]
      have hS : SumIs (u2 I2 0 8 1) L2 27 (totN (stN s) (flAll (stN s) 3) (nM (stN s))) := ⟨t4.1, by rw [u2_ne (by omega)]; exact t4.2.1, t4.2.2⟩
      refine ⟨u2 I2 0 8 1, L2, fs, true, hfin _ _ hS, ⟨hC1.same ?_ ?_ (fun a ha => t3 a (by omega)), ⟨?_, fun m hm => ?_, u2_eq, fun _ => (d4 rfl).same (fun k b1 b2 => by rw [u2_nk (by omega), t2 k (by omega)]), fun m hm hf => ⟨rfl, (d5 m hm hf).2.same (fun a b1 b2 => by rw [u2_nk (by omega), t2 a (by omega)]) (t3 _ (by omega))⟩, fun _ => hS⟩, g1.same (fun a b1 b2 => by rw [u2_nk (by omega), t2 a (by omega)]), g2.same (fun a b1 b2 => by rw [u2_nk (by omega), t2 a (by omega)]), fun x hx => by rw [t3 _ (by unfold isS at hx; omega)]; exact g3 x hx⟩, rfl, fun _ h => h, fun a ha => ⟨by rw [u2_nk (by omega), t2 a (by omega), r6 a (by omega)], t3 a (by omega)⟩, fun a h1 h2 => ⟨by rw [u2_nk (by omega), t2 a (by omega), r6 a (by omega)], t3 a (by omega)⟩⟩
      · rw [u2_ne (by omega), t2 0 (by omega)]
      · intro a ha; rw [u2_nk (by omega), t2 a (by omega)]
      · rw [u2_ne (by omega), t2 0 (by omega)]; exact d1
      · rw [u2_ne (by omega), t2 25 (by omega)]; exact d2 m hm
theorem e_bestOrNo {B n : Nat} {I : Nat → Nat → Int32} {L : Nat → Nat → Int64} {Q : Nat → Nat → Option Nat} {R : Nat → RDt} {s : STT} {fp : Bool} {fs : Nat → Bool} {fc : Bool} (h : RepC B n I L Q R s fp fs fc) : ∃ (I' : Nat → Nat → Int32) (L' : Nat → Nat → Int64) (fs' : Nat → Bool) (fc' : Bool), fX9_bestOrNo B (MK B n I L Q R) = some (bestA (stN s), MK B n I' L' Q R) ∧ RepC B n I' L' Q R s true fs' fc' ∧ fs' = fs ∧ (∀ a, fs a = true → fs' a = true) ∧ FrC I I' L L' := by
  obtain ⟨I', L', fs', fc', r1, r2, r3, r4, r5, _⟩ := e_bestOrNoX h
  exact ⟨I', L', fs', fc', r1, r2, r3, r4, r5⟩
