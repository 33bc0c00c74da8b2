def without (r : Nat) (q : Nat) : Bool := decide (q ≠ r)
theorem e_steadyWithout {B n : Nat} {I : Nat → Nat → Int32} {L : Nat → Nat → Int64} {Q : Nat → Nat → Option Nat} {R : Nat → RDt} {s : STT} {fp : Bool} {fs : Nat → Bool} {fc : Bool} {m r : Nat} (h : RepC B n I L Q R s fp fs fc) (hm : m < 3) (hr : r < nM (stN s)) : ∃ (I' : Nat → Nat → Int32) (L' : Nat → Nat → Int64), fX9_steadyWithout B (nI m) (nI r) (MK B n I L Q R) = some (B + 48, MK B n I' L' Q R) ∧ RepC B n I' L' Q R s fp fs fc ∧ SteadyIs I' L' 48 (stN s) m (rowsOf (stN s) (without r)) ∧ FrC I I' L L' ∧ (∀ a, 64 ≤ a → I' a = I a ∧ L' a = L a) := by
  obtain ⟨hC, ⟨c1, c2, c3, c4, c5, c6⟩, f1, f2, f3⟩ := id h
  obtain ⟨h0, h1, h2, h3, h4⟩ := id hC
  obtain ⟨I1, r1, r2, r3⟩ := e_find (A := without r) (x2 := nI r) isP41 isN1 h1 h2 (fun q hq => by
    rw [nI_eq (by omega) (by omega)]
    unfold without
    rw [decide_eq_false_iff_not]
    omega) (rows_le h2) f2.1 f2.2.1 f2.2.2.1 f2.2.2.2.1 f2.2.2.2.2.1 f2.2.2.2.2.2
  have hE : Env5 B n I1 L Q R 48 1 41 (stN s) (without r) (rowsOf (stN s) (without r)) := ⟨isS48, isN1, isP41, h1.same (fun k g1 g2 => r3 k (by omega)) rfl, h2, r2, rows_wf _ _, rows_le h2, rows_pos _ _⟩
  obtain ⟨I2, L2, t1, t2, t3, t4⟩ := e_settle hm hE (f3 48 isS48)
  have hr0 := r2.fix0
  refine ⟨I2, L2, ?_, ⟨hC.same ?_ ?_ (fun a ha => t2.2 a (by omega)), ⟨?_, fun j hj => ?_, ?_, fun hf => (c4 hf).same (fun k g1 g2 => by rw [t2.1 k (by omega), r3 k (by omega)]), fun j hj hf => ⟨(c5 j hj hf).1, (c5 j hj hf).2.same (fun a b1 b2 => by rw [t2.1 a (by omega), r3 a (by omega)]) (t2.2 _ (by omega))⟩, fun hf => ?_⟩, f1.same (fun a b1 b2 => by rw [t2.1 a (by omega), r3 a (by omega)]), hr0.same (fun a b1 b2 => t2.1 a (by omega)), fun x hx => ?_⟩, t4, fun a ha => ⟨by rw [t2.1 a (by omega), r3 a (by omega)], t2.2 a (by omega)⟩, fun a ha => ⟨by rw [t2.1 a (by omega), r3 a (by omega)], t2.2 a (by omega)⟩⟩
  · unfold fX9_steadyWithout
    rw [g_WthoughtPaths, ob1_some, g_Wnow, ob1_some, k_Paths isP41, gd_true, r1, ob1_some, g_WthoughtSteady, ob1_some, g_Wnow, ob1_some, g_WthoughtPaths, ob1_some, k_Steady isS48, gd_true, t1, ob1_some, g_WthoughtSteady, ob1_some]
  · rw [t2.1 0 (by omega), r3 0 (by omega)]
  · intro a ha; rw [t2.1 a (by omega), r3 a (by omega)]
  · rw [t2.1 0 (by omega), r3 0 (by omega)]; exact c1
  · rw [t2.1 25 (by omega), r3 25 (by omega)]; exact c2 j hj
  · rw [t2.1 0 (by omega), r3 0 (by omega)]; exact c3
  · obtain ⟨s1, s2, s3⟩ := c6 hf
    exact ⟨by rw [t2.2 27 (by omega)]; exact s1, by rw [t2.1 27 (by omega), r3 27 (by omega)]; exact s2, s3⟩
  · by_cases e : x = 48
    · rw [e]; exact t3
    · rw [t2.2 (x + 9) (by unfold isS at hx; omega)]; exact f3 x hx
/-- TOTAL of steady loads by a mode, over the ways of rows -/
def totS (N : NET) (mode : Nat) (rows : List ROW) : Int64 := totA (canAll N rows) (totN N (stF N mode rows).1.1 (nM N))
def diffA (a b : Int64) : Int64 := if a = NOv then NOv else if b = NOv then NOv else b - a
theorem e_difference {B n : Nat} {I : Nat → Nat → Int32} {L : Nat → Nat → Int64} {Q : Nat → Nat → Option Nat} {R : Nat → RDt} {x x' mode mode' : Nat} {N N' : NET} {rows rows' : List ROW} (hx : isS x) (hx' : isS x') (h : SteadyIs I L x N mode rows) (h' : SteadyIs I L x' N' mode' rows') : fX9_difference (B + x) (B + x') (MK B n I L Q R) = some (diffA (totS N mode rows) (totS N' mode' rows')) := by
  unfold fX9_difference diffA totS
  rw [k_Steady hx, gd_true, e_totalOrNo hx h, ob1_some, k_Steady hx', gd_true, e_totalOrNo hx' h', ob1_some, show (-9223372036854775808 : Int64) = NOv from rfl]
  by_cases a : totA (canAll N rows) (totN N (stF N mode rows).1.1 (nM N)) = NOv
  · rw [if_pos a, if_pos a]
  · rw [if_neg a, if_neg a]
    by_cases b : totA (canAll N' rows') (totN N' (stF N' mode' rows').1.1 (nM N')) = NOv
    · rw [if_pos b, if_pos b]
    · rw [if_neg b, if_neg b]
/-- the verdict of a paradox -/
def verdA (c c' : Bool) (v v' : Nat × Bool) : Int32 := if c = true then (if c' = true then (if v.2 = true then -6 else if v'.2 = true then -6 else if v'.1 < v.1 then 1 else 0) else -3) else -3
def verdS (N : NET) (mode : Nat) (rows rows' : List ROW) : Int32 := verdA (canAll N rows) (canAll N rows') (totN N (stF N mode rows).1.1 (nM N)) (totN N (stF N mode rows').1.1 (nM N))
theorem e_verdict {B n : Nat} {I : Nat → Nat → Int32} {L : Nat → Nat → Int64} {Q : Nat → Nat → Option Nat} {R : Nat → RDt} {x x' mode : Nat} {N : NET} {rows rows' : List ROW} (hx : isS x) (hx' : isS x') (h : SteadyIs I L x N mode rows) (h' : SteadyIs I L x' N mode rows') : fX9_verdict (B + x) (B + x') (MK B n I L Q R) = some (verdS N mode rows rows') := by
  obtain ⟨h1, h2⟩ := h
  obtain ⟨h1', h2'⟩ := h'
  have hU := isU_S hx
  have hU' := isU_S hx'
  have hm := mxL_eq
  unfold fX9_verdict verdS
  rw [g_stands hx, ob1_some, h1]
  cases hc : canAll N rows with
  | false => rfl
  | true =>
    rw [if_neg (by decide), g_stands hx', ob1_some, h1']
    cases hc' : canAll N rows' with
    | false => rfl
    | true =>
      obtain ⟨_, _, ⟨s1, s2, s3⟩, _⟩ := h2 hc
      obtain ⟨_, _, ⟨s1', s2', s3'⟩, _⟩ := h2' hc'
      generalize totN N (stF N mode rows).1.1 (nM N) = v at s1 s2 s3
      generalize totN N (stF N mode rows').1.1 (nM N) = v' at s1' s2' s3'
      obtain ⟨w, o⟩ := v
      obtain ⟨w', o'⟩ := v'
      have s1 : L (x + 6) 0 = lN w := s1
      have s2 : I (x + 6) 1 = bz o := s2
      have s1' : L (x' + 6) 0 = lN w' := s1'
      have s2' : I (x' + 6) 1 = bz o' := s2'
      have s3 : w ≤ mxL := s3
      have s3' : w' ≤ mxL := s3'
      rw [if_neg (by decide), g_ssum hx, ob1_some, g_isOver hU, ob1_some, s2]
      cases o with
      | true => rfl
      | false =>
        rw [if_pos (by decide), g_ssum hx', ob1_some, g_isOver hU', ob1_some, s2']
        cases o' with
        | true => rfl
        | false =>
          rw [if_pos (by decide), ob1_some, g_value hU', ob1_some, s1', ob1_some, g_value hU, ob1_some, s1]
          show _ = some (if w' < w then 1 else 0)
          by_cases c : w' < w
          · rw [if_pos c, if_neg (by rw [pk_lLE (by omega) (by omega)]; omega)]
          · rw [if_neg c, if_pos (by rw [pk_lLE (by omega) (by omega)]; omega)]
theorem sumN_mem {g : Nat → Nat} {k : Nat} : ∀ l : List Nat, l.Nodup → (∀ q, q ∈ l → q < k) → sumN k (fun r => if r ∈ l then g r else 0) = (l.map g).sum
  | [], _, _ => by
    rw [sumN_cong (g := fun _ => 0) k (fun j _ => if_neg (by simp)), sumN_zero]
    rfl
  | a :: l, hn, hk => by
    rw [List.nodup_cons] at hn
    have ih := sumN_mem (g := g) (k := k) l hn.2 (fun q hq => hk q (List.mem_cons_of_mem _ hq))
    have h1 := sumN_upd (f := fun r => if r ∈ a :: l then g r else 0) (g := fun r => if r ∈ l then g r else 0) k (hk a List.mem_cons_self) (fun j _ hj => by
      by_cases c : j ∈ l
      · rw [if_pos c, if_pos (List.mem_cons_of_mem _ c)]
      · rw [if_neg c, if_neg (fun h => (List.mem_cons.mp h).elim hj c)])
    have h2 : (if a ∈ a :: l then g a else 0) = g a := if_pos List.mem_cons_self
    have h3 : (if a ∈ l then g a else 0) = 0 := if_neg hn.1
    rw [List.map_cons, List.sum_cons, ← ih]
    omega
/-- what one pays on a row, with so many more there, or one at least -/
def fareP (N : NET) (mode c : Nat) (ld : Nat → Nat) (more q : Nat) : Nat := pAt N mode c q (max 1 (ld q + more))
theorem e_fare_L17 {B n : Nat} {I : Nat → Nat → Int32} {L : Nat → Nat → Int64} {Q : Nat → Nat → Option Nat} {R : Nat → RDt} {N : NET} {rows : List ROW} {mode c j more kl : Nat} {ld : Nat → Nat} (hN : NetIs B n I L Q R 1 N) (hO : NetOK N) (hP : PathsIs I 17 rows) (hK : AllOK rows) (hm : mode < 3) (hc : c < 3) (hj : j < rows.length) (hkl : (celf B)[kl]? = some (fun I _ _ => .inl (0, 13, .inl I))) (hl : ∀ q, q < 13 → I kl q = nI (ld q)) (hb : ∀ q, ld q ≤ 36) (hmore : more < 2) (k : Int64 → Option Int64) :
    ∀ (m n' q : Nat), q + m = nM N → m < n' → fX9_fare_L17 B (nI mode) (nI c) (nI j) (nI more) (B + kl) (MK B n I L Q R) k n' (lN (sumN q fun r => if hasQ rows j r = true then fareP N mode c ld more r else 0)) (nI q) = k (lN (sumN (nM N) fun r => if hasQ rows j r = true then fareP N mode c ld more r else 0)) := by
  have h13 := hO.2.2.1
  have hM := hN.2.1
  intro m
  induction m with
  | zero =>
    intro n' q hq hn
    obtain ⟨n1, rfl⟩ := suc_of hn
    have c1 : nI (nM N) ≤ nI q := by rw [nI_leI (by omega) (by omega)]; omega
    rw [fX9_fare_L17, g_Wnow, ob1_some, g_size isN1, ob1_some, hM, if_pos c1, show q = nM N by omega]
  | succ m ih =>
    intro n' q hq hn
    obtain ⟨n1, rfl⟩ := suc_of hn
    have := ih n1 (q + 1) (by omega) (by omega)
    rw [sumN] at this
    have c1 : ¬ nI (nM N) ≤ nI q := by rw [nI_leI (by omega) (by omega)]; omega
    have hu := e_uses (B := B) (n := n) (L := L) (Q := Q) (R := R) isP17 hP (rowAt_get hj) hK.1 (hK.2 j _ (rowAt_get hj)).1 (show q < 31 by omega)
    have hbq := hb q
    have hmx := e_max (show 1 < 2147483648 by omega) (show ld q + more < 2147483648 by omega)
    have hpr := e_priceAt (y := max 1 (ld q + more)) isN1 hN hO hm hc (show q < nM N by omega) (by omega) (by omega)
    have hrd : aI (MK B n I L Q R) (B + kl) 0 (nI q) = some (nI (ld q)) := by rw [mk_aI hkl (by omega) (by decide), hl q (by omega)]
    rw [fX9_fare_L17, g_Wnow, ob1_some, g_size isN1, ob1_some, hM, if_neg c1, g_Wpaths, ob1_some, k_Paths isP17, gd_true, hu, ob1_some]
    cases hq2 : (wRb (rowAt rows j)).testBit q with
    | false =>
      rw [if_neg (show ¬ hasQ rows j q = true by unfold hasQ; rw [hq2]; decide), Nat.add_zero] at this
      rw [if_pos (by decide), bnd_eq, nI_1]
      exact this
    | true =>
      rw [if_pos (show hasQ rows j q = true from hq2)] at this
      rw [if_neg (by decide), ob1_some, hrd, ob1_some, nI_add, show (1 : Int32) = nI 1 from rfl, hmx, ob1_some, k_Net isN1, gd_true, hpr, ob1_some, bnd_eq, lN_add, bnd_eq, nI_add]
      exact this
theorem e_fare {B n : Nat} {I : Nat → Nat → Int32} {L : Nat → Nat → Int64} {Q : Nat → Nat → Option Nat} {R : Nat → RDt} {N : NET} {A : Nat → Bool} {rows : List ROW} {mode c j more : Nat} {ld : Nat → Nat} {rd : Nat → Nat → Nat} (hN : NetIs B n I L Q R 1 N) (hO : NetOK N) (hP : PathsIs I 17 rows) (hW : WFr N A rows) (hlen : rows.length ≤ 211) (hm : mode < 3) (hc : c < 3) (hj : j < rows.length) (hl : LoadsIs I (64 + 10 * mode) ld rd) (hb : ∀ q, ld q ≤ 36) (hmore : more < 2) : fX9_fare B (nI mode) (nI c) (nI j) (nI more) (MK B n I L Q R) = some (lN (fareR rows (fareP N mode c ld more) j)) := by
  have h13 := hO.2.2.1
  have hf := hW.fact hO (j + 1) j _ (by omega) (rowAt_get hj)
  have e : (sumN (nM N) fun r => if hasQ rows j r = true then fareP N mode c ld more r else 0) = fareR rows (fareP N mode c ld more) j := by
    unfold fareR
    rw [← sumN_mem (k := nM N) _ hf.2.2.2.1 (fun q hq => (hf.2.2.1 q hq).1)]
    exact sumN_cong _ fun r _ => by
      by_cases c : hasQ rows j r = true
      · rw [if_pos c, if_pos ((hf.2.1 r).mp c)]
      · rw [if_neg c, if_neg (fun h => c ((hf.2.1 r).mpr h))]
  unfold fX9_fare
  rw [g_Wsteadies, ob1_some, r_steadies hm, ob1_some, g_loads (isSm hm), ob1_some]
  refine (e_fare_L17 hN hO hP (hW.all hO hlen) hm hc hj (cS_loads (isSm hm)) hl.1 hb hmore _ (nM N) lf 0 (by omega) (by show nM N < 1000; omega)).trans ?_
  rw [e]
theorem e_rowOf {B n : Nat} {I : Nat → Nat → Int32} {L : Nat → Nat → Int64} {Q : Nat → Nat → Option Nat} {R : Nat → RDt} {s : STT} {fp : Bool} {fs : Nat → Bool} {fc : Bool} {c w : Int32} (h : RepC B n I L Q R s fp fs fc) :
    ∃ (I' : Nat → Nat → Int32) (fp' : Bool), RepC B n I' L Q R s fp' fs fc ∧ (∀ a, 24 ≤ a → I' a = I a) ∧
    ((∃ cl v j, cl < 3 ∧ c = nI cl ∧ w = nI v ∧ 1 ≤ j ∧ j < (rowsN (stN s)).length ∧ wEnd (rowAt (rowsN (stN s)) j) = nC (stN s) cl 0 ∧ cntTo (rowsN (stN s)) (nC (stN s) cl 0) j = v ∧ fp' = true ∧ fX9_rowOf B c w (MK B n I L Q R) = some (nI j, MK B n I' L Q R)) ∨
     ((∀ cl v, cl < 3 → v < cntTo (rowsN (stN s)) (nC (stN s) cl 0) (rowsN (stN s)).length → ¬ (c = nI cl ∧ w = nI v)) ∧ fX9_rowOf B c w (MK B n I L Q R) = some (-1, MK B n I' L Q R))) := by
  unfold fX9_rowOf
  rcases one_of (x := c) (m := 3) (by decide) with ⟨cl, h1, h2, h3⟩ | ⟨h1, h3⟩
  · have h3 : fX9_isOneOf c 3 = some 1 := h3
    obtain ⟨I', r1, r2, r3⟩ := e_freshPaths h
    obtain ⟨hC, ⟨c1, c2, c3, c4, c5, c6⟩, f1, f2, f3⟩ := id r2
    have hN := hC.2.1
    have hO := hC.2.2.1
    have hcb := hO.2.2.2.2 cl h1
    unfold CrN at hcb
    have hC0 := hN.2.2.2.2.2 cl 0 h1 (by decide)
    refine ⟨I', true, r2, r3, ?_⟩
    subst h2
    rw [h3, ob1_some, if_neg (by decide), r1, ob2_some, g_Wnow, ob1_some, g_crowds isN1, ob1_some, r_crowds isN1 h1, ob1_some, show (0 : Int32) = nI 0 from rfl, a_crowd isN1 h1 (by decide), ob1_some, hC0, k_Paths isP17, gd_true]
    rcases e_rowTo (n := n) (L := L) (Q := Q) (R := R) (B := B) (t := nC (stN s) cl 0) (w := w) isP17 (c4 rfl) (rows_all _ hO) (rows_pos _ _) (by omega) with ⟨v, j, g1, g2, g3, g4, g5, g6⟩ | ⟨g1, g2⟩
    · rw [g6, ob1_some]
      exact Or.inl ⟨cl, v, j, h1, rfl, g1, g2, g3, g4, g5, rfl, rfl⟩
    · rw [g2, ob1_some]
      refine Or.inr ⟨fun cl' v hcl hv ⟨e1, e2⟩ => ?_, rfl⟩
      rw [nI_eq (by omega) (by omega)] at e1
      rw [← e1] at hv
      exact g1 v hv e2
  · have h3 : fX9_isOneOf c 3 = some 0 := h3
    refine ⟨I, fp, h, fun _ _ => rfl, Or.inr ⟨fun cl v hcl _ ⟨e, _⟩ => h1 cl hcl e, ?_⟩⟩
    rw [h3, ob1_some, if_pos rfl]
