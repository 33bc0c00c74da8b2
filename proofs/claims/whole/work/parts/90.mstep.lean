theorem nI_m1 {a : Nat} (h : 1 ≤ a) : nI a + (-1) = nI (a - 1) := by
  rw [← pk_sub h]
  exact (Int32.sub_eq_add_neg _ _).symm
theorem RidM.congr {I : Nat → Nat → Int32} {N : NET} {rows : List ROW} {s s' : SST} (h : RidM I N rows s) (h1 : ∀ q, s'.1 q = s.1 q) (h2 : ∀ c j, s'.2 c j = s.2 c j) : RidM I N rows s' := ⟨fun q hq => by rw [h1]; exact h.1 q hq, fun c hc j a b d => by rw [h2]; exact h.2 c hc j a b d⟩
theorem m_add {B n : Nat} {I : Nat → Nat → Int32} {L : Nat → Nat → Int64} {Q : Nat → Nat → Option Nat} {R : Nat → RDt} {N : NET} {rows : List ROW} {c j : Nat} {s : SST} (hE : EnvM I L N rows) (hc : c < 3) (hv : ValR N rows c j) (hR : RidM I N rows s) : ∃ I' : Nat → Nat → Int32, fX10_goes (B + 108) (nI c) (nI (cntTo rows (nC N c 0) j)) 1 (MK B n I L Q R) = some (MK B n I' L Q R) ∧ (∀ a, a ≠ 120 → a ≠ 121 → I' a = I a) ∧ RidM I' N rows (addR rows s c j) ∧ EnvM I' L N rows := by
  obtain ⟨I', r1, r2, r3, r4⟩ := m_goes (B := B) (n := n) (Q := Q) (R := R) (x := 1) hE hc hv
  have hw := (hE.way hc hv).1
  refine ⟨I', r1, r2, ⟨fun q hq => ?_, fun c' hc' j' j1 j2 j3 => ?_⟩, hE.same (r2 114 (by decide) (by decide)) (r2 115 (by decide) (by decide)) (r2 116 (by decide) (by decide))⟩
  · rw [r4 q hq, hR.1 q hq]
    show _ = nI (if hasQ rows j q = true then s.1 q + 1 else s.1 q)
    by_cases e : hasQ rows j q = true
    · rw [if_pos e, if_pos e, nI_1]
    · rw [if_neg e, if_neg e]
  · have hw' := (hE.way hc' ⟨j1, j2, j3⟩).1
    show _ = nI (if c' = c ∧ j' = j then s.2 c j + 1 else s.2 c' j')
    rw [r3, mu2]
    by_cases e : c' = c ∧ j' = j
    · rw [if_pos e, if_pos (by rw [e.1, e.2]), hR.2 c hc j hv.1 hv.2.1 hv.2.2, nI_1]
    · rw [if_neg e, if_neg]
      · exact hR.2 c' hc' j' j1 j2 j3
      · intro g
        have e1 : c' = c := by omega
        subst e1
        exact e ⟨rfl, cntv_inj j1 j3 hv.1 hv.2.2 (by omega)⟩
theorem m_sub {B n : Nat} {I : Nat → Nat → Int32} {L : Nat → Nat → Int64} {Q : Nat → Nat → Option Nat} {R : Nat → RDt} {N : NET} {rows : List ROW} {c j : Nat} {s : SST} (hE : EnvM I L N rows) (hc : c < 3) (hv : ValR N rows c j) (hR : RidM I N rows s) (h0 : 0 < s.2 c j) (hq0 : ∀ q, hasQ rows j q = true → 0 < s.1 q) : ∃ I' : Nat → Nat → Int32, fX10_goes (B + 108) (nI c) (nI (cntTo rows (nC N c 0) j)) (-1) (MK B n I L Q R) = some (MK B n I' L Q R) ∧ (∀ a, a ≠ 120 → a ≠ 121 → I' a = I a) ∧ RidM I' N rows (subR rows s c j) ∧ EnvM I' L N rows := by
  obtain ⟨I', r1, r2, r3, r4⟩ := m_goes (B := B) (n := n) (Q := Q) (R := R) (x := -1) hE hc hv
  have hw := (hE.way hc hv).1
  refine ⟨I', r1, r2, ⟨fun q hq => ?_, fun c' hc' j' j1 j2 j3 => ?_⟩, hE.same (r2 114 (by decide) (by decide)) (r2 115 (by decide) (by decide)) (r2 116 (by decide) (by decide))⟩
  · rw [r4 q hq, hR.1 q hq]
    show _ = nI (if hasQ rows j q = true then s.1 q - 1 else s.1 q)
    by_cases e : hasQ rows j q = true
    · rw [if_pos e, if_pos e, nI_m1 (hq0 q e)]
    · rw [if_neg e, if_neg e]
  · have hw' := (hE.way hc' ⟨j1, j2, j3⟩).1
    show _ = nI (if c' = c ∧ j' = j then s.2 c j - 1 else s.2 c' j')
    rw [r3, mu2]
    by_cases e : c' = c ∧ j' = j
    · rw [if_pos e, if_pos (by rw [e.1, e.2]), hR.2 c hc j hv.1 hv.2.1 hv.2.2, nI_m1 h0]
    · rw [if_neg e, if_neg]
      · exact hR.2 c' hc' j' j1 j2 j3
      · intro g
        have e1 : c' = c := by omega
        subst e1
        exact e ⟨rfl, cntv_inj j1 j3 hv.1 hv.2.2 (by omega)⟩
/-- the least of a class's ways, one left out -/
def mrow (rows : List ROW) (fr : Nat → Nat) (t : Nat) (ex : Option Nat) : Nat → Option Nat
  | 0 => none
  | j + 1 => if 1 ≤ j ∧ wEnd (rowAt rows j) = t ∧ ex ≠ some j then (match mrow rows fr t ex j with | none => some j | some b => if fr j < fr b then some j else some b) else mrow rows fr t ex j
theorem mrow_none {rows : List ROW} {fr : Nat → Nat} {t : Nat} : ∀ c, mrow rows fr t none c = lrow rows fr t c
  | 0 => rfl
  | c + 1 => by
    rw [mrow, lrow, mrow_none c]
    by_cases e : 1 ≤ c ∧ wEnd (rowAt rows c) = t
    · rw [if_pos ⟨e.1, e.2, fun h => by cases h⟩, if_pos e]
      rfl
    · rw [if_neg (fun h => e ⟨h.1, h.2.1⟩), if_neg e]
theorem mrow_is {rows : List ROW} {fr : Nat → Nat} {t b : Nat} {ex : Option Nat} : ∀ c : Nat, mrow rows fr t ex c = some b → 1 ≤ b ∧ b < c ∧ wEnd (rowAt rows b) = t
  | 0, h => by cases h
  | c + 1, h => by
    rw [mrow] at h
    by_cases e : 1 ≤ c ∧ wEnd (rowAt rows c) = t ∧ ex ≠ some c
    · rw [if_pos e] at h
      cases q : mrow rows fr t ex c with
      | none =>
        rw [q] at h
        rw [← Option.some.inj h]
        exact ⟨e.1, by omega, e.2.1⟩
      | some b' =>
        rw [q] at h
        dsimp only at h
        by_cases g : fr c < fr b'
        · rw [if_pos g] at h
          rw [← Option.some.inj h]
          exact ⟨e.1, by omega, e.2.1⟩
        · rw [if_neg g] at h
          have := mrow_is c q
          rw [← Option.some.inj h]
          exact ⟨this.1, by omega, this.2.2⟩
    · rw [if_neg e] at h
      have := mrow_is c h
      exact ⟨this.1, by omega, this.2.2⟩
theorem mrow_goal {rows : List ROW} {fr : Nat → Nat} {t j : Nat} : ∀ c, (∀ b, lrow rows fr t c = some b → fr b < fr j → mrow rows fr t (some j) c = some b) ∧ (∀ b, mrow rows fr t (some j) c = some b → fr b < fr j → lrow rows fr t c = some b)
  | 0 => ⟨fun b h => (by cases h), fun b h => (by cases h)⟩
  | c + 1 => by
    obtain ⟨p1, p2⟩ := mrow_goal (rows := rows) (fr := fr) (t := t) (j := j) c
    rw [lrow, mrow]
    by_cases e : 1 ≤ c ∧ wEnd (rowAt rows c) = t
    · rw [if_pos e]
      by_cases ej : j = c
      · rw [if_neg (fun h => h.2.2 (congrArg some ej))]
        subst ej
        cases hl : lrow rows fr t j with
        | none =>
          rw [hl] at p1 p2
          refine ⟨fun b h hb => ?_, fun b h hb => ?_⟩
          · have h := Option.some.inj h
            rw [h] at hb
            exact absurd hb (Nat.lt_irrefl _)
          · cases p2 b h hb
        | some a =>
          rw [hl] at p1 p2
          dsimp only
          by_cases g : fr j < fr a
          · rw [if_pos g]
            refine ⟨fun b h hb => ?_, fun b h hb => ?_⟩
            · have h := Option.some.inj h
              rw [h] at hb
              exact absurd hb (Nat.lt_irrefl _)
            · have := Option.some.inj (p2 b h hb)
              rw [this] at g
              omega
          · rw [if_neg g]
            exact ⟨p1, p2⟩
      · rw [if_pos ⟨e.1, e.2, fun h => ej (Option.some.inj h)⟩]
        cases hl : lrow rows fr t c with
        | none =>
          rw [hl] at p1 p2
          cases hm : mrow rows fr t (some j) c with
          | none => exact ⟨fun b h _ => h, fun b h _ => h⟩
          | some a =>
            rw [hm] at p1 p2
            dsimp only
            have ha : ¬ fr a < fr j := fun h => by cases p2 a rfl h
            refine ⟨fun b h hb => ?_, fun b h hb => ?_⟩
            · have h := Option.some.inj h
              rw [← h] at hb
              rw [if_pos (by omega), h]
            · by_cases g : fr c < fr a
              · rw [if_pos g] at h; exact h
              · rw [if_neg g] at h
                rw [← Option.some.inj h] at hb
                exact absurd hb ha
        | some a =>
          rw [hl] at p1 p2
          cases hm : mrow rows fr t (some j) c with
          | none =>
            rw [hm] at p1 p2
            dsimp only
            have ha : ¬ fr a < fr j := fun h => by cases p1 a rfl h
            refine ⟨fun b h hb => ?_, fun b h hb => ?_⟩
            · by_cases g : fr c < fr a
              · rw [if_pos g] at h; exact h
              · rw [if_neg g] at h
                rw [← Option.some.inj h] at hb
                exact absurd hb ha
            · have h := Option.some.inj h
              rw [← h] at hb
              rw [if_pos (by omega), h]
          | some a' =>
            rw [hm] at p1 p2
            dsimp only
            by_cases ha : fr a < fr j
            · have := Option.some.inj (p1 a rfl ha)
              rw [this]
              exact ⟨fun b h _ => h, fun b h _ => h⟩
            · have ha' : ¬ fr a' < fr j := fun h => ha (by
                have := Option.some.inj (p2 a' rfl h)
                rw [this]; exact h)
              refine ⟨fun b h hb => ?_, fun b h hb => ?_⟩
              · by_cases g : fr c < fr a
                · rw [if_pos g] at h
                  have h := Option.some.inj h
                  rw [← h] at hb
                  rw [if_pos (by omega), h]
                · rw [if_neg g] at h
                  rw [← Option.some.inj h] at hb
                  exact absurd hb ha
              · by_cases g : fr c < fr a'
                · rw [if_pos g] at h
                  have h := Option.some.inj h
                  rw [← h] at hb
                  rw [if_pos (by omega), h]
                · rw [if_neg g] at h
                  rw [← Option.some.inj h] at hb
                  exact absurd hb ha'
    · rw [if_neg e, if_neg (fun h => e ⟨h.1, h.2.1⟩)]
      exact ⟨p1, p2⟩
def encW (rows : List ROW) (t : Nat) (o : Option Nat) : Int32 := match o with
  | none => -1
  | some b => nI (cntTo rows t b)
def encP (fr : Nat → Nat) (o : Option Nat) : Int64 := match o with
  | none => lN mxL
  | some b => lN (fr b)
theorem lN_leE {a b : Nat} (ha : a < 9223372036854775808) (hb : b < 9223372036854775808) : (lN a ≤ lN b) = (a ≤ b) := propext (pk_lLE (by omega) (by omega))
theorem m_cheapest {B n : Nat} {I : Nat → Nat → Int32} {L : Nat → Nat → Int64} {Q : Nat → Nat → Option Nat} {R : Nat → RDt} {N : NET} {rows : List ROW} {mode c : Nat} {ex : Option Nat} {ld : Nat → Nat} (hE : EnvM I L N rows) (hm : mode < 3) (hc : c < 3) (hex : ∀ j, ex = some j → ValR N rows c j) (hl : ∀ q, q < 13 → I 120 q = nI (ld q)) (hb : ∀ q, q < 13 → ld q ≤ 36) : fX10_cheapest (B + 108) (nI mode) (nI c) (encW rows (nC N c 0) ex) (MK B n I L Q R) = some (encW rows (nC N c 0) (mrow rows (fareR rows (moreP N mode c ld)) (nC N c 0) ex rows.length)) := by
  have hE2 := hE
  obtain ⟨e1, e2, e3, e4, e5, e6⟩ := hE2
  have h13 := e2.2.2.1
  have hfr : ∀ j, j < rows.length → fareR rows (moreP N mode c ld) j ≤ 5500000000000000000 := fun j hj => e3.fare_le e2 (fun q hq => pAt_le e2 hc hq (by have := hb q (by omega); omega)) hj
  have hcl := cntTo_le rows (nC N c 0)
  have hloop : ∀ (m n' i : Nat), i + m = rows.length → m < n' → fX10_cheapest_L11 (B + 108) (nI mode) (nI c) (encW rows (nC N c 0) ex) (MK B n I L Q R) (fun (y17 : Int32) => some y17) n' (encW rows (nC N c 0) (mrow rows (fareR rows (moreP N mode c ld)) (nC N c 0) ex i)) (encP (fareR rows (moreP N mode c ld)) (mrow rows (fareR rows (moreP N mode c ld)) (nC N c 0) ex i)) (nI (cntTo rows (nC N c 0) i)) = some (encW rows (nC N c 0) (mrow rows (fareR rows (moreP N mode c ld)) (nC N c 0) ex rows.length)) := by
    intro m
    induction m with
    | zero =>
      intro n' i hi hn
      obtain ⟨n1, rfl⟩ := suc_of hn
      have hcl1 := hcl rows.length
      rw [fX10_cheapest_L11, g_MwayMany, ob1_some, a_MwayMany hc, ob1_some, (e6 c hc).1, show i = rows.length by omega, if_pos (by rw [nI_leI (by omega) (by omega)]; omega)]
    | succ m ih =>
      intro n' i hi hn
      have hcl1 := hcl rows.length
      have hcl2 := hcl i
      by_cases c1 : 1 ≤ i ∧ wEnd (rowAt rows i) = nC N c 0
      · obtain ⟨n1, rfl⟩ := suc_of (show m < n' by omega)
        have hv : ValR N rows c i := ⟨c1.1, by omega, c1.2⟩
        have hlt := cntv_lt c1.1 c1.2 (show i < rows.length by omega)
        have ecnt : cntTo rows (nC N c 0) (i + 1) = cntTo rows (nC N c 0) i + 1 := by rw [cntTo, if_pos c1]
        have := ih n1 (i + 1) (by omega) (by omega)
        rw [ecnt] at this
        have hfi := hfr i (by omega)
        have hmi : ∀ b, mrow rows (fareR rows (moreP N mode c ld)) (nC N c 0) ex i = some b → fareR rows (moreP N mode c ld) b ≤ 5500000000000000000 := fun b h => hfr b (by have := (mrow_is i h).2.1; omega)
        rw [fX10_cheapest_L11, g_MwayMany, ob1_some, a_MwayMany hc, ob1_some, (e6 c hc).1, if_neg (by rw [nI_leI (by omega) (by omega)]; omega), bnd_eq]
        by_cases c2 : ex = some i
        · have em : mrow rows (fareR rows (moreP N mode c ld)) (nC N c 0) ex (i + 1) = mrow rows (fareR rows (moreP N mode c ld)) (nC N c 0) ex i := by rw [mrow, if_neg (fun h => h.2.2 c2)]
          have hle : encP (fareR rows (moreP N mode c ld)) (mrow rows (fareR rows (moreP N mode c ld)) (nC N c 0) ex i) ≤ (9223372036854775807 : Int64) := by
            rw [lit_mx]
            unfold encP
            cases hmm : mrow rows (fareR rows (moreP N mode c ld)) (nC N c 0) ex i with
            | none => exact Int64.le_refl _
            | some b =>
              have := hmi b hmm
              dsimp only
              rw [lN_leE (by omega) (by rw [mxL_eq]; omega), mxL_eq]
              omega
          rw [em] at this
          rw [if_pos (by rw [c2]; rfl)]
          simp only [bnd_eq]
          rw [if_pos hle, if_pos hle, nI_1]
          exact this
        · have hne : ¬ nI (cntTo rows (nC N c 0) i) = encW rows (nC N c 0) ex := fun h => by
            cases hx : ex with
            | none =>
              rw [hx] at h
              have h : nI (cntTo rows (nC N c 0) i) = m1 := h
              rw [eq_m1 (by omega)] at h
              exact h
            | some j =>
              rw [hx] at h
              have hvj := hex j hx
              have h : nI (cntTo rows (nC N c 0) i) = nI (cntTo rows (nC N c 0) j) := h
              have := hcl j
              have := hvj.2.1
              rw [nI_eq (by omega) (by omega)] at h
              exact c2 (by rw [hx, cntv_inj hvj.1 hvj.2.2 c1.1 c1.2 h.symm])
          have em : mrow rows (fareR rows (moreP N mode c ld)) (nC N c 0) ex (i + 1) = (match mrow rows (fareR rows (moreP N mode c ld)) (nC N c 0) ex i with | none => some i | some b => if fareR rows (moreP N mode c ld) i < fareR rows (moreP N mode c ld) b then some i else some b) := by rw [mrow, if_pos ⟨c1.1, c1.2, c2⟩]
          rw [em] at this
          rw [if_neg hne, m_priceMore hE hm hc hv hl hb, ob1_some]
          simp only [bnd_eq]
          cases hmm : mrow rows (fareR rows (moreP N mode c ld)) (nC N c 0) ex i with
          | none =>
            rw [hmm] at this
            have hz : ¬ encP (fareR rows (moreP N mode c ld)) none ≤ lN (fareR rows (moreP N mode c ld) i) := by
              show ¬ lN mxL ≤ _
              rw [lN_leE (by rw [mxL_eq]; omega) (by omega), mxL_eq]
              omega
            rw [if_neg hz, if_neg hz, nI_1]
            exact this
          | some b =>
            rw [hmm] at this
            have hbb := hmi b hmm
            dsimp only at this
            have hz : (encP (fareR rows (moreP N mode c ld)) (some b) ≤ lN (fareR rows (moreP N mode c ld) i)) = (fareR rows (moreP N mode c ld) b ≤ fareR rows (moreP N mode c ld) i) := lN_leE (by omega) (by omega)
            by_cases g : fareR rows (moreP N mode c ld) i < fareR rows (moreP N mode c ld) b
            · have hzz : ¬ encP (fareR rows (moreP N mode c ld)) (some b) ≤ lN (fareR rows (moreP N mode c ld) i) := by rw [hz]; omega
              rw [if_pos g] at this
              rw [if_neg hzz, if_neg hzz, nI_1]
              exact this
            · have hzz : encP (fareR rows (moreP N mode c ld)) (some b) ≤ lN (fareR rows (moreP N mode c ld) i) := by rw [hz]; omega
              rw [if_neg g] at this
              rw [if_pos hzz, if_pos hzz, nI_1]
              exact this
      · have ecnt : cntTo rows (nC N c 0) (i + 1) = cntTo rows (nC N c 0) i := by rw [cntTo, if_neg c1]; rfl
        have em : mrow rows (fareR rows (moreP N mode c ld)) (nC N c 0) ex (i + 1) = mrow rows (fareR rows (moreP N mode c ld)) (nC N c 0) ex i := by rw [mrow, if_neg (fun h => c1 ⟨h.1, h.2.1⟩)]
        have := ih n' (i + 1) (by omega) (by omega)
        rw [ecnt, em] at this
        exact this
  unfold fX10_cheapest
  exact hloop rows.length lf 0 (by omega) (by show _ < 1000; omega)
