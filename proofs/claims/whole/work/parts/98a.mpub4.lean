/-! the model without a road, or with one more -/
theorem IsM.scr2 {I I' : Nat → Nat → Int32} {L L' : Nat → Nat → Int64} {s : STT} (h : IsM I L s) (hI : ∀ a, a ≠ 108 → a < 114 ∨ 125 < a → I' a = I a) (h3 : I' 108 3 = I 108 3) (h5 : I' 108 5 = I 108 5) (hL : ∀ a, a ≠ 108 → a ≠ 109 → a ≠ 111 → a < 114 ∨ 125 < a → L' a = L a) (hN : MNet L' 109 (stN s)) : IsM I' L' s := by
  obtain ⟨h1, h2, h3', h4, h5'⟩ := h
  refine ⟨hN, ⟨by rw [h3]; exact h2.1, fun M hM => ?_⟩, ?_, fun l hl => ?_, fun t ht => ?_⟩
  · have := h2.2 M hM
    unfold MNet at *
    rw [hL 110 (by decide) (by decide) (by decide) (by decide)]
    exact this
  · unfold MTape at *; rw [h5, hI 112 (by decide) (by decide)]; exact h3'
  · have := h4 l hl
    unfold MList at *
    rw [hI 126 (by decide) (by decide), hL 127 (by decide) (by decide) (by decide) (by decide)]
    exact this
  · have := h5' t ht
    unfold MTray MPlace at *
    rw [hI 128 (by decide) (by decide), hI 129 (by decide) (by decide), hI 130 (by decide) (by decide), hL 131 (by decide) (by decide) (by decide) (by decide)]
    exact this
/-- as FM, but now and kept may have changed -/
def FK (I I' : Nat → Nat → Int32) (L L' : Nat → Nat → Int64) : Prop := (∀ a, a ≠ 108 → a < 114 ∨ 125 < a → I' a = I a ∧ (a ≠ 109 → a ≠ 111 → L' a = L a)) ∧ ∀ j, j < 18 → I' 108 j = I 108 j
theorem FK.tr {I I1 I2 : Nat → Nat → Int32} {L La Lb : Nat → Nat → Int64} (h : FK I I1 L La) (g : FK I1 I2 La Lb) : FK I I2 L Lb := ⟨fun a h1 h2 => ⟨by rw [(g.1 a h1 h2).1, (h.1 a h1 h2).1], fun h3 h4 => by rw [(g.1 a h1 h2).2 h3 h4, (h.1 a h1 h2).2 h3 h4]⟩, fun j hj => by rw [g.2 j hj, h.2 j hj]⟩
theorem FM.fk {I I' : Nat → Nat → Int32} {L L' : Nat → Nat → Int64} (h : FM I I' L L') : FK I I' L L' := ⟨fun a h1 h2 => ⟨(h.1 a h1 h2).1, fun _ _ => (h.1 a h1 h2).2⟩, h.2⟩
theorem FK.l {I : Nat → Nat → Int32} {L L' : Nat → Nat → Int64} (h : ∀ a, a ≠ 109 → a ≠ 111 → L' a = L a) : FK I I L L' := ⟨fun a _ _ => ⟨rfl, h a⟩, fun _ _ => rfl⟩
theorem FK.is {I I' : Nat → Nat → Int32} {L L' : Nat → Nat → Int64} {s : STT} (f : FK I I' L L') (h : IsM I L s) (hN : MNet L' 109 (stN s)) : IsM I' L' s := h.scr2 (fun a h1 h2 => (f.1 a h1 h2).1) (f.2 3 (by decide)) (f.2 5 (by decide)) (fun a h1 h2 h3 h4 => (f.1 a h1 h4).2 h2 h3) hN
theorem RunM.fk {α : Type} {B n : Nat} {I : Nat → Nat → Int32} {L : Nat → Nat → Int64} {Q : Nat → Nat → Option Nat} {R : Nat → RDt} {I' : Nat → Nat → Int32} {L' : Nat → Nat → Int64} {s : STT} {v : α} {o : Option (α × AH)} (h : IsM I L s) (f : FK I I' L L') (hN : MNet L' 109 (stN s)) (e : o = some (v, MK B n I' L' Q R)) : RunM B n I L Q R o (v, s) := ⟨I', L', e, f.is h hN, fun a ha => ⟨(f.1 a (by omega) (by omega)).1, (f.1 a (by omega) (by omega)).2 (by omega) (by omega)⟩⟩
theorem m_keep {B n : Nat} {I : Nat → Nat → Int32} {L : Nat → Nat → Int64} {Q : Nat → Nat → Option Nat} {R : Nat → RDt} {N : NET} (hM : MNet L 109 N) (hm : nM N ≤ 13) : ∃ L' : Nat → Nat → Int64, fX10_copies (B + 109) (B + 111) (MK B n I L Q R) = some (MK B n I L' Q R) ∧ (∀ a, a ≠ 111 → L' a = L a) ∧ MNet L' 111 N := by
  obtain ⟨L', r1, r2, r3⟩ := m_copies_L2 (x := 109) (y := 111) (B := B) (n := n) (I := I) (Q := Q) (R := R) (by decide) (fun L i hi => a_Mnow hi) (fun L i v hi => s_Mkept hi) (fun (g7 : AH) => some g7) 118 lf 0 L (by omega) (by decide) (fun _ _ => rfl) (fun i hi => absurd hi (Nat.not_lt_zero i))
  exact ⟨L', r1, r2, hM.copy hm r3⟩
theorem m_back {B n : Nat} {I : Nat → Nat → Int32} {L : Nat → Nat → Int64} {Q : Nat → Nat → Option Nat} {R : Nat → RDt} {N : NET} (hM : MNet L 111 N) (hm : nM N ≤ 13) : ∃ L' : Nat → Nat → Int64, fX10_copies (B + 111) (B + 109) (MK B n I L Q R) = some (MK B n I L' Q R) ∧ (∀ a, a ≠ 109 → L' a = L a) ∧ MNet L' 109 N := by
  obtain ⟨L', r1, r2, r3⟩ := m_copies_L2 (x := 111) (y := 109) (B := B) (n := n) (I := I) (Q := Q) (R := R) (by decide) (fun L i hi => a_Mkept hi) (fun L i v hi => s_Mnow hi) (fun (g7 : AH) => some g7) 118 lf 0 L (by omega) (by decide) (fun _ _ => rfl) (fun i hi => absurd hi (Nat.not_lt_zero i))
  exact ⟨L', r1, r2, hM.copy hm r3⟩
theorem m_totalWithout {B n : Nat} {I : Nat → Nat → Int32} {L : Nat → Nat → Int64} {Q : Nat → Nat → Option Nat} {R : Nat → RDt} {N : NET} {mode q : Nat} (hO : NetOK N) (hM : MNet L 109 N) (hm : mode < 3) (hq : q < nM N) : ∃ (I' : Nat → Nat → Int32) (L' : Nat → Nat → Int64), fX10_totalWithout (B + 108) (nI mode) (nI q) (MK B n I L Q R) = some (totB N mode (rowsOf N (without q)), MK B n I' L' Q R) ∧ FK I I' L L' ∧ MNet L' 109 N := by
  have h13 := hO.2.2.1
  obtain ⟨L1, a1, a2, a3⟩ := m_keep (B := B) (n := n) (I := I) (Q := Q) (R := R) hM h13
  have hM1 : MNet L1 109 N := by unfold MNet at *; rw [a2 109 (by decide)]; exact hM
  obtain ⟨L2, b1, b2, b3⟩ := m_takesOut (B := B) (n := n) (I := I) (Q := Q) (R := R) hM1 h13 hq
  obtain ⟨I3, L3, c1, c2⟩ := m_totalBy (B := B) (n := n) (I := I) (Q := Q) (R := R) (dropRd_ok hO hq) b2 hm
  have hM3 : MNet L3 111 N := by unfold MNet at *; rw [(c2.1 111 (by decide) (by decide)).2, b3 111 (by decide)]; exact a3
  obtain ⟨L4, d1, d2, d3⟩ := m_back (B := B) (n := n) (I := I3) (Q := Q) (R := R) hM3 h13
  refine ⟨I3, L4, ?_, ((FK.l fun a h1 h2 => a2 a h2).tr (FK.l fun a h1 h2 => b3 a h1)).tr (c2.fk.tr (FK.l fun a h1 h2 => d2 a h1)), d3⟩
  unfold fX10_totalWithout
  rw [g_Mnow, ob1_some, g_Mkept, ob1_some, a1, ob1_some, b1, ob1_some, c1, ob2_some, g_Mkept, ob1_some, g_Mnow, ob1_some, d1, ob1_some, totB_drop hO hq]
theorem totB_cases (N : NET) (mode : Nat) (rows : List ROW) : (∃ a, a ≤ mxL ∧ canAll N rows = true ∧ (totN N (stF N mode rows).1.1 (nM N)).2 = false ∧ (totN N (stF N mode rows).1.1 (nM N)).1 = a ∧ totB N mode rows = lN a ∧ totS N mode rows = lN a) ∨ (canAll N rows = true ∧ (totN N (stF N mode rows).1.1 (nM N)).2 = true ∧ totB N mode rows = -6 ∧ totS N mode rows = NOv) ∨ (canAll N rows = false ∧ totB N mode rows = -3 ∧ totS N mode rows = NOv) := by
  unfold totB totS totA totV
  cases hw : canAll N rows with
  | false => exact Or.inr (Or.inr ⟨rfl, rfl, rfl⟩)
  | true =>
    have hl := totN_leM N (stF N mode rows).1.1 (nM N)
    cases ho : (totN N (stF N mode rows).1.1 (nM N)).2 with
    | true => exact Or.inr (Or.inl ⟨rfl, rfl, rfl, rfl⟩)
    | false => exact Or.inl ⟨_, hl, rfl, rfl, rfl, rfl, rfl⟩
theorem lN_neg {a : Nat} (h : a ≤ mxL) : ¬ lN a < 0 := fun g => by
  have h1 := lN_nn h
  rw [Int64.le_iff_toInt_le] at h1
  rw [Int64.lt_iff_toInt_lt] at g
  omega
theorem lN_no {a : Nat} (h : a ≤ mxL) : ¬ lN a = NOv := by
  have := mx63
  rw [lN_NO (by rw [mxL_eq] at *; omega)]
  exact id
theorem diff_tot {N N' : NET} {mode mode' : Nat} {rows rows' : List ROW} : (if totB N mode rows < 0 then NOv else if 0 ≤ totB N' mode' rows' then totB N' mode' rows' - totB N mode rows else NOv) = diffA (totS N mode rows) (totS N' mode' rows') := by
  unfold diffA
  rcases totB_cases N mode rows with ⟨a, a1, a2, a3, a4, a5, a6⟩ | ⟨_, _, a5, a6⟩ | ⟨_, a5, a6⟩
  · rw [a5, a6, if_neg (lN_neg a1), if_neg (lN_no a1)]
    rcases totB_cases N' mode' rows' with ⟨b, b1, b2, b3, b4, b5, b6⟩ | ⟨_, _, b5, b6⟩ | ⟨_, b5, b6⟩
    · rw [b5, b6, if_pos (lN_nn b1), if_neg (lN_no b1)]
    · rw [b5, b6, if_neg (by decide), if_pos rfl]
    · rw [b5, b6, if_neg (by decide), if_pos rfl]
  · rw [a5, a6, if_pos (by decide), if_pos rfl]
  · rw [a5, a6, if_pos (by decide), if_pos rfl]
theorem d_without {B n : Nat} {I : Nat → Nat → Int32} {L : Nat → Nat → Int64} {Q : Nat → Nat → Option Nat} {R : Nat → RDt} {s : STT} (h : IsM I L s) (hs : OkS s) (m r : Int32) : RunM B n I L Q R (fX10_without (B + 108) m r (MK B n I L Q R)) (A_without (stN s) m r, s) := by
  have hm12 := hs.2.1
  unfold A_without fX10_without
  rw [m_isMode, ob1_some, NO_lit]
  rcases ix_cases m (m := 3) (by decide) with ⟨mode, i1, rfl, i3⟩ | ⟨i1, i2⟩
  · rw [i3, if_neg (bS mode), m_isRoad h.1 (by omega), ob1_some]
    dsimp only
    rcases ix_cases r (m := nM (stN s)) (by omega) with ⟨q, q1, rfl, q3⟩ | ⟨q1, q2⟩
    · obtain ⟨I1, L1, a1, a2⟩ := m_totalBy (B := B) (n := n) (I := I) (L := L) (Q := Q) (R := R) hs.1 h.1 i1
      have hM1 : MNet L1 109 (stN s) := (a2.is h).1
      obtain ⟨I2, L2, b1, b2, b3⟩ := m_totalWithout (B := B) (n := n) (I := I1) (Q := Q) (R := R) hs.1 hM1 i1 q1
      rw [q3, if_neg (bS q), a1, ob2_some, b1, ob2_some]
      dsimp only
      refine RunM.fk h (a2.fk.tr b2) b3 ?_
      rw [← diff_tot]
      by_cases c1 : totB (stN s) mode (rowsN (stN s)) < 0
      · rw [if_pos c1, if_pos c1]
      · rw [if_neg c1, if_neg c1]
        by_cases c2 : 0 ≤ totB (stN s) mode (rowsOf (stN s) (without q))
        · rw [if_pos c2, if_pos c2]
        · rw [if_neg c2, if_neg c2]
    · rw [q1, if_pos bN]
      exact RunM.same h rfl
  · rw [i1, if_pos bN]
    exact RunM.same h rfl
theorem m_paradoxOf {B n : Nat} {I : Nat → Nat → Int32} {L : Nat → Nat → Int64} {Q : Nat → Nat → Option Nat} {R : Nat → RDt} {N : NET} {mode q : Nat} (hO : NetOK N) (hM : MNet L 109 N) (hm : mode < 3) (hq : q < nM N) : ∃ (I' : Nat → Nat → Int32) (L' : Nat → Nat → Int64), fX10_paradoxOf (B + 108) (nI mode) (nI q) (MK B n I L Q R) = some (verdS N mode (rowsN N) (rowsOf N (without q)), MK B n I' L' Q R) ∧ FK I I' L L' ∧ MNet L' 109 N := by
  obtain ⟨I1, L1, a1, a2⟩ := m_totalBy (B := B) (n := n) (I := I) (L := L) (Q := Q) (R := R) hO hM hm
  have hM1 : MNet L1 109 N := by unfold MNet at *; rw [(a2.1 109 (by decide) (by decide)).2]; exact hM
  obtain ⟨I2, L2, b1, b2, b3⟩ := m_totalWithout (B := B) (n := n) (I := I1) (Q := Q) (R := R) hO hM1 hm hq
  refine ⟨I2, L2, ?_, a2.fk.tr b2, b3⟩
  unfold fX10_paradoxOf
  rw [a1, ob2_some, b1, ob2_some]
  have hmx := mx63
  rw [mxL_eq] at hmx
  have n3 : ∀ {a : Nat}, a ≤ mxL → ¬ lN a = -3 := fun {a} ha e => by
    have := lN_neg ha
    rw [e] at this
    exact this (by decide)
  unfold verdS verdA
  rcases totB_cases N mode (rowsN N) with ⟨a, x1, x2, x3, x4, x5, x6⟩ | ⟨x2, x3, x5, x6⟩ | ⟨x2, x5, x6⟩
  · rcases totB_cases N mode (rowsOf N (without q)) with ⟨b, y1, y2, y3, y4, y5, y6⟩ | ⟨y2, y3, y5, y6⟩ | ⟨y2, y5, y6⟩
    · rw [x5, y5, x2, y2, x3, y3, x4, y4, if_neg (n3 x1), if_neg (n3 y1), if_neg (lN_neg x1), if_pos (lN_nn y1)]
      by_cases c : a ≤ b
      · rw [if_pos (by rw [mxL_eq] at x1 y1; rw [lN_leE (by omega) (by omega)]; exact c), if_pos rfl, if_pos rfl, if_neg (by decide), if_neg (by decide), if_neg (by omega)]
      · rw [if_neg (by rw [mxL_eq] at x1 y1; rw [lN_leE (by omega) (by omega)]; exact c), if_pos rfl, if_pos rfl, if_neg (by decide), if_neg (by decide), if_pos (by omega)]
    · rw [x5, y5, x2, y2, x3, y3, if_neg (n3 x1), if_neg (by decide), if_neg (lN_neg x1), if_neg (by decide), if_pos rfl, if_pos rfl, if_neg (by decide), if_pos rfl]
    · rw [x5, y5, x2, y2, if_neg (n3 x1), if_pos rfl, if_pos rfl, if_neg (by decide)]
  · rcases totB_cases N mode (rowsOf N (without q)) with ⟨b, y1, y2, y3, y4, y5, y6⟩ | ⟨y2, y3, y5, y6⟩ | ⟨y2, y5, y6⟩
    · rw [x5, y5, x2, y2, x3, if_neg (by decide), if_neg (n3 y1), if_pos (by decide), if_pos rfl, if_pos rfl, if_pos rfl]
    · rw [x5, y5, x2, y2, x3, if_neg (by decide), if_neg (by decide), if_pos (by decide), if_pos rfl, if_pos rfl, if_pos rfl]
    · rw [x5, y5, x2, y2, if_neg (by decide), if_pos rfl, if_pos rfl, if_neg (by decide)]
  · rw [x5, x2, if_pos rfl, if_neg (by decide)]
theorem d_paradox {B n : Nat} {I : Nat → Nat → Int32} {L : Nat → Nat → Int64} {Q : Nat → Nat → Option Nat} {R : Nat → RDt} {s : STT} (h : IsM I L s) (hs : OkS s) (m r : Int32) : RunM B n I L Q R (fX10_paradox (B + 108) m r (MK B n I L Q R)) (A_paradox (stN s) m r, s) := by
  have hm12 := hs.2.1
  unfold A_paradox fX10_paradox
  rw [m_isMode, ob1_some]
  rcases ix_cases m (m := 3) (by decide) with ⟨mode, i1, rfl, i3⟩ | ⟨i1, i2⟩
  · rw [i3, if_neg (bS mode), m_isRoad h.1 (by omega), ob1_some]
    dsimp only
    rcases ix_cases r (m := nM (stN s)) (by omega) with ⟨q, q1, rfl, q3⟩ | ⟨q1, q2⟩
    · obtain ⟨I2, L2, b1, b2, b3⟩ := m_paradoxOf (B := B) (n := n) (I := I) (L := L) (Q := Q) (R := R) hs.1 h.1 i1 q1
      rw [q3, if_neg (bS q), b1, ob2_some]
      exact RunM.fk h b2 b3 rfl
    · rw [q1, if_pos bN]
      exact RunM.same h rfl
  · rw [i1, if_pos bN]
    exact RunM.same h rfl
theorem m_par_L24 {B n : Nat} {Q : Nat → Nat → Option Nat} {R : Nat → RDt} {N : NET} {mode : Nat} (hO : NetOK N) (hm : mode < 3) (k : Int32 → AH → Option (Int32 × AH)) : ∀ (m n' i : Nat) (I : Nat → Nat → Int32) (L : Nat → Nat → Int64), i + m = nM N → m < n' → MNet L 109 N → ∃ (I' : Nat → Nat → Int32) (L' : Nat → Nat → Int64), fX10_paradoxes_L24 (B + 108) (nI mode) k n' (nI (parN N mode i)) (nI i) (MK B n I L Q R) = k (nI (parN N mode (nM N))) (MK B n I' L' Q R) ∧ FK I I' L L' ∧ MNet L' 109 N := by
  have h13 := hO.2.2.1
  intro m
  induction m with
  | zero =>
    intro n' i I L hl hn hM
    obtain ⟨n1, rfl⟩ := suc_of hn
    rw [show i = nM N by omega]
    refine ⟨I, L, ?_, (FM.rf).fk, hM⟩
    rw [fX10_paradoxes_L24, m_roadMany hM h13, ob1_some, if_pos (by rw [nI_leI (by omega) (by omega)]; omega)]
  | succ m ih =>
    intro n' i I L hl hn hM
    obtain ⟨n1, rfl⟩ := suc_of hn
    obtain ⟨I1, L1, b1, b2, b3⟩ := m_paradoxOf (B := B) (n := n) (I := I) (L := L) (Q := Q) (R := R) hO hM hm (show i < nM N by omega)
    obtain ⟨I2, L2, c1, c2, c3⟩ := ih n1 (i + 1) I1 L1 (by omega) (by omega) b3
    refine ⟨I2, L2, ?_, b2.tr c2, c3⟩
    have e : parN N mode (i + 1) = if verdS N mode (rowsN N) (rowsOf N (without i)) = 1 then parN N mode i ||| 2 ^ i else parN N mode i := rfl
    rw [e] at c1
    rw [fX10_paradoxes_L24, m_roadMany hM h13, ob1_some, if_neg (by rw [nI_leI (by omega) (by omega)]; omega), b1, ob2_some]
    by_cases c : verdS N mode (rowsN N) (rowsOf N (without i)) = 1
    · rw [if_pos c] at c1
      rw [if_pos c, show (1 : Int32) = nI 1 from rfl, shlI (by omega), nI_or, bnd_eq, bnd_eq, nI_add]
      exact c1
    · rw [if_neg c] at c1
      rw [if_neg c, show (0 : Int32) = nI 0 from rfl, nI_or, Nat.or_zero, bnd_eq, bnd_eq, nI_1]
      exact c1
theorem d_paradoxes {B n : Nat} {I : Nat → Nat → Int32} {L : Nat → Nat → Int64} {Q : Nat → Nat → Option Nat} {R : Nat → RDt} {s : STT} (h : IsM I L s) (hs : OkS s) (m : Int32) : RunM B n I L Q R (fX10_paradoxes (B + 108) m (MK B n I L Q R)) (A_paradoxes (stN s) m, s) := by
  have hm12 := hs.2.1
  unfold A_paradoxes fX10_paradoxes
  rw [m_isMode, ob1_some]
  rcases ix_cases m (m := 3) (by decide) with ⟨mode, i1, rfl, i3⟩ | ⟨i1, i2⟩
  · obtain ⟨I', r1, r2, r3, r4⟩ := m_steady (B := B) (n := n) (I := I) (L := L) (Q := Q) (R := R) hs.1 h.1 i1
    rw [i3, if_neg (bS mode), r1, ob2_some]
    dsimp only
    cases hw : canAll (stN s) (rowsN (stN s)) with
    | false =>
      rw [if_pos (show bz false = 0 from rfl), if_neg (show ¬ false = true by decide)]
      exact RunM.fm h (F4.fm r2) rfl
    | true =>
      obtain ⟨I2, L2, c1, c2, c3⟩ := m_par_L24 (B := B) (n := n) (Q := Q) (R := R) (N := stN s) (mode := mode) hs.1 i1 (fun (y17 : Int32) (g18 : AH) => some (y17, g18)) (nM (stN s)) lf 0 I' L (by omega) (by show _ < 1000; omega) h.1
      rw [if_neg (show ¬ bz true = 0 by decide), if_pos rfl]
      exact RunM.fk h ((F4.fm r2).fk.tr c2) c3 c1
  · rw [i1, if_pos bN]
    exact RunM.same h rfl
theorem d_adding {B n : Nat} {I : Nat → Nat → Int32} {L : Nat → Nat → Int64} {Q : Nat → Nat → Option Nat} {R : Nat → RDt} {s : STT} (h : IsM I L s) (hs : OkS s) (m f t : Int32) (b sl : Int64) : RunM B n I L Q R (fX10_adding (B + 108) m f t b sl (MK B n I L Q R)) (A_adding (stN s) m f t b sl, s) := by
  have hm12 := hs.2.1
  have hO := hs.1
  unfold A_adding fX10_adding
  rw [m_isMode, ob1_some, NO_lit]
  rcases ix_cases m (m := 3) (by decide) with ⟨mode, i1, rfl, i3⟩ | ⟨i1, i2⟩
  · rw [i3, if_neg (bS mode), m_areTowns h.1 hO.2.1, ob1_some]
    dsimp only
    rcases jx_cases (N := stN s) f t hO.2.1 with ⟨j, i, j1, j2, j3, rfl, rfl, j6⟩ | ⟨j1, j2⟩
    · rw [j6, if_neg (bS2 _), show (100000000000000000 : Int64) = lN 100000000000000000 from rfl, in_lx, ob1_some]
      dsimp only
      rcases lx_cases b (m := 100000000000000000) (by decide) with ⟨w, w1, rfl, w3⟩ | ⟨w1, w2⟩
      · rw [w3, if_neg (bS w), show (100000000000000 : Int64) = lN 100000000000000 from rfl, in_lx, ob1_some]
        dsimp only
        rcases lx_cases sl (m := 100000000000000) (by decide) with ⟨v, v1, rfl, v3⟩ | ⟨v1, v2⟩
        · have hd : RDok (lnR j i w v) := ⟨(by show 1 ≤ 2; decide), w1, v1, (by show 0 ≤ _; omega), (by show 0 ≤ _; omega), (by show j < 6; have := hO.2.1; omega), (by show i < 6; have := hO.2.1; omega)⟩
          have hO2 : NetOK (putRd (stN s) (lnR j i w v)) := putRd_ok hO hm12 hd j1 j2 j3
          obtain ⟨I1, L1, a1, a2⟩ := m_totalBy (B := B) (n := n) (I := I) (L := L) (Q := Q) (R := R) hO h.1 i1
          have hM1 : MNet L1 109 (stN s) := (a2.is h).1
          obtain ⟨L2, b1, b2, b3⟩ := m_keep (B := B) (n := n) (I := I1) (Q := Q) (R := R) hM1 (by omega)
          have hM2 : MNet L2 109 (stN s) := by unfold MNet at *; rw [b2 109 (by decide)]; exact hM1
          obtain ⟨L3, c1, c2, c3⟩ := m_puts (B := B) (n := n) (I := I1) (Q := Q) (R := R) hM2 hm12 hd
          have c1 : fX10_puts (B + 108) (nI j) (nI i) 1 (lN w) (lN v) 0 0 (MK B n I1 L2 Q R) = some (MK B n I1 L3 Q R) := c1
          obtain ⟨I4, L4, e1, e2⟩ := m_totalBy (B := B) (n := n) (I := I1) (L := L3) (Q := Q) (R := R) hO2 c2 i1
          have hM4 : MNet L4 111 (stN s) := by unfold MNet at *; rw [(e2.1 111 (by decide) (by decide)).2, c3 111 (by decide)]; exact b3
          obtain ⟨L5, g1, g2, g3⟩ := m_back (B := B) (n := n) (I := I4) (Q := Q) (R := R) hM4 (by omega)
          rw [v3, if_neg (bS v), a1, ob2_some, g_Mnow, ob1_some, g_Mkept, ob1_some, b1, ob1_some, c1, ob1_some, e1, ob2_some, g_Mkept, ob1_some, g_Mnow, ob1_some, g1, ob1_some]
          dsimp only
          refine RunM.fk h ((a2.fk.tr (FK.l fun a _ h2 => b2 a h2)).tr ((FK.l fun a h1 _ => c3 a h1).tr (e2.fk.tr (FK.l fun a h1 _ => g2 a h1)))) g3 ?_
          rw [← diff_tot]
          by_cases z1 : totB (stN s) mode (rowsN (stN s)) < 0
          · rw [if_pos z1, if_pos z1]
          · rw [if_neg z1, if_neg z1]
            by_cases z2 : 0 ≤ totB (putRd (stN s) (lnR j i w v)) mode (rowsN (putRd (stN s) (lnR j i w v)))
            · rw [if_pos z2, if_pos z2]
            · rw [if_neg z2, if_neg z2]
        · rw [v1, if_pos bN]
          exact RunM.same h rfl
      · rw [w1, if_pos bN]
        exact RunM.same h rfl
    · rw [j1, if_pos (show bz (none : Option (Nat × Nat)).isSome = 0 from rfl)]
      exact RunM.same h rfl
  · rw [i1, if_pos bN]
    exact RunM.same h rfl
