theorem take_flat {f : ROW → List ROW} {M : List ROW} {i : Nat} {r : ROW} (h : M[i]? = some r) : (M.take (i + 1)).flatMap f = (M.take i).flatMap f ++ f r := by
  rw [List.take_succ, h, List.flatMap_append]
  show _ ++ ([r] : List ROW).flatMap f = _
  rw [List.flatMap_cons, List.flatMap_nil, List.append_nil]
theorem flat_pre {f : ROW → List ROW} {M : List ROW} (i : Nat) : (M.take i).flatMap f <+: M.flatMap f := by
  have : M.flatMap f = (M.take i).flatMap f ++ (M.drop i).flatMap f := by rw [← List.flatMap_append, List.take_append_drop]
  rw [this]
  exact List.prefix_append _ _
theorem pre_len2 {p : ROW → Bool} {Y Z : List ROW} (h : Y <+: Z) : (Y.filter p).length ≤ (Z.filter p).length := by
  obtain ⟨V, rfl⟩ := h
  rw [List.filter_append, List.length_append]
  exact Nat.le_add_right _ _
theorem m_longer_L13 {B n : Nat} {L : Nat → Nat → Int64} {Q : Nat → Nat → Option Nat} {R : Nat → RDt} {N : NET} {c t d h g : Nat} {M W0 : List ROW} (hO : NetOK N) (hM : MNet L 109 N) (hc : c < 3) (ht : t = nC N c 0) (hd : d < 5) (hg : (h = 0 ∧ g = 256) ∨ (h = 256 ∧ g = 0)) (hm : M.length ≤ 211) (hr : ∀ r, r ∈ M → LvOK d r)
    (hb1 : ((M.flatMap (ext N tA)).filter (noTo t)).length ≤ 211) (hb2 : W0.length + ((M.flatMap (ext N tA)).filter (isTo t)).length ≤ 211) (k : Int32 → AH → Option (Int32 × AH)) : ∀ (m n' i : Nat) (I : Nat → Nat → Int32), i + m = M.length → m < n' → Half I h d M → Half I g (d + 1) (((M.take i).flatMap (ext N tA)).filter (noTo t)) → WaysM I c (W0 ++ ((M.take i).flatMap (ext N tA)).filter (isTo t)) →
    ∃ I' : Nat → Nat → Int32, fX10_longer_L13 (B + 108) (nI c) (nI h) (nI M.length) (nI d) (nI g) k n' (nI (((M.take i).flatMap (ext N tA)).filter (noTo t)).length) (nI (h + i)) (MK B n I L Q R) = k (nI ((M.flatMap (ext N tA)).filter (noTo t)).length) (MK B n I' L Q R) ∧ Half I' g (d + 1) ((M.flatMap (ext N tA)).filter (noTo t)) ∧ WaysM I' c (W0 ++ (M.flatMap (ext N tA)).filter (isTo t)) ∧ LayF c I I' := by
  intro m
  induction m with
  | zero =>
    intro n' i I hi hn h1 h2 h3
    obtain ⟨n1, rfl⟩ := suc_of hn
    have e : M.take i = M := List.take_of_length_le (by omega)
    rw [e] at h2 h3 ⊢
    refine ⟨I, ?_, h2, h3, LayF.rf⟩
    rw [fX10_longer_L13, nI_add, if_pos (by rw [nI_leI (by omega) (by omega)]; omega)]
  | succ m ih =>
    intro n' i I hi hn h1 h2 h3
    obtain ⟨n1, rfl⟩ := suc_of hn
    have hil : i < M.length := by omega
    have hri : M[i]? = some M[i] := List.getElem?_eq_getElem hil
    generalize M[i] = r at hri
    have hrm : r ∈ M := List.mem_of_getElem? hri
    have eT := take_flat (f := ext N tA) hri
    have hpre : (M.take i).flatMap (ext N tA) ++ ext N tA r <+: M.flatMap (ext N tA) := by rw [← eT]; exact flat_pre (i + 1)
    have p1 := pre_len2 (p := noTo t) hpre
    have p2 := pre_len2 (p := isTo t) hpre
    obtain ⟨I1, r1, r2, r3, r4, r5⟩ := m_longer_L24 (B := B) (n := n) (Q := Q) (R := R) (W0 := W0) (X := (M.take i).flatMap (ext N tA)) (x2 := nI h) (x3 := nI M.length) hO hM hc ht hd hg hri hm (hr r hrm) (by omega) (by omega) (fun (y58 : Int32) (g59 : AH) =>
        bnd (nI (h + i) + (1 : Int32)) fun y60 =>
        fX10_longer_L13 (B + 108) (nI c) (nI h) (nI M.length) (nI d) (nI g) k n1 y58 y60 g59) (nM N) lf 0 I (by omega) (by have := hO.2.2.1; show _ < 1000; omega) h1 (by
          show Half I g (d + 1) (((M.take i).flatMap (ext N tA) ++ []).filter (noTo t))
          rw [List.append_nil]; exact h2) (by
          show WaysM I c (W0 ++ ((M.take i).flatMap (ext N tA) ++ []).filter (isTo t))
          rw [List.append_nil]; exact h3)
    have e0 : (M.take i).flatMap (ext N tA) ++ extTo N tA 0 r 0 = (M.take i).flatMap (ext N tA) := List.append_nil _
    rw [e0] at r1
    obtain ⟨I2, s1, s2, s3, s4⟩ := ih n1 (i + 1) I1 (by omega) (by omega) r2 (by rw [eT]; exact r3) (by rw [eT]; exact r4)
    refine ⟨I2, ?_, s2, s3, r5.tr s4⟩
    rw [fX10_longer_L13, nI_add, if_neg (by rw [nI_leI (by omega) (by omega)]; omega)]
    refine r1.trans ?_
    rw [bnd_eq, nI_1]
    rw [eT] at s1
    exact s1
theorem lv_nil {N : NET} {A : Nat → Bool} {t d : Nat} (h : lvM N A t d = []) : ∀ m, lvM N A t (d + m) = [] ∧ lvW N A t (d + m) = lvW N A t d
  | 0 => ⟨h, rfl⟩
  | m + 1 => by
    obtain ⟨a, b⟩ := lv_nil h m
    have e1 : lvM N A t (d + (m + 1)) = ((lvM N A t (d + m)).flatMap (ext N A)).filter (noTo t) := rfl
    have e2 : lvW N A t (d + (m + 1)) = lvW N A t (d + m) ++ ((lvM N A t (d + m)).flatMap (ext N A)).filter (isTo t) := rfl
    rw [e1, e2, a, b]
    exact ⟨rfl, List.append_nil _⟩
theorem lvM_ok {N : NET} {A : Nat → Bool} {t : Nat} (hO : NetOK N) : ∀ d r, r ∈ lvM N A t d → LvOK d r
  | 0, r, h => lvS_ok (A := A) hO 0 r h
  | d + 1, s, h => by
    obtain ⟨r, h1, h2⟩ := List.mem_flatMap.mp (List.mem_filter.mp h).1
    exact ext_ok hO (lvM_ok hO d r h1) h2
theorem lvU_le {N : NET} {A : Nat → Bool} (hO : NetOK N) : (lvU N A 6).length ≤ 211 := by
  rw [← rows_sh hO, List.length_map]
  exact rows_le hO
theorem lvU_pre {N : NET} {A : Nat → Bool} {d : Nat} : ∀ m, (lvU N A d).length ≤ (lvU N A (d + m)).length
  | 0 => Nat.le_refl _
  | m + 1 => Nat.le_trans (lvU_pre m) (by
    show _ ≤ (lvU N A (d + m) ++ lvS N A (d + m)).length
    rw [List.length_append]; exact Nat.le_add_right _ _)
theorem lvM_le {N : NET} {A : Nat → Bool} {t d : Nat} (hO : NetOK N) (h0 : t ≠ 0) (hd : d ≤ 5) : (lvM N A t d).length ≤ 211 ∧ (lvW N A t d).length ≤ 211 := by
  have h1 := lvU_le (A := A) hO
  have h2 := lvU_pre (N := N) (A := A) (d := d + 1) (5 - d)
  rw [show d + 1 + (5 - d) = 6 by omega] at h2
  have e : lvU N A (d + 1) = lvU N A d ++ lvS N A d := rfl
  have h3 : (lvU N A (d + 1)).length = (lvU N A d).length + (lvS N A d).length := by rw [e, List.length_append]
  rw [lvM_eq h0, lvW_eq h0]
  have h4 := List.length_filter_le (offB t) (lvS N A d)
  have h5 := List.length_filter_le (isTo t) (lvU N A (d + 1))
  omega
theorem m_layWays_L28 {B n : Nat} {L : Nat → Nat → Int64} {Q : Nat → Nat → Option Nat} {R : Nat → RDt} {N : NET} {c t : Nat} (hO : NetOK N) (hM : MNet L 109 N) (hc : c < 3) (ht : t = nC N c 0) (h0 : t ≠ 0) (k : AH → Option AH) : ∀ (m n' d h : Nat) (I : Nat → Nat → Int32), d + m = 5 → m < n' → (h = 0 ∨ h = 256) → Half I h d (lvM N tA t d) → WaysM I c (lvW N tA t d) →
    ∃ I' : Nat → Nat → Int32, fX10_layWays_L28 (B + 108) (nI c) k n' (nI h) (nI (lvM N tA t d).length) (nI d) (MK B n I L Q R) = k (MK B n I' L Q R) ∧ WaysM I' c (lvW N tA t 5) ∧ LayF c I I' := by
  intro m
  induction m with
  | zero =>
    intro n' d h I hd hn hh h1 h2
    obtain ⟨n1, rfl⟩ := suc_of hn
    have e : d = 5 := by omega
    subst e
    refine ⟨I, ?_, h2, LayF.rf⟩
    rw [fX10_layWays_L28, if_pos (by decide)]
  | succ m ih =>
    intro n' d h I hd hn hh h1 h2
    obtain ⟨n1, rfl⟩ := suc_of hn
    have hl1 := lvM_le (N := N) (A := tA) (t := t) hO h0 (d := d) (by omega)
    have hl2 := lvM_le (N := N) (A := tA) (t := t) hO h0 (d := d + 1) (by omega)
    rw [fX10_layWays_L28, if_neg (by rw [l5, nI_leI (by omega) (by omega)]; omega)]
    by_cases c1 : (lvM N tA t d).length = 0
    · have := lv_nil (List.length_eq_zero_iff.mp c1) (5 - d)
      rw [show d + (5 - d) = 5 by omega] at this
      rw [c1, if_pos (by decide)]
      exact ⟨I, rfl, by rw [this.2]; exact h2, LayF.rf⟩
    · have eW : lvW N tA t (d + 1) = lvW N tA t d ++ ((lvM N tA t d).flatMap (ext N tA)).filter (isTo t) := rfl
      have eM : lvM N tA t (d + 1) = ((lvM N tA t d).flatMap (ext N tA)).filter (noTo t) := rfl
      rw [eW, eM, List.length_append] at hl2
      rw [if_neg (by rw [l0, nI_leI (by omega) (by omega)]; omega)]
      unfold fX10_longer
      obtain ⟨I1, r1, r2, r3, r4⟩ := m_longer_L13 (B := B) (n := n) (Q := Q) (R := R) (W0 := lvW N tA t d) (h := h) (g := 256 - h) hO hM hc ht (by omega) (by omega) hl1.1 (fun r hr => lvM_ok hO d r hr) hl2.1 hl2.2 (fun (y62 : Int32) (g63 : AH) => some (y62, g63)) (lvM N tA t d).length lf 0 I (by omega) (by show _ < 1000; omega) h1 (fun a s hs => by cases hs) (by
        show WaysM I c (lvW N tA t d ++ ([] : List ROW))
        rw [List.append_nil]; exact h2)
      have r1 : fX10_longer_L13 (B + 108) (nI c) (nI h) (nI (lvM N tA t d).length) (nI d) (nI (256 - h)) (fun (y62 : Int32) (g63 : AH) => some (y62, g63)) lf 0 (nI h) (MK B n I L Q R) = some (nI (lvM N tA t (d + 1)).length, MK B n I1 L Q R) := r1
      obtain ⟨I2, s1, s2, s3⟩ := ih n1 (d + 1) (256 - h) I1 (by omega) (by omega) (by omega) r2 r3
      refine ⟨I2, ?_, s2, r4.tr s3⟩
      rw [show (256 : Int32) = nI 256 from rfl, pk_sub (by omega), bnd_eq, r1, ob2_some, bnd_eq, bnd_eq, nI_1]
      exact s1
theorem m_layWays {B n : Nat} {I : Nat → Nat → Int32} {L : Nat → Nat → Int64} {Q : Nat → Nat → Option Nat} {R : Nat → RDt} {N : NET} {c t : Nat} (hO : NetOK N) (hM : MNet L 109 N) (hc : c < 3) (ht : t = nC N c 0) :
    ∃ I' : Nat → Nat → Int32, fX10_layWays (B + 108) (nI c) (MK B n I L Q R) = some (MK B n I' L Q R) ∧ WaysM I' c (((rowsOf N tA).map sh).filter (isTo t)) ∧ LayF c I I' := by
  have h0 : t ≠ 0 := by have := (hO.2.2.2.2 c hc).1; omega
  obtain ⟨I', r1, r2, r3⟩ := m_layWays_L28 (B := B) (n := n) (Q := Q) (R := R) hO hM hc ht h0 (fun (g20 : AH) => some g20) 5 lf 0 0 (u2 (u2 (u2 I 114 c 0) 118 0 1) 119 0 0) (by omega) (by decide) (Or.inl rfl) (fun a s hs => by
    cases a with
    | zero =>
      have e : row0 = s := Option.some.inj hs
      subst e
      refine ⟨by rw [u2_nk (by decide)]; exact u2_eq, u2_eq, fun j hj => by omega⟩
    | succ a => cases hs) ⟨by rw [u2_nk (by decide), u2_nk (by decide)]; exact u2_eq, fun a s hs => by cases hs⟩
  rw [lvW_rows hO h0] at r2
  refine ⟨I', ?_, r2, LayF.tr ⟨fun a ha => by rw [u2_nk (by omega), u2_nk (by omega), u2_nk (by omega)], fun b hb b3 => ⟨by rw [u2_nk (by decide), u2_nk (by decide), u2_ne (Or.inr hb)], fun k hk => ⟨by rw [u2_nk (by decide), u2_nk (by decide), u2_nk (by decide)], fun j hj => by rw [u2_nk (by decide), u2_nk (by decide), u2_nk (by decide)]⟩⟩⟩ r3⟩
  unfold fX10_layWays
  rw [g_MwayMany, ob1_some, s_MwayMany hc, ob1_some, g_MonTowns, ob1_some, show (0 : Int32) = nI 0 from rfl, s_MonTowns (by decide), ob1_some, g_MonAt, ob1_some, s_MonAt (by decide), ob1_some]
  exact r1
/-- the ways of a class, told by rows -/
def WaysR (I : Nat → Nat → Int32) (c t : Nat) (rows : List ROW) : Prop := I 114 c = nI (cntTo rows t rows.length) ∧ ∀ j, 1 ≤ j → j < rows.length → wEnd (rowAt rows j) = t → I 115 (256 * c + cntTo rows t j) = nI (wLen (rowAt rows j)) ∧ ∀ i, i < wLen (rowAt rows j) → I 116 (5 * (256 * c + cntTo rows t j) + i) = nI ((wPath (rowAt rows j)).getD i 0)
theorem WaysM.rows {I : Nat → Nat → Int32} {c t : Nat} {rows : List ROW} (h0 : t ≠ 0) (hz : rowAt rows 0 = row0) (h : WaysM I c ((rows.map sh).filter (isTo t))) : WaysR I c t rows := by
  have ef : (rows.map sh).filter (isTo t) = (rows.filter (isTo t)).map sh := by
    rw [List.filter_map]
    rfl
  rw [ef] at h
  obtain ⟨h1, h2⟩ := h
  have hc := cnt_filter (t := t) h0 hz rows.length (Nat.le_refl _)
  rw [List.take_length] at hc
  refine ⟨by rw [h1, List.length_map, hc], fun j j1 j2 j3 => ?_⟩
  have ha := filter_at (t := t) rows j j2 (decide_eq_true j3)
  rw [cnt_filter h0 hz j (by omega)] at ha
  have hb := h2 (cntTo rows t j) (sh (rowAt rows j)) (by rw [List.getElem?_map, ha]; rfl)
  exact ⟨hb.1, hb.2.2⟩
