/-! what the model's thinking may change -/
theorem IsM.scr {I I' : Nat → Nat → Int32} {L L' : Nat → Nat → Int64} {s : STT} (h : IsM I L s) (hI : ∀ a, a ≠ 108 → a < 114 ∨ 125 < a → I' a = I a) (h3 : I' 108 3 = I 108 3) (h5 : I' 108 5 = I 108 5) (hL : ∀ a, a ≠ 108 → a < 114 ∨ 125 < a → L' a = L a) : IsM I' L' s := by
  obtain ⟨h1, h2, h3', h4, h5'⟩ := h
  have net : ∀ x N, x ≠ 108 → x < 114 ∨ 125 < x → MNet L x N → MNet L' x N := fun x N hx hx2 g => by unfold MNet at *; rw [hL x hx hx2]; exact g
  refine ⟨net _ _ (by decide) (by decide) h1, ⟨by rw [h3]; exact h2.1, fun M hM => net _ _ (by decide) (by decide) (h2.2 M hM)⟩, ?_, fun l hl => ?_, fun t ht => ?_⟩
  · unfold MTape at *; rw [h5, hI 112 (by decide) (by decide)]; exact h3'
  · have := h4 l hl
    unfold MList at *
    rw [hI 126 (by decide) (by decide), hL 127 (by decide) (by decide)]
    exact this
  · have := h5' t ht
    unfold MTray MPlace at *
    rw [hI 128 (by decide) (by decide), hI 129 (by decide) (by decide), hI 130 (by decide) (by decide), hL 131 (by decide) (by decide)]
    exact this
/-- a frame of all the model's thinking: cells 114 to 125, and what 108 has of sums and steps -/
def FM (I I' : Nat → Nat → Int32) (L L' : Nat → Nat → Int64) : Prop := (∀ a, a ≠ 108 → a < 114 ∨ 125 < a → I' a = I a ∧ L' a = L a) ∧ ∀ j, j < 18 → I' 108 j = I 108 j
theorem FM.rf {I : Nat → Nat → Int32} {L : Nat → Nat → Int64} : FM I I L L := ⟨fun _ _ _ => ⟨rfl, rfl⟩, fun _ _ => rfl⟩
theorem FM.tr {I I1 I2 : Nat → Nat → Int32} {L La Lb : Nat → Nat → Int64} (h : FM I I1 L La) (g : FM I1 I2 La Lb) : FM I I2 L Lb := ⟨fun a h1 h2 => ⟨by rw [(g.1 a h1 h2).1, (h.1 a h1 h2).1], by rw [(g.1 a h1 h2).2, (h.1 a h1 h2).2]⟩, fun j hj => by rw [g.2 j hj, h.2 j hj]⟩
theorem FM.is {I I' : Nat → Nat → Int32} {L L' : Nat → Nat → Int64} {s : STT} (f : FM I I' L L') (h : IsM I L s) : IsM I' L' s := h.scr (fun a h1 h2 => (f.1 a h1 h2).1) (f.2 3 (by decide)) (f.2 5 (by decide)) (fun a h1 h2 => (f.1 a h1 h2).2)
theorem F4.fm {I I' : Nat → Nat → Int32} {L : Nat → Nat → Int64} (h : F4 I I') : FM I I' L L := ⟨fun a h1 h2 => ⟨h.1 a h1 (by omega), rfl⟩, fun j hj => h.2 j (by omega)⟩
theorem LayF.fm {c : Nat} {I I' : Nat → Nat → Int32} {L : Nat → Nat → Int64} (h : LayF c I I') : FM I I' L L := F4.fm h.f4
theorem RunM.fm {α : Type} {B n : Nat} {I : Nat → Nat → Int32} {L : Nat → Nat → Int64} {Q : Nat → Nat → Option Nat} {R : Nat → RDt} {I' : Nat → Nat → Int32} {L' : Nat → Nat → Int64} {s : STT} {v : α} {o : Option (α × AH)} (h : IsM I L s) (f : FM I I' L L') (e : o = some (v, MK B n I' L' Q R)) : RunM B n I L Q R o (v, s) := ⟨I', L', e, f.is h, fun a ha => ⟨(f.1 a (by omega) (by omega)).1, (f.1 a (by omega) (by omega)).2⟩⟩
/-! sums of the model -/
def SumM (I : Nat → Nat → Int32) (L : Nat → Nat → Int64) (v : Nat × Bool) : Prop := I 108 19 = bz v.2 ∧ L 108 20 = lN v.1 ∧ v.1 ≤ mxL
def FS (I I' : Nat → Nat → Int32) (L L' : Nat → Nat → Int64) : Prop := (∀ a, a ≠ 108 → I' a = I a ∧ L' a = L a) ∧ ∀ j, j ≠ 19 → I' 108 j = I 108 j
theorem FS.rf {I : Nat → Nat → Int32} {L : Nat → Nat → Int64} : FS I I L L := ⟨fun _ _ => ⟨rfl, rfl⟩, fun _ _ => rfl⟩
theorem FS.tr {I I1 I2 : Nat → Nat → Int32} {L La Lb : Nat → Nat → Int64} (h : FS I I1 L La) (g : FS I1 I2 La Lb) : FS I I2 L Lb := ⟨fun a h1 => ⟨by rw [(g.1 a h1).1, (h.1 a h1).1], by rw [(g.1 a h1).2, (h.1 a h1).2]⟩, fun j hj => by rw [g.2 j hj, h.2 j hj]⟩
theorem FS.fm {I I' : Nat → Nat → Int32} {L L' : Nat → Nat → Int64} (h : FS I I' L L') : FM I I' L L' := ⟨fun a h1 _ => h.1 a h1, fun j hj => h.2 j (by omega)⟩
theorem EnvM.fs {I I' : Nat → Nat → Int32} {L L' : Nat → Nat → Int64} {N : NET} {rows : List ROW} (h : EnvM I L N rows) (f : FS I I' L L') : EnvM I' L' N rows := by
  obtain ⟨e1, e2, e3, e4, e5, e6⟩ := h
  refine ⟨?_, e2, e3, e4, e5, fun c hc => ?_⟩
  · unfold MNet at *
    rw [(f.1 109 (by decide)).2]
    exact e1
  · have := e6 c hc
    unfold WaysR at *
    rw [(f.1 114 (by decide)).1, (f.1 115 (by decide)).1, (f.1 116 (by decide)).1]
    exact this
theorem RidM.fs {I I' : Nat → Nat → Int32} {L L' : Nat → Nat → Int64} {N : NET} {rows : List ROW} {s : SST} (h : RidM I N rows s) (f : FS I I' L L') : RidM I' N rows s := by
  unfold RidM at *
  rw [(f.1 120 (by decide)).1, (f.1 121 (by decide)).1]
  exact h
theorem m_begins {B n : Nat} {I : Nat → Nat → Int32} {L : Nat → Nat → Int64} {Q : Nat → Nat → Option Nat} {R : Nat → RDt} : fX10_begins (B + 108) (MK B n I L Q R) = some (MK B n (u2 I 108 19 0) (u2 L 108 20 0) Q R) ∧ SumM (u2 I 108 19 0) (u2 L 108 20 0) (0, false) ∧ FS I (u2 I 108 19 0) L (u2 L 108 20 0) := by
  refine ⟨?_, ⟨u2_eq, u2_eq, Nat.zero_le _⟩, fun a ha => ⟨u2_nk ha, u2_nk ha⟩, fun j hj => u2_ne (by omega)⟩
  unfold fX10_begins
  rw [p_MisOver, ob1_some, p_Msum0, ob1_some]
theorem m_adds {B n : Nat} {I : Nat → Nat → Int32} {L : Nat → Nat → Int64} {Q : Nat → Nat → Option Nat} {R : Nat → RDt} {v : Nat × Bool} {x : Nat} (h : SumM I L v) (hx : x ≤ mxL) (hf : v.2 = false) : ∃ (I' : Nat → Nat → Int32) (L' : Nat → Nat → Int64), fX10_adds (B + 108) (lN x) (MK B n I L Q R) = some (MK B n I' L' Q R) ∧ SumM I' L' (sAdd v x 1) ∧ FS I I' L L' := by
  obtain ⟨w, o⟩ := v
  have hf : o = false := hf
  subst hf
  obtain ⟨h1, h2, h3⟩ := h
  have h3 : w ≤ mxL := h3
  have h1 : I 108 19 = 0 := h1
  have h2 : L 108 20 = lN w := h2
  have hm := mx63
  unfold fX10_adds
  rw [g_MisOver, ob1_some, bnd_eq, h1, if_pos rfl, g_Msum0, ob1_some, h2, hd_mx h3]
  by_cases c : x ≤ mxL - w
  · have e : sAdd (w, false) x 1 = (w + x, false) := by rw [sAdd_in (by omega), Nat.mul_one]
    rw [e, if_pos (by rw [lN_leE (by rw [mxL_eq] at *; omega) (by rw [mxL_eq] at *; omega)]; exact c), p_MisOver, ob1_some, g_Msum0, ob1_some, g_MisOver, ob1_some, u2_eq, if_pos rfl, h2, lN_add, p_Msum0, ob1_some]
    exact ⟨_, _, rfl, ⟨u2_eq, u2_eq, by show w + x ≤ mxL; omega⟩, fun a ha => ⟨u2_nk ha, u2_nk ha⟩, fun j hj => u2_ne (by omega)⟩
  · have e : sAdd (w, false) x 1 = (w, true) := sAdd_out (by omega)
    rw [e, if_neg (by rw [lN_leE (by rw [mxL_eq] at *; omega) (by rw [mxL_eq] at *; omega)]; exact c)]
    dsimp only
    rw [p_MisOver, ob1_some, g_Msum0, ob1_some, g_MisOver, ob1_some, u2_eq, if_neg (by decide), h2, Int64.add_zero, p_Msum0, ob1_some]
    exact ⟨_, _, rfl, ⟨u2_eq, u2_eq, h3⟩, fun a ha => ⟨u2_nk ha, u2_nk ha⟩, fun j hj => u2_ne (by omega)⟩
theorem sAdd_mul {v : Nat × Bool} {t e : Nat} : sAdd v (t * e) 1 = sAdd v t e := by
  unfold sAdd
  rw [Nat.mul_one]
theorem m_addsProduct {B n : Nat} {I : Nat → Nat → Int32} {L : Nat → Nat → Int64} {Q : Nat → Nat → Option Nat} {R : Nat → RDt} {v : Nat × Bool} {t e : Nat} (h : SumM I L v) (ht : t ≤ mxL) (he : e ≤ mxL) : ∃ (I' : Nat → Nat → Int32) (L' : Nat → Nat → Int64), fX10_addsProduct (B + 108) (lN t) (lN e) (MK B n I L Q R) = some (MK B n I' L' Q R) ∧ SumM I' L' (sAdd v t e) ∧ FS I I' L L' := by
  obtain ⟨w, o⟩ := v
  obtain ⟨h1, h2, h3⟩ := id h
  have h3 : w ≤ mxL := h3
  have h2 : L 108 20 = lN w := h2
  have hm := mx63
  have hfs : FS I (u2 I 108 19 1) L L := ⟨fun a ha => ⟨u2_nk ha, rfl⟩, fun j hj => u2_ne (by omega)⟩
  unfold fX10_addsProduct
  cases o with
  | true =>
    have h1 : I 108 19 = 1 := h1
    rw [g_MisOver, ob1_some, bnd_eq, h1, if_neg (by decide)]
    dsimp only
    rw [p_MisOver, ob1_some, g_MisOver, ob1_some, u2_eq, if_neg (by decide)]
    exact ⟨_, _, rfl, ⟨u2_eq, h2, h3⟩, hfs⟩
  | false =>
    have h1 : I 108 19 = 0 := h1
    have hfit : t * e ≤ mxL → ∃ (I' : Nat → Nat → Int32) (L' : Nat → Nat → Int64), (ob1 (pV (MK B n I L Q R) (B + 108) 10 19 (.int (0 : Int32))) fun g13 =>
      ob1 (gI g13 (B + 108) 10 19) fun v15 =>
      if v15 = (0 : Int32) then
        ob1 (fX10_adds (B + 108) (lN t * lN e) g13) fun g17 =>
        some g17
      else
        some g13) = some (MK B n I' L' Q R) ∧ SumM I' L' (sAdd (w, false) t e) ∧ FS I I' L L' := fun hte => by
      have hs : SumM (u2 I 108 19 0) L (w, false) := ⟨u2_eq, h2, h3⟩
      obtain ⟨I1, L1, r1, r2, r3⟩ := m_adds (B := B) (n := n) (Q := Q) (R := R) hs hte rfl
      rw [sAdd_mul] at r2
      rw [p_MisOver, ob1_some, g_MisOver, ob1_some, u2_eq, if_pos rfl, lN_mul, r1, ob1_some]
      exact ⟨I1, L1, rfl, r2, FS.tr ⟨fun a ha => ⟨u2_nk ha, rfl⟩, fun j hj => u2_ne (by omega)⟩ r3⟩
    rw [g_MisOver, ob1_some, bnd_eq, h1, if_pos rfl, bnd_eq]
    by_cases c0 : t = 0
    · rw [if_pos (by rw [c0]; rfl)]
      exact hfit (by rw [c0, Nat.zero_mul]; exact Nat.zero_le _)
    · have hz : (decide (¬ lN t = 0)) = true := decide_eq_true (by rw [L0, pk_lEQ (by omega) (by omega)]; exact c0)
      rw [if_neg (of_decide_eq_true hz), hz, gd_true, lit_mx, pk_lDiv (by rw [mxL_eq] at *; omega) (by omega) (by omega)]
      have hdl : mxL / t ≤ mxL := Nat.div_le_self _ _
      by_cases c1 : e ≤ mxL / t
      · rw [if_pos (by rw [lN_leE (by rw [mxL_eq] at *; omega) (by rw [mxL_eq] at *; omega)]; exact c1)]
        exact hfit (by
          have := (Nat.le_div_iff_mul_le (show 0 < t by omega)).mp c1
          rw [Nat.mul_comm]; exact this)
      · have hbig : ¬ w + t * e ≤ mxL := fun g => c1 ((Nat.le_div_iff_mul_le (show 0 < t by omega)).mpr (by rw [Nat.mul_comm]; omega))
        rw [if_neg (by rw [lN_leE (by rw [mxL_eq] at *; omega) (by rw [mxL_eq] at *; omega)]; exact c1)]
        dsimp only
        rw [p_MisOver, ob1_some, g_MisOver, ob1_some, u2_eq, if_neg (by decide), sAdd_out hbig]
        exact ⟨_, _, rfl, ⟨u2_eq, h2, h3⟩, hfs⟩
theorem sAdd_le {v : Nat × Bool} {t e : Nat} (h : v.1 ≤ mxL) : (sAdd v t e).1 ≤ mxL := by
  obtain ⟨w, o⟩ := v
  cases o with
  | true => exact h
  | false =>
    by_cases c : w + t * e ≤ mxL
    · rw [sAdd_in c]; exact c
    · rw [sAdd_out c]; exact h
theorem totN_leM (N : NET) (ld : Nat → Nat) : ∀ k, (totN N ld k).1 ≤ mxL
  | 0 => Nat.zero_le _
  | k + 1 => sAdd_le (totN_leM N ld k)
theorem m_totalOf_L6 {B n : Nat} {Q : Nat → Nat → Option Nat} {R : Nat → RDt} {N : NET} {ld : Nat → Nat} (hO : NetOK N) (hb : ∀ q, q < nM N → ld q ≤ 36) (k : AH → Option (Int64 × AH)) : ∀ (m n' i : Nat) (I : Nat → Nat → Int32) (L : Nat → Nat → Int64), i + m = nM N → m < n' → MNet L 109 N → (∀ q, q < nM N → I 120 q = nI (ld q)) → SumM I L (totN N ld i) → ∃ (I' : Nat → Nat → Int32) (L' : Nat → Nat → Int64), fX10_totalOf_L6 (B + 108) k n' (nI i) (MK B n I L Q R) = k (MK B n I' L' Q R) ∧ SumM I' L' (totN N ld (nM N)) ∧ FS I I' L L' := by
  have h13 := hO.2.2.1
  intro m
  induction m with
  | zero =>
    intro n' i I L hl hn hM hq hS
    obtain ⟨n1, rfl⟩ := suc_of hn
    rw [show i = nM N by omega] at hS ⊢
    refine ⟨I, L, ?_, hS, FS.rf⟩
    rw [fX10_totalOf_L6, m_roadMany hM h13, ob1_some, if_pos (by rw [nI_leI (by omega) (by omega)]; omega)]
  | succ m ih =>
    intro n' i I L hl hn hM hq hS
    obtain ⟨n1, rfl⟩ := suc_of hn
    have hi13 : i < 13 := by omega
    have hbi := hb i (by omega)
    have e : totN N ld (i + 1) = sAdd (totN N ld i) (ld i) (rCost (nRd N i) (ld i)) := rfl
    have hmx := mx63
    have hrc := rCost_le (r := i) (x := ld i) hO (by omega) (by omega)
    rw [fX10_totalOf_L6, m_roadMany hM h13, ob1_some, if_neg (by rw [nI_leI (by omega) (by omega)]; omega), g_Mloads, ob1_some, a_Mloads hi13, ob1_some, hq i (by omega)]
    by_cases c : ld i = 0
    · have e2 : totN N ld (i + 1) = totN N ld i := by
        rw [e, c]
        exact sAdd_0 (Nat.zero_mul _) (totN_leM N ld i)
      rw [if_pos (by rw [l0, nI_leI (by omega) (by omega)]; omega), bnd_eq, nI_1]
      exact ih n1 (i + 1) I L (by omega) (by omega) hM hq (by rw [e2]; exact hS)
    · obtain ⟨I1, L1, r1, r2, r3⟩ := m_addsProduct (B := B) (n := n) (Q := Q) (R := R) (t := ld i) (e := rCost (nRd N i) (ld i)) hS (by rw [mxL_eq]; omega) (by rw [mxL_eq]; omega)
      obtain ⟨I2, L2, s1, s2, s3⟩ := ih n1 (i + 1) I1 L1 (by omega) (by omega) (by unfold MNet at *; rw [(r3.1 109 (by decide)).2]; exact hM) (fun q hq13 => by rw [(r3.1 120 (by decide)).1]; exact hq q hq13) (by rw [e]; exact r2)
      refine ⟨I2, L2, ?_, s2, r3.tr s3⟩
      rw [if_neg (by rw [l0, nI_leI (by omega) (by omega)]; omega), ob1_some, a_Mloads hi13, ob1_some, ob1_some, a_Mloads hi13, ob1_some, hq i (by omega), m_costBy hM hO (by omega) (by omega), ob1_some, nI_l (by omega), r1, ob1_some, bnd_eq, nI_1]
      exact s1
def totV (v : Nat × Bool) : Int64 := if v.2 = true then -6 else lN v.1
theorem m_totalOf {B n : Nat} {I : Nat → Nat → Int32} {L : Nat → Nat → Int64} {Q : Nat → Nat → Option Nat} {R : Nat → RDt} {N : NET} {ld : Nat → Nat} (hO : NetOK N) (hM : MNet L 109 N) (hb : ∀ q, q < nM N → ld q ≤ 36) (hq : ∀ q, q < nM N → I 120 q = nI (ld q)) : ∃ (I' : Nat → Nat → Int32) (L' : Nat → Nat → Int64), fX10_totalOf (B + 108) (MK B n I L Q R) = some (totV (totN N ld (nM N)), MK B n I' L' Q R) ∧ FS I I' L L' := by
  obtain ⟨b1, b2, b3⟩ := m_begins (B := B) (n := n) (I := I) (L := L) (Q := Q) (R := R)
  have h13 := hO.2.2.1
  obtain ⟨I1, L1, r1, r2, r3⟩ := m_totalOf_L6 (B := B) (n := n) (Q := Q) (R := R) hO hb (fun (g25 : AH) =>
    ob1 (gI g25 (B + 108) 10 19) fun v26 =>
    if v26 = (0 : Int32) then
      ob1 (gL g25 (B + 108) 10 20) fun v28 =>
      some (v28, g25)
    else
      some ((-6 : Int64), g25)) (nM N) lf 0 (u2 I 108 19 0) (u2 L 108 20 0) (by omega) (by show _ < 1000; omega) (by unfold MNet at *; rw [(b3.1 109 (by decide)).2]; exact hM) (fun q hq13 => by rw [(b3.1 120 (by decide)).1]; exact hq q hq13) b2
  refine ⟨I1, L1, ?_, b3.tr r3⟩
  unfold fX10_totalOf
  rw [b1, ob1_some]
  refine r1.trans ?_
  obtain ⟨s1, s2, s3⟩ := r2
  rw [g_MisOver, ob1_some, s1]
  unfold totV
  cases (totN N ld (nM N)).2 with
  | true => rw [if_neg (by decide), if_pos rfl]
  | false => rw [if_pos (by decide), g_Msum0, ob1_some, s2, if_neg (by decide)]
def totB (N : NET) (mode : Nat) (rows : List ROW) : Int64 := if canAll N rows = true then totV (totN N (stF N mode rows).1.1 (nM N)) else -3
theorem m_totalBy {B n : Nat} {I : Nat → Nat → Int32} {L : Nat → Nat → Int64} {Q : Nat → Nat → Option Nat} {R : Nat → RDt} {N : NET} {mode : Nat} (hO : NetOK N) (hM : MNet L 109 N) (hm : mode < 3) : ∃ (I' : Nat → Nat → Int32) (L' : Nat → Nat → Int64), fX10_totalBy (B + 108) (nI mode) (MK B n I L Q R) = some (totB N mode (rowsN N), MK B n I' L' Q R) ∧ FM I I' L L' := by
  obtain ⟨I1, r1, r2, r3, r4⟩ := m_steady (B := B) (n := n) (I := I) (L := L) (Q := Q) (R := R) hO hM hm
  unfold fX10_totalBy totB
  rw [r1, ob2_some]
  cases hw : canAll N (rowsN N) with
  | false => exact ⟨I1, L, rfl, F4.fm r2⟩
  | true =>
    obtain ⟨w1, w2, w3, w4⟩ := r4 hw
    have hd := nD_le hO 3 (by omega)
    obtain ⟨I2, L2, s1, s2⟩ := m_totalOf (B := B) (n := n) (Q := Q) (R := R) hO hM (ld := (stF N mode (rowsN N)).1.1) (fun q _ => by have := w3.le q; omega) (fun q hq => w1.1 q (by have := hO.2.2.1; omega))
    rw [if_neg (show ¬ bz true = 0 by decide), s1, ob2_some, if_pos rfl]
    exact ⟨I2, L2, rfl, (F4.fm r2).tr s2.fm⟩
