/-! the model's state -/
def fld (d : RD) (tl j : Nat) : Nat := if j = 0 then dFrom d else if j = 1 then dTo d else if j = 2 then dKind d else if j = 3 then dBase d else if j = 4 then dSlope d else if j = 5 then dSteep d else if j = 6 then dKnee d else tl
def MNet (L : Nat → Nat → Int64) (x : Nat) (N : NET) : Prop := L x 0 = lN (nT N) ∧ L x 1 = lN (nM N) ∧ (∀ r j, r < nM N → j < 8 → L x (2 + 8 * r + j) = lN (fld (nRd N r) (nTl N r) j)) ∧ ∀ c j, c < 3 → j < 4 → L x (106 + 4 * c + j) = lN (nC N c j)
def MTape (I : Nat → Nat → Int32) (t : TAPE) : Prop := I 108 5 = nI t.1 ∧ ∀ j, j < t.1 → I 112 j = nI (t.2 j)
def MList (I : Nat → Nat → Int32) (L : Nat → Nat → Int64) (l : Nat) (v : LST) : Prop := match v with
  | none => I 126 l = -1
  | some q => I 126 l = nI q.1 ∧ ∀ j, j < 24 → L 127 (24 * l + j) = q.2 j
def MPlace (I : Nat → Nat → Int32) (L : Nat → Nat → Int64) (i : Nat) (d : Option RD) : Prop := match d with
  | none => I 130 i = 0
  | some d => I 130 i = 1 ∧ L 131 (5 * i) = lN (dKind d) ∧ L 131 (5 * i + 1) = lN (dBase d) ∧ L 131 (5 * i + 2) = lN (dSlope d) ∧ L 131 (5 * i + 3) = lN (dSteep d) ∧ L 131 (5 * i + 4) = lN (dKnee d)
def MTray (I : Nat → Nat → Int32) (L : Nat → Nat → Int64) (t : Nat) (v : TRAY) : Prop := match v with
  | none => I 128 t = -1
  | some q => I 128 t = nI q.1 ∧ I 129 t = nI q.2.1 ∧ ∀ j, j < 20 → MPlace I L (20 * t + j) (q.2.2 j)
def IsM (I : Nat → Nat → Int32) (L : Nat → Nat → Int64) (s : STT) : Prop := MNet L 109 (stN s) ∧ (I 108 3 = bz (stK s).isSome ∧ ∀ M, stK s = some M → MNet L 110 M) ∧ MTape I (stT s) ∧ (∀ l, l < 4 → MList I L l (stL s l)) ∧ ∀ t, t < 3 → MTray I L t (stY s t)
/-- bounds of what was told -/
def OkS (s : STT) : Prop := NetOK (stN s) ∧ nM (stN s) ≤ 12 ∧ (∀ M, stK s = some M → NetOK M ∧ nM M ≤ 12) ∧ ((stT s).1 ≤ 100 ∧ ∀ j, j < (stT s).1 → 1 ≤ (stT s).2 j ∧ (stT s).2 j ≤ 127) ∧ (∀ l v, l < 4 → stL s l = some v → v.1 ≤ 24) ∧ ∀ t v, t < 3 → stY s t = some v → v.1 ≤ 2 ∧ v.2.1 ≤ 20 ∧ ∀ j d, j < 20 → v.2.2 j = some d → RDok d
theorem IsC.okS {B n : Nat} {I : Nat → Nat → Int32} {L : Nat → Nat → Int64} {Q : Nat → Nat → Option Nat} {R : Nat → RDt} {s : STT} (h : IsC B n I L Q R s) : OkS s := by
  obtain ⟨fp, fs, fc, hC, hK, hF⟩ := h
  obtain ⟨h0, h1, h2, h3, h4, h5, h6, h7⟩ := hC
  refine ⟨h2, h3, fun M hM => (h4.2 M hM).2, ⟨h5.2.1, fun j hj => (h5.2.2 j hj).2⟩, fun l v hl hv => ?_, fun t v ht hv => ?_⟩
  · have := h7 l hl
    rw [hv] at this
    exact this.2.1
  · have := h6 t ht
    rw [hv] at this
    obtain ⟨a1, a2, a3, a4, a5⟩ := this
    refine ⟨a4, a2, fun j d hj hd => ?_⟩
    have p := a5 j hj
    unfold PlIs at p
    rw [hd] at p
    exact p.2
def RunM {α : Type} (B n : Nat) (I : Nat → Nat → Int32) (L : Nat → Nat → Int64) (Q : Nat → Nat → Option Nat) (R : Nat → RDt) (o : Option (α × AH)) (p : α × STT) : Prop := ∃ I' L', o = some (p.1, MK B n I' L' Q R) ∧ IsM I' L' p.2 ∧ ∀ a, a < 108 → I' a = I a ∧ L' a = L a
theorem RunM.same {α : Type} {B n : Nat} {I : Nat → Nat → Int32} {L : Nat → Nat → Int64} {Q : Nat → Nat → Option Nat} {R : Nat → RDt} {s : STT} {v : α} {o : Option (α × AH)} (h : IsM I L s) (e : o = some (v, (MK B n I L Q R))) : RunM B n I L Q R o (v, s) := ⟨I, L, e, h, fun _ _ => ⟨rfl, rfl⟩⟩
/-- the class's cells may be changed under the model, and the other way round -/
theorem IsM.same {I I' : Nat → Nat → Int32} {L L' : Nat → Nat → Int64} {s : STT} (h : IsM I L s) (hF : ∀ a, 108 ≤ a → I' a = I a ∧ L' a = L a) : IsM I' L' s := by
  obtain ⟨h1, h2, h3, h4, h5⟩ := h
  have hI : ∀ a, 108 ≤ a → I' a = I a := fun a ha => (hF a ha).1
  have hL : ∀ a, 108 ≤ a → L' a = L a := fun a ha => (hF a ha).2
  have net : ∀ x N, 108 ≤ x → MNet L x N → MNet L' x N := fun x N hx g => by unfold MNet at *; rw [hL x hx]; exact g
  refine ⟨net _ _ (by decide) h1, ⟨by rw [hI 108 (by decide)]; exact h2.1, fun M hM => net _ _ (by decide) (h2.2 M hM)⟩, ?_, fun l hl => ?_, fun t ht => ?_⟩
  · unfold MTape at *; rw [hI 108 (by decide), hI 112 (by decide)]; exact h3
  · have := h4 l hl
    unfold MList at *
    rw [hI 126 (by decide), hL 127 (by decide)]
    exact this
  · have := h5 t ht
    unfold MTray MPlace at *
    rw [hI 128 (by decide), hI 129 (by decide), hI 130 (by decide), hL 131 (by decide)]
    exact this
theorem IsC.same2 {B n : Nat} {I : Nat → Nat → Int32} {L : Nat → Nat → Int64} {Q : Nat → Nat → Option Nat} {R : Nat → RDt} {I' : Nat → Nat → Int32} {L' : Nat → Nat → Int64} {s : STT} (h : IsC B n I L Q R s) (hF : ∀ a, a < 108 → I' a = I a ∧ L' a = L a) : IsC B n I' L' Q R s := by
  obtain ⟨fp, fs, fc, hC, hK, hF2⟩ := h
  have hI : ∀ a, a < 108 → I' a = I a := fun a ha => (hF a ha).1
  have hL : ∀ a, a < 108 → L' a = L a := fun a ha => (hF a ha).2
  exact ⟨fp, fs, fc, hC.same (by rw [hI 0 (by decide)]) (fun a ha => hI a (by omega)) (fun a ha => hL a (by omega)), hK.same (by rw [hI 0 (by decide)]) (by rw [hI 0 (by decide)]) (fun a ha => hI a (by omega)) (fun a ha => hL a (by omega)), hF2.same (fun a b1 b2 => hI a (by omega)) (fun x hx => hL _ (by unfold isS at hx; omega))⟩
/-! ranges, as the model asks -/
theorem in_lx (x : Int64) (m : Nat) : fX10_in x 0 (lN m) = some (bz (lx x m).isSome) := e_isWithin_lx x m
theorem in_ix (x : Int32) {m : Nat} (hm : m < 2147483648) {v : Int64} (hv : v.toInt = (m : Int) - 1) : fX10_in (Int32.toInt64 x) 0 v = some (bz (ix x m).isSome) := by
  unfold fX10_in
  have e0 : (Int32.toInt64 x).toInt = x.toInt := Int32.toInt_toInt64 x
  have z0 : (0 : Int64).toInt = 0 := rfl
  have z2 : (0 : Int32).toInt = 0 := rfl
  rcases ix_cases x hm with ⟨j, h1, rfl, h3⟩ | ⟨h1, h2⟩
  · have hj := nI_toInt (n := j) (by omega)
    rw [h3, if_neg (by rw [Int64.lt_iff_toInt_lt, e0, hj]; omega), if_neg (by rw [Int64.lt_iff_toInt_lt, e0, hj]; omega)]
    rfl
  · rw [h1]
    by_cases c : Int32.toInt64 x < 0
    · rw [if_pos c]; rfl
    · rw [if_neg c]
      have c2 : ¬ x < 0 := fun q => c (by
        have e1 := Int32.lt_iff_toInt_lt.mp q
        rw [Int64.lt_iff_toInt_lt, e0]
        omega)
      obtain ⟨u, hu, rfl⟩ := nI_of c2
      have hu2 := nI_toInt (n := u) (by omega)
      have : ¬ u < m := fun q => h2 u q rfl
      rw [if_pos (by rw [Int64.lt_iff_toInt_lt, e0, hu2]; omega)]
      rfl
theorem in3 (x : Int32) : fX10_in (Int32.toInt64 x) 0 2 = some (bz (ix x 3).isSome) := in_ix x (by decide) rfl
theorem in2 (x : Int32) : fX10_in (Int32.toInt64 x) 0 1 = some (bz (ix x 2).isSome) := in_ix x (by decide) rfl
theorem in4 (x : Int32) : fX10_in (Int32.toInt64 x) 0 3 = some (bz (ix x 4).isSome) := in_ix x (by decide) rfl
theorem m_isMode (x : Int32) : fX10_isMode x = some (bz (ix x 3).isSome) := by
  unfold fX10_isMode
  rw [in3, ob1_some, bz_zb, gd_true]
theorem m_isClass (x : Int32) : fX10_isClass x = some (bz (ix x 3).isSome) := by
  unfold fX10_isClass
  rw [in3, ob1_some, bz_zb, gd_true]
theorem m_isList (x : Int32) : fX10_isList x = some (bz (ix x 4).isSome) := by
  unfold fX10_isList
  rw [in4, ob1_some, bz_zb, gd_true]
theorem l_toI {a : Nat} (h : a < 2147483648) : Int64.toInt32 (lN a) = nI a := by
  apply Int32.toInt_inj.mp
  rw [Int64.toInt_toInt32, pk_lT (by omega), nI_toInt (by omega)]
  exact Int.bmod_eq_of_le (by omega) (by omega)
theorem m_roadMany {B n : Nat} {I : Nat → Nat → Int32} {L : Nat → Nat → Int64} {Q : Nat → Nat → Option Nat} {R : Nat → RDt} {N : NET} (h : MNet L 109 N) (hm : nM N ≤ 13) : fX10_roadMany (B + 108) (MK B n I L Q R) = some (nI (nM N)) := by
  unfold fX10_roadMany
  rw [g_Mnow, ob1_some, show (1 : Int32) = nI 1 from rfl, a_Mnow (by decide), ob1_some, h.2.1, l_toI (by omega)]
theorem m_isRoad {B n : Nat} {I : Nat → Nat → Int32} {L : Nat → Nat → Int64} {Q : Nat → Nat → Option Nat} {R : Nat → RDt} {N : NET} {x : Int32} (h : MNet L 109 N) (hm : nM N ≤ 13) : fX10_isRoad (B + 108) x (MK B n I L Q R) = some (bz (ix x (nM N)).isSome) := by
  unfold fX10_isRoad
  rw [m_roadMany h hm, ob1_some, in_ix x (m := nM N) (by omega) (by
    have e : (nI (nM N) - 1).toInt = (nM N : Int) - 1 := by
      rw [Int32.toInt_sub, nI_toInt (by omega), show (1 : Int32).toInt = 1 from rfl]
      exact Int.bmod_eq_of_le (by omega) (by omega)
    rw [Int32.toInt_toInt64, e]), ob1_some, bz_zb, gd_true]
theorem m_ofRoad {B n : Nat} {I : Nat → Nat → Int32} {L : Nat → Nat → Int64} {Q : Nat → Nat → Option Nat} {R : Nat → RDt} {N : NET} {r j : Nat} (h : MNet L 109 N) (hm : nM N ≤ 13) (hr : r < nM N) (hj : j < 8) : fX10_ofRoad (B + 108) (nI r) (nI j) (MK B n I L Q R) = some (lN (fld (nRd N r) (nTl N r) j)) := by
  unfold fX10_ofRoad
  rw [g_Mnow, ob1_some, show (2 : Int32) = nI 2 from rfl, show (8 : Int32) = nI 8 from rfl, nI_mulx, nI_add, nI_add, a_Mnow (by omega), ob1_some, h.2.2.1 r j hr hj]
theorem m_ofClass {B n : Nat} {I : Nat → Nat → Int32} {L : Nat → Nat → Int64} {Q : Nat → Nat → Option Nat} {R : Nat → RDt} {N : NET} {c j : Nat} (h : MNet L 109 N) (hc : c < 3) (hj : j < 4) : fX10_ofClass (B + 108) (nI c) (nI j) (MK B n I L Q R) = some (lN (nC N c j)) := by
  unfold fX10_ofClass
  rw [g_Mnow, ob1_some, show (106 : Int32) = nI 106 from rfl, show (4 : Int32) = nI 4 from rfl, nI_mulx, nI_add, nI_add, a_Mnow (by omega), ob1_some, h.2.2.2 c j hc hj]
/-- the model's now is changed -/
theorem IsM.setNow {I : Nat → Nat → Int32} {L L' : Nat → Nat → Int64} {s : STT} {N : NET} (h : IsM I L s) (hN : MNet L' 109 N) (hL : ∀ a, a ≠ 109 → L' a = L a) : IsM I L' (setN s N) := by
  obtain ⟨h1, h2, h3, h4, h5⟩ := h
  refine ⟨hN, ⟨h2.1, fun M hM => ?_⟩, h3, fun l hl => ?_, fun t ht => ?_⟩
  · have := h2.2 M hM
    unfold MNet at *
    rw [hL 110 (by decide)]
    exact this
  · have := h4 l hl
    show MList I L' l (stL s l)
    unfold MList at *
    rw [hL 127 (by decide)]
    exact this
  · have := h5 t ht
    show MTray I L' t (stY s t)
    unfold MTray MPlace at *
    rw [hL 131 (by decide)]
    exact this
theorem d_driversOf {B n : Nat} {I : Nat → Nat → Int32} {L : Nat → Nat → Int64} {Q : Nat → Nat → Option Nat} {R : Nat → RDt} {s : STT} (h : IsM I L s) (hs : OkS s) (c k : Int32) : fX10_driversOf (B + 108) c k (MK B n I L Q R) = some (A_driversOf s c k) := by
  unfold A_driversOf fX10_driversOf
  rw [m_isClass, ob1_some]
  rcases ix_cases c (m := 3) (by decide) with ⟨cl, h1, rfl, h3⟩ | ⟨h1, h2⟩
  · rw [h3, if_neg (bS cl), in4, ob1_some]
    rcases ix_cases k (m := 4) (by decide) with ⟨w, j1, rfl, j3⟩ | ⟨j1, j2⟩
    · have hb := (CrN_iff.mp (hs.1.2.2.2.2 cl h1) w j1).2
      have hmo : mostT w ≤ 12 := by unfold mostT; split <;> (try split) <;> omega
      rw [j3, if_neg (bS w), m_ofClass h.1 h1 j1, ob1_some, l_toI (by omega)]
    · rw [j1, if_pos bN]
  · rw [h1, if_pos bN]
theorem d_clear {B n : Nat} {I : Nat → Nat → Int32} {L : Nat → Nat → Int64} {Q : Nat → Nat → Option Nat} {R : Nat → RDt} {s : STT} (h : IsM I L s) : RunM B n I L Q R (fX10_clear (B + 108) (MK B n I L Q R)) (A_clear s) := by
  have h3 := h.2.2.1
  refine ⟨u2 I 108 5 0, L, ?_, ⟨h.1, ⟨by rw [u2_ne (by omega)]; exact h.2.1.1, h.2.1.2⟩, ⟨u2_eq, fun j hj => absurd hj (Nat.not_lt_zero j)⟩, fun l hl => ?_, fun t ht => ?_⟩, fun a ha => ⟨u2_nk (by omega), rfl⟩⟩
  · unfold fX10_clear A_clear
    rw [g_Msize, ob1_some, p_Msize, ob1_some, h3.1]
  · have := h.2.2.2.1 l hl
    show MList _ _ l (stL s l)
    unfold MList at *
    rw [u2_nk (by decide)]
    exact this
  · have := h.2.2.2.2 t ht
    show MTray _ _ t (stY s t)
    unfold MTray MPlace at *
    rw [u2_nk (by decide), u2_nk (by decide), u2_nk (by decide)]
    exact this
