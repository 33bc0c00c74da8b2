/-! the model reads roads -/
def F67 (I I' : Nat → Nat → Int32) : Prop := (∀ a, a ≠ 108 → I' a = I a) ∧ ∀ j, j ≠ 6 → j ≠ 7 → I' 108 j = I 108 j
theorem F67.rf {I : Nat → Nat → Int32} : F67 I I := ⟨fun _ _ => rfl, fun _ _ _ => rfl⟩
theorem F67.tr {I I1 I2 : Nat → Nat → Int32} (h : F67 I I1) (g : F67 I1 I2) : F67 I I2 := ⟨fun a ha => by rw [g.1 a ha, h.1 a ha], fun j a b => by rw [g.2 j a b, h.2 j a b]⟩
theorem F67.u {I : Nat → Nat → Int32} {j : Nat} {v : Int32} (h : j = 6 ∨ j = 7) : F67 I (u2 I 108 j v) := ⟨fun a ha => u2_nk ha, fun i h1 h2 => u2_ne (by omega)⟩
def TapeM (I : Nat → Nat → Int32) (t : TAPE) : Prop := MTape I t ∧ t.1 ≤ 100 ∧ ∀ j, j < t.1 → 1 ≤ t.2 j ∧ t.2 j ≤ 127
theorem TapeM.same {I I' : Nat → Nat → Int32} {t : TAPE} (h : TapeM I t) (h5 : I' 108 5 = I 108 5) (h2 : I' 112 = I 112) : TapeM I' t := by
  obtain ⟨⟨a, b⟩, c⟩ := h
  exact ⟨⟨by rw [h5]; exact a, by rw [h2]; exact b⟩, c⟩
abbrev PST : Type := Sum Nat Nat
/-- bad at a place, or good at a place -/
def StM (I : Nat → Nat → Int32) (t : TAPE) (x : PST) : Prop := TapeM I t ∧ match x with
  | .inl f => I 108 7 = 1 ∧ I 108 6 = nI f ∧ f ≤ t.1
  | .inr p => I 108 7 = 0 ∧ I 108 6 = nI p ∧ p ≤ t.1
theorem StM.fr {I I' : Nat → Nat → Int32} {t : TAPE} {x : PST} (h : StM I t x) (h2 : I' 112 = I 112) (h6 : I' 108 6 = I 108 6) (h7 : I' 108 7 = I 108 7) (h5 : I' 108 5 = I 108 5) : StM I' t x := by
  refine ⟨h.1.same h5 h2, ?_⟩
  have := h.2
  cases x with
  | inl f => rw [h6, h7]; exact this
  | inr f => rw [h6, h7]; exact this
theorem StM.bad {I I' : Nat → Nat → Int32} {t : TAPE} {f : Nat} (h : TapeM I t) (hf : F67 I I') (h7 : I' 108 7 = 1) (h6 : I' 108 6 = nI f) (hl : f ≤ t.1) : StM I' t (.inl f) := ⟨h.same (hf.2 5 (by decide) (by decide)) (hf.1 112 (by decide)), h7, h6, hl⟩
theorem StM.good {I I' : Nat → Nat → Int32} {t : TAPE} {f : Nat} (h : TapeM I t) (hf : F67 I I') (h7 : I' 108 7 = 0) (h6 : I' 108 6 = nI f) (hl : f ≤ t.1) : StM I' t (.inr f) := ⟨h.same (hf.2 5 (by decide) (by decide)) (hf.1 112 (by decide)), h7, h6, hl⟩
theorem m_here {B n : Nat} {I : Nat → Nat → Int32} {L : Nat → Nat → Int64} {Q : Nat → Nat → Option Nat} {R : Nat → RDt} {t : TAPE} {p : Nat} (h : StM I t (.inr p)) : fX10_here (B + 108) (MK B n I L Q R) = some (if p < t.1 then nI (t.2 p) else -1) := by
  obtain ⟨⟨⟨a, b⟩, c1, c2⟩, h7, h6, hp⟩ := h
  unfold fX10_here
  rw [g_Mplace, ob1_some, g_Msize, ob1_some, a, h6]
  by_cases c : p < t.1
  · rw [if_pos c, if_neg (by rw [nI_leI (by omega) (by omega)]; omega), g_Mtape, ob1_some, ob1_some, a_Mtape (by omega), ob1_some, b p c]
  · rw [if_neg c, if_pos (by rw [nI_leI (by omega) (by omega)]; omega)]
theorem m_isDig {t : TAPE} {p : Nat} (hb : ∀ j, j < t.1 → 1 ≤ t.2 j ∧ t.2 j ≤ 127) : fX10_in (Int32.toInt64 (if p < t.1 then nI (t.2 p) else -1)) 48 57 = some (bz (decide (p < t.1 ∧ 48 ≤ t.2 p ∧ t.2 p ≤ 57))) := by
  by_cases c : p < t.1
  · obtain ⟨b1, b2⟩ := hb p c
    rw [if_pos c]
    rcases in_rng (nI (t.2 p)) (lo := 48) (hi := 57) (by decide) (l := 48) (v := 57) rfl rfl with ⟨j, j1, j2, j3, j4⟩ | ⟨j1, j2⟩
    · rw [nI_eq (by omega) (by omega)] at j3
      rw [j4, decide_eq_true ⟨c, by omega, by omega⟩]
      rfl
    · rw [j2, decide_eq_false (fun q => j1 _ q.2.1 q.2.2 rfl)]
      rfl
  · rw [if_neg c, decide_eq_false (fun q => c q.1)]
    decide
theorem m_num_L44 {B n : Nat} {L : Nat → Nat → Int64} {Q : Nat → Nat → Option Nat} {R : Nat → RDt} {t : TAPE} {K : Nat} {x2 x3 : Int32} (hK : K ≤ 6) (k : Int32 → AH → Option (Int32 × AH)) : ∀ (m n' c a p : Nat) (I : Nat → Nat → Int32), c + m = K → m < n' → StM I t (.inr p) →
    ∃ I' : Nat → Nat → Int32, fX10_readNumber_L44 (B + 108) (nI K) x2 x3 k n' (nI a) (nI c) (MK B n I L Q R) = k (nI (dgs t m p a).1) (MK B n I' L Q R) ∧ F67 I I' ∧ StM I' t (.inr (dgs t m p a).2) := by
  intro m
  induction m with
  | zero =>
    intro n' c a p I hc hn h
    obtain ⟨n1, rfl⟩ := suc_of hn
    refine ⟨I, ?_, F67.rf, h⟩
    rw [fX10_readNumber_L44, if_pos (by rw [nI_leI (by omega) (by omega)]; omega)]
    rfl
  | succ m ih =>
    intro n' c a p I hc hn h
    obtain ⟨n1, rfl⟩ := suc_of hn
    obtain ⟨⟨⟨t1, t2⟩, t3, t4⟩, h7, h6, hp⟩ := id h
    rw [fX10_readNumber_L44, if_neg (by rw [nI_leI (by omega) (by omega)]; omega), g_MisBad, ob1_some, h7, if_pos rfl, m_here h, ob1_some, m_isDig t4, ob1_some]
    by_cases c1 : p < t.1 ∧ 48 ≤ t.2 p ∧ t.2 p ≤ 57
    · have ed : dgs t (m + 1) p a = dgs t m (p + 1) (a * 10 + t.2 p - 48) := by rw [dgs, if_pos c1]
      have z : ¬ bz (decide (p < t.1 ∧ 48 ≤ t.2 p ∧ t.2 p ≤ 57)) = 0 := by rw [decide_eq_true c1]; decide
      have hF : F67 I (u2 I 108 6 (nI (p + 1))) := F67.u (Or.inl rfl)
      obtain ⟨I', r1, r2, r3⟩ := ih n1 (c + 1) (a * 10 + t.2 p - 48) (p + 1) (u2 I 108 6 (nI (p + 1))) (by omega) (by omega) (StM.good h.1 hF (by rw [u2_ne (by omega)]; exact h7) u2_eq (by omega))
      refine ⟨I', ?_, hF.tr r2, by rw [ed]; exact r3⟩
      rw [if_neg z, ob1_some, if_pos c1.1, Int32.mul_comm, mul10 c1.2.1, bnd_eq, g_Mplace, ob1_some, h6, nI_1, p_Mplace, ob1_some, bnd_eq, nI_1, ed]
      exact r1
    · have ed : dgs t (m + 1) p a = (a, p) := by rw [dgs, if_neg c1]
      have z : bz (decide (p < t.1 ∧ 48 ≤ t.2 p ∧ t.2 p ≤ 57)) = 0 := by rw [decide_eq_false c1]; rfl
      rw [if_pos z, ed]
      exact ⟨I, rfl, F67.rf, h⟩
def opNv (t : TAPE) (K : Nat) (x : PST) : Nat := match x with
  | .inl _ => 0
  | .inr p => (dgs t K p 0).1
def opNs (t : TAPE) (K hi : Nat) (x : PST) : PST := match x with
  | .inl f => .inl f
  | .inr p => match numP t K p with
    | none => .inl p
    | some v => if v.1 ≤ hi then .inr v.2 else .inl p
theorem dgs_0 {t : TAPE} {K p : Nat} (h : ¬ (p < t.1 ∧ 48 ≤ t.2 p ∧ t.2 p ≤ 57)) : dgs t K p 0 = (0, p) := by
  cases K with
  | zero => rfl
  | succ K => rw [dgs, if_neg h]
theorem m_num {B n : Nat} {I : Nat → Nat → Int32} {L : Nat → Nat → Int64} {Q : Nat → Nat → Option Nat} {R : Nat → RDt} {t : TAPE} {K hi : Nat} {x : PST} (h1 : 1 ≤ K) (hK : K ≤ 6) (hh : hi < 1000000) (h : StM I t x) : ∃ I' : Nat → Nat → Int32, fX10_readNumber (B + 108) (nI K) (nI hi) (MK B n I L Q R) = some (nI (opNv t K x), MK B n I' L Q R) ∧ F67 I I' ∧ StM I' t (opNs t K hi x) := by
  have h100 := h.1.2.1
  unfold fX10_readNumber
  cases x with
  | inl f =>
    obtain ⟨hT, h7, h6, hp⟩ := h
    have hF : F67 I (u2 I 108 7 1) := F67.u (Or.inr rfl)
    refine ⟨u2 I 108 7 1, ?_, hF, StM.bad hT hF u2_eq (by rw [u2_ne (by omega)]; exact h6) hp⟩
    rw [g_Mplace, ob1_some, g_MisBad, ob1_some, bnd_eq, h7, if_neg (by decide)]
    dsimp only
    rw [p_MisBad, ob1_some, show lf = 999 + 1 from rfl, fX10_readNumber_L44, if_neg (by rw [l0, nI_leI (by omega) (by omega)]; omega), g_MisBad, ob1_some, u2_eq, if_neg (by decide), ob1_some, if_neg (by decide)]
    rfl
  | inr p =>
    obtain ⟨hT, h7, h6, hp⟩ := id h
    obtain ⟨d1, d2, d3, d4⟩ := dgs_b t K p 0
    have hpow : 10 ^ K ≤ 10 ^ 6 := Nat.pow_le_pow_right (by decide) hK
    rw [g_Mplace, ob1_some, g_MisBad, ob1_some, bnd_eq, h7, if_pos rfl, m_here h, ob1_some, m_isDig hT.2.2, ob1_some]
    by_cases c1 : p < t.1 ∧ 48 ≤ t.2 p ∧ t.2 p ≤ 57
    · have z : ¬ bz (decide (p < t.1 ∧ 48 ≤ t.2 p ∧ t.2 p ≤ 57)) = 0 := by rw [decide_eq_true c1]; decide
      have hF : F67 I (u2 I 108 7 0) := F67.u (Or.inr rfl)
      have hne : ¬ (dgs t K p 0).2 = p := by
        obtain ⟨K', rfl⟩ : ∃ K', K = K' + 1 := ⟨K - 1, by omega⟩
        rw [dgs, if_pos c1]
        have := (dgs_b t K' (p + 1) (0 * 10 + t.2 p - 48)).2.1
        omega
      have hnum : numP t K p = some (dgs t K p 0) := if_neg hne
      obtain ⟨I1, r1, r2, r3⟩ := m_num_L44 (L := L) (Q := Q) (R := R) (B := B) (n := n) (x2 := nI hi) (x3 := nI p) hK (fun (y43 : Int32) (g44 : AH) =>
        ob1 (gI g44 (B + 108) 10 7) fun v45 =>
        if v45 = (0 : Int32) then
          if y43 ≤ nI hi then
            some (y43, g44)
          else
            ob1 (pV g44 (B + 108) 10 7 (.int (1 : Int32))) fun g47 =>
            ob1 (pV g47 (B + 108) 10 6 (.int (nI p))) fun g49 =>
            some (y43, g49)
        else
          some (y43, g44)) K lf 0 0 p (u2 I 108 7 0) (by omega) (by show _ < 1000; omega) (StM.good hT hF u2_eq (by rw [u2_ne (by omega)]; exact h6) hp)
      have r1 := r1
      rw [if_neg z, p_MisBad, ob1_some, h6]
      have hv : opNv t K (.inr p) = (dgs t K p 0).1 := rfl
      have hs : opNs t K hi (.inr p) = if (dgs t K p 0).1 ≤ hi then .inr (dgs t K p 0).2 else .inl p := by
        show (match numP t K p with | none => _ | some v => _) = _
        rw [hnum]
      rw [hv, hs]
      by_cases c2 : (dgs t K p 0).1 ≤ hi
      · refine ⟨I1, r1.trans ?_, hF.tr r2, by rw [if_pos c2]; exact r3⟩
        rw [g_MisBad, ob1_some, r3.2.1, if_pos rfl, if_pos (by rw [nI_leI (by omega) (by omega)]; exact c2)]
      · have hF2 : F67 I1 (u2 (u2 I1 108 7 1) 108 6 (nI p)) := (F67.u (Or.inr rfl)).tr (F67.u (Or.inl rfl))
        refine ⟨u2 (u2 I1 108 7 1) 108 6 (nI p), r1.trans ?_, (hF.tr r2).tr hF2, by rw [if_neg c2]; exact StM.bad r3.1 hF2 (by rw [u2_ne (by omega), u2_eq]) u2_eq hp⟩
        rw [g_MisBad, ob1_some, r3.2.1, if_pos rfl, if_neg (by rw [nI_leI (by omega) (by omega)]; exact c2), p_MisBad, ob1_some, p_Mplace, ob1_some]
    · have z : bz (decide (p < t.1 ∧ 48 ≤ t.2 p ∧ t.2 p ≤ 57)) = 0 := by rw [decide_eq_false c1]; rfl
      have hF : F67 I (u2 I 108 7 1) := F67.u (Or.inr rfl)
      have ed := dgs_0 (K := K) c1
      have hv : opNv t K (.inr p) = 0 := by show (dgs t K p 0).1 = 0; rw [ed]
      have hs : opNs t K hi (.inr p) = .inl p := by
        show (match numP t K p with | none => _ | some v => _) = _
        rw [show numP t K p = none from if_pos (by rw [ed])]
      rw [hv, hs]
      refine ⟨u2 I 108 7 1, ?_, hF, StM.bad hT hF u2_eq (by rw [u2_ne (by omega)]; exact h6) hp⟩
      rw [if_pos z]
      dsimp only
      rw [p_MisBad, ob1_some, show lf = 999 + 1 from rfl, fX10_readNumber_L44, if_neg (by rw [l0, nI_leI (by omega) (by omega)]; omega), g_MisBad, ob1_some, u2_eq, if_neg (by decide), ob1_some, if_neg (by decide)]
      rfl
def opW (t : TAPE) (c : Nat) (x : PST) : PST := match x with
  | .inl f => .inl f
  | .inr p => if chAt t p c = true then .inr (p + 1) else .inl p
theorem m_hereIs {t : TAPE} {p c : Nat} (hb : ∀ j, j < t.1 → 1 ≤ t.2 j ∧ t.2 j ≤ 127) (hc : c < 128) : ((if p < t.1 then nI (t.2 p) else -1) = nI c) = (chAt t p c = true) := by
  unfold chAt
  by_cases e : p < t.1
  · rw [if_pos e, nI_eq (by have := hb p e; omega) (by omega)]
    refine propext ⟨fun g => decide_eq_true ⟨e, g⟩, fun g => (of_decide_eq_true g).2⟩
  · rw [if_neg e, m1_lit, m1_eq (by omega), decide_eq_false (fun q => e q.1)]
    simp
theorem m_wants {B n : Nat} {I : Nat → Nat → Int32} {L : Nat → Nat → Int64} {Q : Nat → Nat → Option Nat} {R : Nat → RDt} {t : TAPE} {c : Nat} {x : PST} (hc : c < 128) (h : StM I t x) : ∃ I' : Nat → Nat → Int32, fX10_wants (B + 108) (nI c) (MK B n I L Q R) = some (MK B n I' L Q R) ∧ F67 I I' ∧ StM I' t (opW t c x) := by
  unfold fX10_wants
  cases x with
  | inl f =>
    obtain ⟨hT, h7, h6, hp⟩ := h
    have hF : F67 I (u2 (u2 I 108 7 1) 108 6 (nI f + 0)) := (F67.u (Or.inr rfl)).tr (F67.u (Or.inl rfl))
    refine ⟨u2 (u2 I 108 7 1) 108 6 (nI f + 0), ?_, hF, StM.bad hT hF (by rw [u2_ne (by omega), u2_eq]) (by rw [u2_eq, l0, nI_add, Nat.add_zero]) hp⟩
    rw [g_MisBad, ob1_some, bnd_eq, h7, if_neg (by decide)]
    dsimp only
    rw [p_MisBad, ob1_some, g_Mplace, ob1_some, g_MisBad, ob1_some, u2_eq, if_neg (by decide), u2_ne (by omega), h6, p_Mplace, ob1_some]
  | inr p =>
    obtain ⟨hT, h7, h6, hp⟩ := id h
    rw [g_MisBad, ob1_some, bnd_eq, h7, if_pos rfl, m_here h, ob1_some]
    by_cases c1 : chAt t p c = true
    · have hlt : p < t.1 := (of_decide_eq_true c1).1
      have hF : F67 I (u2 (u2 I 108 7 0) 108 6 (nI p + 1)) := (F67.u (Or.inr rfl)).tr (F67.u (Or.inl rfl))
      refine ⟨u2 (u2 I 108 7 0) 108 6 (nI p + 1), ?_, hF, ?_⟩
      · rw [if_pos (by rw [m_hereIs hT.2.2 hc]; exact c1), p_MisBad, ob1_some, g_Mplace, ob1_some, g_MisBad, ob1_some, u2_eq, if_pos rfl, u2_ne (by omega), h6, p_Mplace, ob1_some]
      · show StM _ t (if chAt t p c = true then .inr (p + 1) else .inl p)
        rw [if_pos c1]
        exact StM.good hT hF (by rw [u2_ne (by omega), u2_eq]) (by rw [u2_eq, nI_1]) (by omega)
    · have hF : F67 I (u2 (u2 I 108 7 1) 108 6 (nI p + 0)) := (F67.u (Or.inr rfl)).tr (F67.u (Or.inl rfl))
      refine ⟨u2 (u2 I 108 7 1) 108 6 (nI p + 0), ?_, hF, ?_⟩
      · rw [if_neg (by rw [m_hereIs hT.2.2 hc]; exact c1)]
        dsimp only
        rw [p_MisBad, ob1_some, g_Mplace, ob1_some, g_MisBad, ob1_some, u2_eq, if_neg (by decide), u2_ne (by omega), h6, p_Mplace, ob1_some]
      · show StM _ t (if chAt t p c = true then .inr (p + 1) else .inl p)
        rw [if_neg c1]
        exact StM.bad hT hF (by rw [u2_ne (by omega), u2_eq]) (by rw [u2_eq, l0, nI_add, Nat.add_zero]) hp
def opG (t : TAPE) (c : Nat) (x : PST) : Bool := match x with
  | .inl _ => false
  | .inr p => chAt t p c
def opGs (t : TAPE) (c : Nat) (x : PST) : PST := match x with
  | .inl f => .inl f
  | .inr p => if chAt t p c = true then .inr (p + 1) else .inr p
theorem m_goesOn {B n : Nat} {I : Nat → Nat → Int32} {L : Nat → Nat → Int64} {Q : Nat → Nat → Option Nat} {R : Nat → RDt} {t : TAPE} {c : Nat} {x : PST} (hc : c < 128) (h : StM I t x) : ∃ I' : Nat → Nat → Int32, fX10_goesOn (B + 108) (nI c) (MK B n I L Q R) = some (bz (opG t c x), MK B n I' L Q R) ∧ F67 I I' ∧ StM I' t (opGs t c x) := by
  unfold fX10_goesOn
  cases x with
  | inl f =>
    obtain ⟨hT, h7, h6, hp⟩ := h
    have hF : F67 I (u2 I 108 6 (nI f + 0)) := F67.u (Or.inl rfl)
    refine ⟨u2 I 108 6 (nI f + 0), ?_, hF, StM.bad hT hF (by rw [u2_ne (by omega)]; exact h7) (by rw [u2_eq, l0, nI_add, Nat.add_zero]) hp⟩
    rw [g_MisBad, ob1_some, bnd_eq, h7, if_neg (by decide)]
    dsimp only
    rw [g_Mplace, ob1_some, if_pos rfl, h6, p_Mplace, ob1_some]
    rfl
  | inr p =>
    obtain ⟨hT, h7, h6, hp⟩ := id h
    rw [g_MisBad, ob1_some, bnd_eq, h7, if_pos rfl, m_here h, ob1_some]
    by_cases c1 : chAt t p c = true
    · have hlt : p < t.1 := (of_decide_eq_true c1).1
      have hF : F67 I (u2 I 108 6 (nI p + 1)) := F67.u (Or.inl rfl)
      refine ⟨u2 I 108 6 (nI p + 1), ?_, hF, ?_⟩
      · rw [if_pos (by rw [m_hereIs hT.2.2 hc]; exact c1), g_Mplace, ob1_some, if_neg (by decide), h6, p_Mplace, ob1_some]
        show _ = some (bz (chAt t p c), _)
        rw [c1]
        rfl
      · show StM _ t (if chAt t p c = true then .inr (p + 1) else .inr p)
        rw [if_pos c1]
        exact StM.good hT hF (by rw [u2_ne (by omega)]; exact h7) (by rw [u2_eq, nI_1]) (by omega)
    · have hF : F67 I (u2 I 108 6 (nI p + 0)) := F67.u (Or.inl rfl)
      refine ⟨u2 I 108 6 (nI p + 0), ?_, hF, ?_⟩
      · rw [if_neg (by rw [m_hereIs hT.2.2 hc]; exact c1)]
        dsimp only
        rw [g_Mplace, ob1_some, if_pos rfl, h6, p_Mplace, ob1_some]
        show _ = some (bz (chAt t p c), _)
        rw [Bool.eq_false_iff.mpr c1]
        rfl
      · show StM _ t (if chAt t p c = true then .inr (p + 1) else .inr p)
        rw [if_neg c1]
        exact StM.good hT hF (by rw [u2_ne (by omega)]; exact h7) (by rw [u2_eq, l0, nI_add, Nat.add_zero]) hp
