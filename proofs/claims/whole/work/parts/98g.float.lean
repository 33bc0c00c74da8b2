/-! floats that are not below nothing -/
theorem fl_pos {a : UInt32} {A B : Nat} {e : Int} (h : FP.Core.val32 a = FP.Core.roundRatio FP.Core.b32 false A B e) : a.toNat < 2 ^ 31 := by
  have hn : FP.Core.val32 a ≠ .nan := by rw [h]; exact FP.Core.roundRatio_ne_nan _ _ _ _ _
  have hs := FP.Core.sgn_bits32 hn
  rw [h, FP.Core.sgn_roundRatio] at hs
  exact Nat.lt_of_not_le (of_decide_eq_false hs.symm)
theorem fl_fin {a : UInt32} {K : Nat} (h : a.toNat < K * 2 ^ 23) (hK : K ≤ 255) : ∃ c q, FP.Core.val32 a = .fin false c q ∧ FP.Core.fits FP.Core.b32 (.fin false c q) ∧ FP.Core.zmag FP.Core.b32 (.fin false c q) = FP.Core.unitsOf FP.Core.b32 a.toNat := by
  have h31 : a.toNat < 2 ^ 31 := by omega
  have hm : a.toNat % 2 ^ 31 = a.toNat := Nat.mod_eq_of_lt h31
  obtain ⟨s, c, q, hv⟩ := FP.Core.fin_of_lt32 (a := a) (K := K) (by rw [hm]; exact h) hK
  have hs : s = false := by
    have := FP.Core.sign_bits32 (a := a) (s := s) (Or.inl ⟨c, q, hv⟩)
    cases s with
    | false => rfl
    | true => have := this.mp rfl; omega
  subst hs
  have hn : FP.Core.val32 a ≠ .nan := by rw [hv]; exact FP.Core.Datum.noConfusion
  have hz := FP.Core.zmag_toNat32 hn
  rw [hv, hm] at hz
  exact ⟨c, q, hv, hv ▸ FP.Core.val32_fits a, hz⟩
theorem fl_mul_v {a b : UInt32} {c d : Nat} {q r : Int} (ha : FP.Core.val32 a = .fin false c q) (hb : FP.Core.val32 b = .fin false d r) : FP.Core.val32 (FP.fmul a b) = FP.Core.roundRatio FP.Core.b32 false (c * d) 1 (q + r) := by
  show FP.Core.val32 (FP.Core.fmul a b) = _
  rw [FP.Core.val32_fmul, ha, hb]
  rfl
theorem fl_div_v {a b : UInt32} {c d : Nat} {q r : Int} (ha : FP.Core.val32 a = .fin false c q) (hb : FP.Core.val32 b = .fin false d r) (hd : d ≠ 0) : FP.Core.val32 (FP.fdiv a b) = FP.Core.roundRatio FP.Core.b32 false c d (q - r) := by
  show FP.Core.val32 (FP.Core.fdiv a b) = _
  rw [FP.Core.val32_fdiv, ha, hb]
  show (if d = 0 then _ else FP.Core.roundRatio FP.Core.b32 (false != false) c d (q - r)) = _
  rw [if_neg hd]
  rfl
theorem fl_add_v {a b : UInt32} {c d : Nat} {q r : Int} (ha : FP.Core.val32 a = .fin false c q) (hb : FP.Core.val32 b = .fin false d r) : FP.Core.val32 (FP.fadd a b) = FP.Core.roundRatio FP.Core.b32 false (FP.Core.inUnits c q (min q r) + FP.Core.inUnits d r (min q r)) 1 (min q r) := by
  show FP.Core.val32 (FP.Core.fadd a b) = _
  rw [FP.Core.val32_fadd, ha, hb]
  have e : FP.Core.sumUnits false c q false d r (min q r) = ((FP.Core.inUnits c q (min q r) + FP.Core.inUnits d r (min q r) : Nat) : Int) := by
    unfold FP.Core.sumUnits FP.Core.signed
    simp
  show FP.Core.round FP.Core.b32 (.fin (FP.Core.sumSign false false (FP.Core.sumUnits false c q false d r (min q r))) (FP.Core.sumUnits false c q false d r (min q r)).natAbs (min q r)) = _
  rw [e]
  have hs : FP.Core.sumSign false false ((FP.Core.inUnits c q (min q r) + FP.Core.inUnits d r (min q r) : Nat) : Int) = false := by
    unfold FP.Core.sumSign
    by_cases z : ((FP.Core.inUnits c q (min q r) + FP.Core.inUnits d r (min q r) : Nat) : Int) = 0
    · rw [if_pos z]; rfl
    · rw [if_neg z]
      exact decide_eq_false (by omega)
  rw [hs, Int.natAbs_natCast]
  rfl
theorem fl_mul {a b : UInt32} {Ka Kb : Nat} (ha : a.toNat < Ka * 2 ^ 23) (hb : b.toNat < Kb * 2 ^ 23) (hKa : Ka ≤ 255) (hKb : Kb ≤ 255) : (FP.fmul a b).toNat < (Ka + Kb - 129 + 3) * 2 ^ 23 := by
  obtain ⟨c, q, a1, a2, a3⟩ := fl_fin ha hKa
  obtain ⟨d, r, b1, b2, b3⟩ := fl_fin hb hKb
  have h1 := fl_pos (fl_mul_v a1 b1)
  have h2 := FP.Core.fmul_mag (a := a) (b := b) (Ka := Ka) (Kb := Kb) (by rw [Nat.mod_eq_of_lt (by omega)]; exact ha) (by rw [Nat.mod_eq_of_lt (by omega)]; exact hb) hKa hKb
  rw [Nat.mod_eq_of_lt h1] at h2
  exact h2
theorem fl_ne0 {a : UInt32} {c L : Nat} {q : Int} (h : FP.Core.zmag FP.Core.b32 (.fin false c q) = FP.Core.unitsOf FP.Core.b32 a.toNat) (hL : L * 2 ^ 23 ≤ a.toNat) (h1 : 1 ≤ L) : c ≠ 0 := by
  rintro rfl
  have z : FP.Core.zmag FP.Core.b32 (.fin false 0 q) = 0 := Nat.zero_mul _
  rw [z] at h
  have := FP.Core.unitsOf_eq_zero.mp h.symm
  have : 1 * 2 ^ 23 ≤ L * 2 ^ 23 := Nat.mul_le_mul_right _ h1
  omega
theorem fl_div {a b : UInt32} {K L : Nat} (ha : a.toNat < K * 2 ^ 23) (hb : L * 2 ^ 23 ≤ b.toNat) (hb2 : b.toNat < 255 * 2 ^ 23) (hK : K ≤ 255) (hL : 1 ≤ L) : (FP.fdiv a b).toNat < (K + (149 - 23 - 1) - L + 3) * 2 ^ 23 := by
  obtain ⟨c, q, a1, a2, a3⟩ := fl_fin ha hK
  obtain ⟨d, r, b1, b2, b3⟩ := fl_fin hb2 (Nat.le_refl _)
  have h1 := fl_pos (fl_div_v a1 b1 (fl_ne0 b3 hb hL))
  have h2 := FP.Core.fdiv_mag (a := a) (b := b) (K := K) (L := L) (by rw [Nat.mod_eq_of_lt (by omega)]; exact ha) (by rw [Nat.mod_eq_of_lt (by omega)]; exact hb) (by rw [Nat.mod_eq_of_lt (by omega)]; exact hb2) hK hL
  rw [Nat.mod_eq_of_lt h1] at h2
  exact h2
theorem fl_add {a b : UInt32} {K : Nat} (ha : a.toNat < K * 2 ^ 23) (hb : b.toNat < K * 2 ^ 23) (hK : K ≤ 255) : (FP.fadd a b).toNat < (K + 2) * 2 ^ 23 := by
  obtain ⟨c, q, a1, a2, a3⟩ := fl_fin ha hK
  obtain ⟨d, r, b1, b2, b3⟩ := fl_fin hb hK
  have h1 := fl_pos (fl_add_v a1 b1)
  have h2 := FP.Core.fadd_mag (a := a) (b := b) (K := K) (by rw [Nat.mod_eq_of_lt (by omega)]; exact ha) (by rw [Nat.mod_eq_of_lt (by omega)]; exact hb) hK
  rw [Nat.mod_eq_of_lt h1] at h2
  exact h2
theorem nn_of {a : UInt32} {K : Nat} (h : a.toNat < K * 2 ^ 23) (hK : K ≤ 255) : nn a = true := by
  unfold nn
  refine decide_eq_true ?_
  rw [UInt32.le_iff_toNat_le, FP.Core.mask_toNat32]
  have : (0x7f800000 : UInt32).toNat = 2139095040 := rfl
  have : a.toNat % 2 ^ 31 ≤ a.toNat := Nat.mod_le _ _
  omega
theorem fl_start {K : Nat} (h : 1 ≤ K) : FP.Core.unitsOf FP.Core.b32 (K * 2 ^ 23) = 2 ^ 23 * 2 ^ (K - 1) := by
  have := FP.Core.unitsOf_start (f := FP.Core.b32) h
  rw [FP.Core.tails_b32] at this
  exact this
theorem fl_ge {a : UInt32} {A B m : Nat} {e e0 : Int} (hv : FP.Core.val32 a = FP.Core.roundRatio FP.Core.b32 false A B e) (hB : 0 < B) (h0 : e0 ≤ FP.Core.b32.qmin) (h0e : e0 ≤ e) (hm : m ≤ 2139095040) (h : FP.Core.unitsOf FP.Core.b32 m * 2 ^ (FP.Core.b32.qmin - e0).toNat * B ≤ FP.Core.inUnits A e e0) : m ≤ a.toNat := by
  have h1 := fl_pos hv
  have := FP.Core.mag_ge FP.Core.good_b32 (n := a.toNat) (m := m) hv hB h0 h0e (by rw [FP.Core.infBits_b32]; exact hm) h
  rw [FP.Core.mag_toNat32, Nat.mod_eq_of_lt h1] at this
  exact this
theorem fl_mul_ge {a b : UInt32} (ha : 127 * 2 ^ 23 ≤ a.toNat) (ha2 : a.toNat < 255 * 2 ^ 23) (hb : 127 * 2 ^ 23 ≤ b.toNat) (hb2 : b.toNat < 255 * 2 ^ 23) : 127 * 2 ^ 23 ≤ (FP.fmul a b).toNat := by
  obtain ⟨c, q, a1, a2, a3⟩ := fl_fin ha2 (Nat.le_refl _)
  obtain ⟨d, r, b1, b2, b3⟩ := fl_fin hb2 (Nat.le_refl _)
  obtain ⟨p1, p2, p3⟩ := FP.Core.product_units a2 b2
  have hq : FP.Core.b32.qmin = -149 := FP.Core.qmin_b32
  refine fl_ge (fl_mul_v a1 b1) (by decide) (e0 := 2 * FP.Core.b32.qmin) (by rw [hq]; decide) p2 (by decide) ?_
  rw [p3, a3, b3, fl_start (by decide), hq, Nat.mul_one]
  have u1 := FP.Core.unitsOf_le_iff (f := FP.Core.b32).mpr ha
  have u2 := FP.Core.unitsOf_le_iff (f := FP.Core.b32).mpr hb
  rw [fl_start (by decide)] at u1 u2
  have := Nat.mul_le_mul u1 u2
  refine Nat.le_trans (Nat.le_of_eq ?_) this
  decide
theorem fl_div_ge {a b : UInt32} (ha : 127 * 2 ^ 23 ≤ a.toNat) (ha2 : a.toNat < 255 * 2 ^ 23) (hb : 127 * 2 ^ 23 ≤ b.toNat) (hb2 : b.toNat < 134 * 2 ^ 23) : 100 * 2 ^ 23 ≤ (FP.fdiv a b).toNat := by
  obtain ⟨c, q, a1, a2, a3⟩ := fl_fin ha2 (Nat.le_refl _)
  obtain ⟨d, r, b1, b2, b3⟩ := fl_fin (K := 255) (a := b) (by omega) (Nat.le_refl _)
  have hq : FP.Core.b32.qmin = -149 := FP.Core.qmin_b32
  have hd0 := fl_ne0 b3 hb (by decide)
  have hx1 := a2.2.1
  have hy1 := b2.2.1
  refine fl_ge (fl_div_v a1 b1 hd0) (by omega) (e0 := 2 * FP.Core.b32.qmin - r) (by omega) (by omega) (by decide) ?_
  have e1 : FP.Core.inUnits c (q - r) (2 * FP.Core.b32.qmin - r) = FP.Core.zmag FP.Core.b32 (.fin false c q) * 2 ^ (-FP.Core.b32.qmin).toNat := by
    show c * _ = c * _ * _
    rw [Nat.mul_assoc, ← Nat.pow_add]; congr 2; omega
  have e2 : 2 ^ (FP.Core.b32.qmin - (2 * FP.Core.b32.qmin - r)).toNat * d = FP.Core.zmag FP.Core.b32 (.fin false d r) := by
    show _ = d * _
    rw [Nat.mul_comm]; congr 2; omega
  rw [e1, Nat.mul_assoc, e2, a3, b3, fl_start (by decide), hq]
  have u1 := FP.Core.unitsOf_le_iff (f := FP.Core.b32).mpr ha
  have u2 := Nat.le_of_lt (FP.Core.unitsOf_lt (f := FP.Core.b32) hb2)
  rw [fl_start (by decide)] at u1 u2
  have h1 := Nat.mul_le_mul_left (2 ^ 23 * 2 ^ (100 - 1)) u2
  have h2 := Nat.mul_le_mul_right (2 ^ (149 : Nat)) u1
  refine Nat.le_trans h1 (Nat.le_trans ?_ h2)
  decide
theorem fl_add_ge {a b : UInt32} {m : Nat} (ha2 : a.toNat < 250 * 2 ^ 23) (hb2 : b.toNat < 250 * 2 ^ 23) (hm : m ≤ a.toNat ∨ m ≤ b.toNat) : m ≤ (FP.fadd a b).toNat := by
  obtain ⟨c, q, a1, a2, a3⟩ := fl_fin ha2 (by decide)
  obtain ⟨d, r, b1, b2, b3⟩ := fl_fin hb2 (by decide)
  have hx1 := a2.2.1
  have hy1 := b2.2.1
  refine fl_ge (fl_add_v a1 b1) (by decide) (e0 := FP.Core.b32.qmin) (Int.le_refl _) (by omega) (by omega) ?_
  have e : FP.Core.inUnits (FP.Core.inUnits c q (min q r) + FP.Core.inUnits d r (min q r)) (min q r) FP.Core.b32.qmin = FP.Core.zmag FP.Core.b32 (.fin false c q) + FP.Core.zmag FP.Core.b32 (.fin false d r) := by
    show _ = FP.Core.inUnits c q FP.Core.b32.qmin + FP.Core.inUnits d r FP.Core.b32.qmin
    rw [FP.Core.inUnits_move c (q := q) (e := FP.Core.b32.qmin) (r := min q r) (by omega) (by omega), FP.Core.inUnits_move d (q := r) (e := FP.Core.b32.qmin) (r := min q r) (by omega) (by omega)]
    exact Nat.add_mul _ _ _
  rw [e, a3, b3, Int.sub_self, Int.toNat_zero, Nat.pow_zero, Nat.mul_one, Nat.mul_one]
  rcases hm with h | h
  · have := FP.Core.unitsOf_le_iff (f := FP.Core.b32).mpr h; omega
  · have := FP.Core.unitsOf_le_iff (f := FP.Core.b32).mpr h; omega
theorem fl_zero {a : UInt32} {B : Nat} {e : Int} (h : FP.Core.val32 a = FP.Core.roundRatio FP.Core.b32 false 0 B e) : a = 0 := by
  have h2 : FP.Core.val32 a = FP.Core.val32 0 := by
    rw [h, FP.Core.val32_zero]
    exact if_pos rfl
  exact FP.Core.val32_inj (by rw [h]; exact FP.Core.roundRatio_ne_nan _ _ _ _ _) h2
theorem fl_c0 {c : Nat} {q : Int} (h : FP.Core.zmag FP.Core.b32 (.fin false c q) = FP.Core.unitsOf FP.Core.b32 0) : c = 0 := by
  rw [FP.Core.unitsOf_zero] at h
  have h : c * 2 ^ (q - FP.Core.b32.qmin).toNat = 0 := h
  rcases Nat.mul_eq_zero.mp h with h | h
  · exact h
  · exact absurd h (Nat.pos_iff_ne_zero.mp (Nat.two_pow_pos _))
theorem fl_mul_0 {a b : UInt32} (ha : a.toNat = 0) (hb : b.toNat < 255 * 2 ^ 23) : FP.fmul a b = 0 := by
  obtain ⟨c, q, a1, a2, a3⟩ := fl_fin (a := a) (K := 1) (by omega) (by decide)
  obtain ⟨d, r, b1, b2, b3⟩ := fl_fin hb (Nat.le_refl _)
  rw [ha] at a3
  have hc := fl_c0 a3
  have := fl_mul_v a1 b1
  rw [hc, Nat.zero_mul] at this
  exact fl_zero this
theorem fl_div_0 {a b : UInt32} (ha : a.toNat = 0) (hb : 127 * 2 ^ 23 ≤ b.toNat) (hb2 : b.toNat < 255 * 2 ^ 23) : FP.fdiv a b = 0 := by
  obtain ⟨c, q, a1, a2, a3⟩ := fl_fin (a := a) (K := 1) (by omega) (by decide)
  obtain ⟨d, r, b1, b2, b3⟩ := fl_fin hb2 (Nat.le_refl _)
  rw [ha] at a3
  have hc := fl_c0 a3
  have := fl_div_v a1 b1 (fl_ne0 b3 hb (by decide))
  rw [hc] at this
  exact fl_zero this
theorem fl_add_0 {a b : UInt32} (ha : a.toNat = 0) (hb : b.toNat = 0) : FP.fadd a b = 0 := by
  obtain ⟨c, q, a1, a2, a3⟩ := fl_fin (a := a) (K := 1) (by omega) (by decide)
  obtain ⟨d, r, b1, b2, b3⟩ := fl_fin (a := b) (K := 1) (by omega) (by decide)
  rw [ha] at a3
  rw [hb] at b3
  have hc := fl_c0 a3
  have hd := fl_c0 b3
  have := fl_add_v a1 b1
  rw [hc, hd] at this
  have e : FP.Core.inUnits 0 q (min q r) + FP.Core.inUnits 0 r (min q r) = 0 := by unfold FP.Core.inUnits; rw [Nat.zero_mul, Nat.zero_mul]
  rw [e] at this
  exact fl_zero this
/-! whole numbers as floats -/
theorem i2f_small : ∀ v : Fin 37, 1 ≤ v.val → 127 * 2 ^ 23 ≤ (FP.i2f (nI v.val)).toNat ∧ (FP.i2f (nI v.val)).toNat < 134 * 2 ^ 23 := by decide +kernel
theorem i2f_b {v : Nat} (h1 : 1 ≤ v) (h2 : v ≤ 36) : 127 * 2 ^ 23 ≤ (FP.i2f (nI v)).toNat ∧ (FP.i2f (nI v)).toNat < 134 * 2 ^ 23 := i2f_small ⟨v, by omega⟩ h1
theorem l2f_v (r : Nat) (hr : r < 9223372036854775808) : FP.Core.val32 (FP.l2f (lN r)) = FP.Core.roundRatio FP.Core.b32 false r 1 0 := by
  show FP.Core.val32 (FP.Core.l2f (lN r)) = _
  rw [FP.Core.val32_l2f, pk_lT (by omega)]
  show FP.Core.round FP.Core.b32 (.fin (decide ((r : Int) < 0)) (r : Int).natAbs 0) = _
  rw [decide_eq_false (by omega), Int.natAbs_natCast]
  rfl
theorem l2f_b {r : Nat} (hr : r ≤ 5500000000000000000) : (FP.l2f (lN r)).toNat < 191 * 2 ^ 23 ∧ ((FP.l2f (lN r)).toNat = 0 ∨ 127 * 2 ^ 23 ≤ (FP.l2f (lN r)).toNat) := by
  have hp := fl_pos (l2f_v r (by omega))
  have h1 := FP.Core.fromInt_mag32 (i := (r : Int)) (a := FP.l2f (lN r)) (j := 63) (K := 190) (by
    show (FP.Core.l2f (lN r)).toNat = _
    rw [FP.Core.toNat_l2f, pk_lT (by omega)]) (by rw [Int.natAbs_natCast]; omega) (by decide) (by decide)
  rw [Nat.mod_eq_of_lt hp] at h1
  refine ⟨by omega, ?_⟩
  by_cases c : r = 0
  · refine Or.inl ?_
    have := l2f_v r (by omega)
    rw [c] at this ⊢
    rw [fl_zero this]
    rfl
  · refine Or.inr ?_
    have := FP.Core.fromInt_ge32 (i := (r : Int)) (a := FP.l2f (lN r)) (by
      show (FP.Core.l2f (lN r)).toNat = _
      rw [FP.Core.toNat_l2f, pk_lT (by omega)]) (by omega)
    rw [Nat.mod_eq_of_lt hp] at this
    exact this
theorem l2f_i2f {v : Nat} (h : v < 2147483648) : FP.l2f (lN v) = FP.i2f (nI v) := by
  show FP.Core.l2f (lN v) = FP.Core.i2f (nI v)
  unfold FP.Core.l2f FP.Core.i2f
  rw [pk_lT (by omega), nI_toInt (by omega)]
