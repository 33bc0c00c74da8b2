/-! bits of a float that is told -/
theorem fl_le {a : UInt32} {A B m : Nat} {e e0 : Int} (hv : FP.Core.val32 a = FP.Core.roundRatio FP.Core.b32 false A B e) (hB : 0 < B) (h0 : e0 ≤ FP.Core.b32.qmin) (h0e : e0 ≤ e) (h : FP.Core.inUnits A e e0 ≤ FP.Core.unitsOf FP.Core.b32 m * 2 ^ (FP.Core.b32.qmin - e0).toNat * B) : a.toNat ≤ m := by
  have h1 := fl_pos hv
  have := FP.Core.mag_le FP.Core.good_b32 (n := a.toNat) (m := m) hv hB h0 h0e h
  rw [FP.Core.mag_toNat32, Nat.mod_eq_of_lt h1] at this
  exact this
theorem fl_mul_eq {a b : UInt32} {m : Nat} (ha : a.toNat < 255 * 2 ^ 23) (hb : b.toNat < 255 * 2 ^ 23) (hm : m ≤ 2139095040) (h : FP.Core.unitsOf FP.Core.b32 a.toNat * FP.Core.unitsOf FP.Core.b32 b.toNat = FP.Core.unitsOf FP.Core.b32 m * 2 ^ 149) : (FP.fmul a b).toNat = m := by
  obtain ⟨c, q, a1, a2, a3⟩ := fl_fin ha (Nat.le_refl _)
  obtain ⟨d, r, b1, b2, b3⟩ := fl_fin hb (Nat.le_refl _)
  obtain ⟨p1, p2, p3⟩ := FP.Core.product_units a2 b2
  have hq : FP.Core.b32.qmin = -149 := FP.Core.qmin_b32
  have e : FP.Core.inUnits (c * d) (q + r) (2 * FP.Core.b32.qmin) = FP.Core.unitsOf FP.Core.b32 m * 2 ^ (FP.Core.b32.qmin - 2 * FP.Core.b32.qmin).toNat * 1 := by
    rw [p3, a3, b3, h, hq, Nat.mul_one]; rfl
  exact Nat.le_antisymm (fl_le (fl_mul_v a1 b1) (by decide) (e0 := 2 * FP.Core.b32.qmin) (by rw [hq]; decide) p2 (Nat.le_of_eq e)) (fl_ge (fl_mul_v a1 b1) (by decide) (e0 := 2 * FP.Core.b32.qmin) (by rw [hq]; decide) p2 hm (Nat.le_of_eq e.symm))
theorem fl_div_eq {a b : UInt32} {m : Nat} (ha2 : a.toNat < 255 * 2 ^ 23) (hb : 1 * 2 ^ 23 ≤ b.toNat) (hb2 : b.toNat < 255 * 2 ^ 23) (hm : m ≤ 2139095040) (h : FP.Core.unitsOf FP.Core.b32 m * FP.Core.unitsOf FP.Core.b32 b.toNat = FP.Core.unitsOf FP.Core.b32 a.toNat * 2 ^ 149) : (FP.fdiv a b).toNat = m := by
  obtain ⟨c, q, a1, a2, a3⟩ := fl_fin ha2 (Nat.le_refl _)
  obtain ⟨d, r, b1, b2, b3⟩ := fl_fin hb2 (Nat.le_refl _)
  have hq : FP.Core.b32.qmin = -149 := FP.Core.qmin_b32
  have hd0 := fl_ne0 b3 hb (by decide)
  have hx1 := a2.2.1
  have hy1 := b2.2.1
  have e1 : FP.Core.inUnits c (q - r) (2 * FP.Core.b32.qmin - r) = FP.Core.zmag FP.Core.b32 (.fin false c q) * 2 ^ (-FP.Core.b32.qmin).toNat := by
    show c * _ = c * _ * _
    rw [Nat.mul_assoc, ← Nat.pow_add]; congr 2; omega
  have e2 : 2 ^ (FP.Core.b32.qmin - (2 * FP.Core.b32.qmin - r)).toNat * d = FP.Core.zmag FP.Core.b32 (.fin false d r) := by
    show _ = d * _
    rw [Nat.mul_comm]; congr 2; omega
  have e : FP.Core.inUnits c (q - r) (2 * FP.Core.b32.qmin - r) = FP.Core.unitsOf FP.Core.b32 m * 2 ^ (FP.Core.b32.qmin - (2 * FP.Core.b32.qmin - r)).toNat * d := by
    rw [e1, Nat.mul_assoc, e2, a3, b3, h, hq]; rfl
  exact Nat.le_antisymm (fl_le (fl_div_v a1 b1 hd0) (by omega) (e0 := 2 * FP.Core.b32.qmin - r) (by omega) (by omega) (Nat.le_of_eq e)) (fl_ge (fl_div_v a1 b1 hd0) (by omega) (e0 := 2 * FP.Core.b32.qmin - r) (by omega) (by omega) hm (Nat.le_of_eq e.symm))
theorem fl_add_le {a b : UInt32} {m : Nat} (ha2 : a.toNat < 250 * 2 ^ 23) (hb2 : b.toNat < 250 * 2 ^ 23) (hm : FP.Core.unitsOf FP.Core.b32 a.toNat + FP.Core.unitsOf FP.Core.b32 b.toNat ≤ FP.Core.unitsOf FP.Core.b32 m) : (FP.fadd a b).toNat ≤ m := by
  obtain ⟨c, q, a1, a2, a3⟩ := fl_fin ha2 (by decide)
  obtain ⟨d, r, b1, b2, b3⟩ := fl_fin hb2 (by decide)
  have hx1 := a2.2.1
  have hy1 := b2.2.1
  refine fl_le (fl_add_v a1 b1) (by decide) (e0 := FP.Core.b32.qmin) (Int.le_refl _) (by omega) ?_
  have e : FP.Core.inUnits (FP.Core.inUnits c q (min q r) + FP.Core.inUnits d r (min q r)) (min q r) FP.Core.b32.qmin = FP.Core.zmag FP.Core.b32 (.fin false c q) + FP.Core.zmag FP.Core.b32 (.fin false d r) := by
    show _ = FP.Core.inUnits c q FP.Core.b32.qmin + FP.Core.inUnits d r FP.Core.b32.qmin
    rw [FP.Core.inUnits_move c (q := q) (e := FP.Core.b32.qmin) (r := min q r) (by omega) (by omega), FP.Core.inUnits_move d (q := r) (e := FP.Core.b32.qmin) (r := min q r) (by omega) (by omega)]
    exact Nat.add_mul _ _ _
  rw [e, a3, b3, Int.sub_self, Int.toNat_zero, Nat.pow_zero, Nat.mul_one, Nat.mul_one]
  exact hm
def mkf (E t : Nat) : UInt32 := UInt32.ofNat (E * 2 ^ 23 + t)
theorem mkf_nat {E t : Nat} (hE : E ≤ 255) (ht : t < 2 ^ 23) : (mkf E t).toNat = E * 2 ^ 23 + t := by
  show (UInt32.ofNat _).toNat = _
  rw [UInt32.toNat_ofNat']
  exact Nat.mod_eq_of_lt (by omega)
theorem mkf_of {a : UInt32} {E t : Nat} (hE : E ≤ 255) (ht : t < 2 ^ 23) (h : a.toNat = E * 2 ^ 23 + t) : a = mkf E t := UInt32.toNat_inj.mp (by rw [h, mkf_nat hE ht])
theorem un {E t : Nat} (hE : 1 ≤ E) (ht : t < 2 ^ 23) : FP.Core.unitsOf FP.Core.b32 (E * 2 ^ 23 + t) = (2 ^ 23 + t) * 2 ^ (E - 1) := by
  unfold FP.Core.unitsOf
  rw [FP.Core.tails_b32, if_neg (by omega), show (E * 2 ^ 23 + t) % 2 ^ 23 = t by omega, show (E * 2 ^ 23 + t) / 2 ^ 23 = E by omega]
theorem c2_nat : (FP.fconst2).toNat = 128 * 2 ^ 23 := by decide
theorem c1_nat : (FP.fconst1).toNat = 127 * 2 ^ 23 := by decide
theorem c0_nat : (FP.fconst0).toNat = 0 := by decide
theorem fl_half {E t : Nat} (hE : 2 ≤ E) (hE2 : E < 255) (ht : t < 2 ^ 23) : FP.fdiv (mkf E t) FP.fconst2 = mkf (E - 1) t := by
  obtain ⟨F, rfl⟩ : ∃ F, E = F + 2 := ⟨E - 2, by omega⟩
  refine mkf_of (by omega) ht (fl_div_eq (by rw [mkf_nat (by omega) ht]; omega) (by rw [c2_nat]; decide) (by rw [c2_nat]; decide) (by omega) ?_)
  rw [un (by omega) ht, mkf_nat (by omega) ht, un (by omega) ht, c2_nat, fl_start (by decide), show F + 2 - 1 - 1 = F by omega, show F + 2 - 1 = F + 1 by omega, show (2 : Nat) ^ (F + 1) = 2 ^ F * 2 from Nat.pow_succ _ _, show 2 ^ 23 * 2 ^ (128 - 1) = 2 * 2 ^ 149 by decide]
  simp only [Nat.mul_assoc]
theorem fl_dbl {E t : Nat} (hE : 1 ≤ E) (hE2 : E < 254) (ht : t < 2 ^ 23) : FP.fmul (mkf E t) FP.fconst2 = mkf (E + 1) t := by
  obtain ⟨F, rfl⟩ : ∃ F, E = F + 1 := ⟨E - 1, by omega⟩
  refine mkf_of (by omega) ht (fl_mul_eq (by rw [mkf_nat (by omega) ht]; omega) (by rw [c2_nat]; decide) (by omega) ?_)
  rw [un (by omega) ht, mkf_nat (by omega) ht, un (by omega) ht, c2_nat, fl_start (by decide), show F + 1 - 1 = F by omega, show F + 1 + 1 - 1 = F + 1 by omega, show (2 : Nat) ^ (F + 1) = 2 ^ F * 2 from Nat.pow_succ _ _, show 2 ^ 23 * 2 ^ (128 - 1) = 2 * 2 ^ 149 by decide]
  simp only [Nat.mul_assoc]
theorem cmpv {a b : UInt32} (ha : a.toNat < 255 * 2 ^ 23) (hb : b.toNat < 255 * 2 ^ 23) : FP.fcmp a b = some (compare (a.toNat : Int) (b.toNat : Int)) := by
  obtain ⟨c, q, a1, a2, a3⟩ := fl_fin ha (Nat.le_refl _)
  obtain ⟨d, r, b1, b2, b3⟩ := fl_fin hb (Nat.le_refl _)
  show FP.Core.fcmp a b = _
  rw [FP.Core.fcmp_key (by rw [a1]; exact FP.Core.Datum.noConfusion) (by rw [b1]; exact FP.Core.Datum.noConfusion)]
  unfold FP.Core.fkey
  rw [if_neg (by omega), if_neg (by omega)]
theorem cv_lt {a b : UInt32} {o : CmpOp} (ha : a.toNat < 255 * 2 ^ 23) (hb : b.toNat < 255 * 2 ^ 23) (h : a.toNat < b.toNat) : Op.cmpValue (FP.fcmp a b) o = -1 := by
  rw [cmpv ha hb]
  show Op.cmpValue (some (compareOfLessAndEq (a.toNat : Int) (b.toNat : Int))) o = -1
  unfold compareOfLessAndEq
  rw [if_pos (by omega)]
  rfl
theorem cv_eq {a b : UInt32} {o : CmpOp} (ha : a.toNat < 255 * 2 ^ 23) (hb : b.toNat < 255 * 2 ^ 23) (h : a.toNat = b.toNat) : Op.cmpValue (FP.fcmp a b) o = 0 := by
  rw [cmpv ha hb]
  show Op.cmpValue (some (compareOfLessAndEq (a.toNat : Int) (b.toNat : Int))) o = 0
  unfold compareOfLessAndEq
  rw [if_neg (by omega), if_pos (by omega)]
  rfl
theorem cv_gt {a b : UInt32} {o : CmpOp} (ha : a.toNat < 255 * 2 ^ 23) (hb : b.toNat < 255 * 2 ^ 23) (h : b.toNat < a.toNat) : Op.cmpValue (FP.fcmp a b) o = 1 := by
  rw [cmpv ha hb]
  show Op.cmpValue (some (compareOfLessAndEq (a.toNat : Int) (b.toNat : Int))) o = 1
  unfold compareOfLessAndEq
  rw [if_neg (by omega), if_neg (by omega)]
  rfl
theorem cv_ge {a b : UInt32} {o : CmpOp} (ha : a.toNat < 255 * 2 ^ 23) (hb : b.toNat < 255 * 2 ^ 23) (h : b.toNat ≤ a.toNat) : Op.cmpValue (FP.fcmp a b) o = 0 ∨ Op.cmpValue (FP.fcmp a b) o = 1 := by
  by_cases e : a.toNat = b.toNat
  · exact Or.inl (cv_eq ha hb e)
  · exact Or.inr (cv_gt ha hb (by omega))
theorem b15 (k : UInt32 → Int32 → Option Int32) {t : Nat} (ht : t < 2 ^ 23) : ∀ (d n' e c : Nat), d < n' → c + d < 128 → d < 100 → fX9_bitsOf_L15 k n' (mkf (127 + d) t) (nI e) (nI c) = k (mkf 127 t) (nI (e + d)) := by
  intro d
  induction d with
  | zero =>
    intro n' e c hn hc hd
    obtain ⟨n1, rfl⟩ := suc_of hn
    rw [fX9_bitsOf_L15, if_neg (by rw [show (128 : Int32) = nI 128 from rfl, nI_leI (by omega) (by omega)]; omega), cv_lt (by rw [mkf_nat (by omega) ht]; omega) (by rw [c2_nat]; decide) (by rw [mkf_nat (by omega) ht, c2_nat]; omega), if_pos (by decide)]
    rfl
  | succ d ih =>
    intro n' e c hn hc hd
    obtain ⟨n1, rfl⟩ := suc_of hn
    have hm := mkf_nat (E := 127 + (d + 1)) (t := t) (by omega) ht
    have hm2 := mkf_nat (E := 127 + d) (t := t) (by omega) ht
    have hh := fl_half (E := 127 + (d + 1)) (t := t) (by omega) (by omega) ht
    rw [show 127 + (d + 1) - 1 = 127 + d by omega] at hh
    have hg := cv_ge (a := mkf (127 + (d + 1)) t) (b := FP.fconst2) (o := .l) (by rw [hm]; omega) (by rw [c2_nat]; decide) (by rw [hm, c2_nat]; omega)
    have h1 := ih n1 (e + 1) (c + 1) (by omega) (by omega) (by omega)
    rw [fX9_bitsOf_L15, if_neg (by rw [show (128 : Int32) = nI 128 from rfl, nI_leI (by omega) (by omega)]; omega), if_neg (by rcases hg with g | g <;> rw [g] <;> decide), hh, nn_of (K := 255) (by rw [hm2]; omega) (by decide), gd_true]
    simp only [bnd_eq, nI_1]
    rw [h1, show e + 1 + d = e + (d + 1) by omega]
theorem b15s (k : UInt32 → Int32 → Option Int32) {t E n' : Nat} {e : Int32} (ht : t < 2 ^ 23) (hE : E ≤ 127) (hn : 0 < n') : fX9_bitsOf_L15 k n' (mkf E t) e 0 = k (mkf E t) e := by
  obtain ⟨n1, rfl⟩ := suc_of hn
  rw [fX9_bitsOf_L15, if_neg (by decide), cv_lt (by rw [mkf_nat (by omega) ht]; omega) (by rw [c2_nat]; decide) (by rw [mkf_nat (by omega) ht, c2_nat]; omega), if_pos (by decide)]
theorem b43 (k : UInt32 → Int32 → Option Int32) {t : Nat} (ht : t < 2 ^ 23) : ∀ (d n' e c : Nat), d < n' → c + d < 126 → d < 100 → fX9_bitsOf_L43 k n' (mkf (127 - d) t) (nI (e + d)) (nI c) = k (mkf 127 t) (nI e) := by
  intro d
  induction d with
  | zero =>
    intro n' e c hn hc hd
    obtain ⟨n1, rfl⟩ := suc_of hn
    have hg := cv_ge (a := mkf 127 t) (b := FP.fconst1) (o := .g) (by rw [mkf_nat (by omega) ht]; omega) (by rw [c1_nat]; decide) (by rw [mkf_nat (by omega) ht, c1_nat]; omega)
    rw [fX9_bitsOf_L43, if_neg (by rw [show (126 : Int32) = nI 126 from rfl, nI_leI (by omega) (by omega)]; omega), show 127 - 0 = 127 from rfl, if_pos (by rcases hg with g | g <;> rw [g] <;> decide)]
    rfl
  | succ d ih =>
    intro n' e c hn hc hd
    obtain ⟨n1, rfl⟩ := suc_of hn
    have hm := mkf_nat (E := 127 - (d + 1)) (t := t) (by omega) ht
    have hm2 := mkf_nat (E := 127 - d) (t := t) (by omega) ht
    have hh := fl_dbl (E := 127 - (d + 1)) (t := t) (by omega) (by omega) ht
    rw [show 127 - (d + 1) + 1 = 127 - d by omega] at hh
    have h1 := ih n1 e (c + 1) (by omega) (by omega) (by omega)
    rw [fX9_bitsOf_L43, if_neg (by rw [show (126 : Int32) = nI 126 from rfl, nI_leI (by omega) (by omega)]; omega), cv_lt (by rw [hm]; omega) (by rw [c1_nat]; decide) (by rw [hm, c1_nat]; omega), if_neg (by decide), hh, nn_of (K := 255) (by rw [hm2]; omega) (by decide), gd_true]
    simp only [bnd_eq, nI_1]
    rw [show e + (d + 1) = e + d + 1 by omega, nI_m1 (by omega), Nat.add_sub_cancel]
    exact h1
theorem round_units {n n' : Nat} {e e' : Int} (h1 : FP.Core.b32.qmin ≤ e) (h2 : FP.Core.b32.qmin ≤ e') (h : FP.Core.inUnits n e FP.Core.b32.qmin = FP.Core.inUnits n' e' FP.Core.b32.qmin) : FP.Core.roundRatio FP.Core.b32 false n 1 e = FP.Core.roundRatio FP.Core.b32 false n' 1 e' := by
  refine FP.Core.roundRatio_congr (by decide) (by decide) ?_
  rw [Nat.mul_one, Nat.mul_one]
  unfold FP.Core.inUnits at h
  rcases Int.le_total e e' with c | c
  · rw [show (e' - FP.Core.b32.qmin).toNat = (e' - e).toNat + (e - FP.Core.b32.qmin).toNat by omega, Nat.pow_add, ← Nat.mul_assoc] at h
    rw [show (e - e').toNat = 0 by omega, Nat.pow_zero, Nat.mul_one]
    exact Nat.eq_of_mul_eq_mul_right (Nat.two_pow_pos _) h
  · rw [show (e - FP.Core.b32.qmin).toNat = (e - e').toNat + (e' - FP.Core.b32.qmin).toNat by omega, Nat.pow_add, ← Nat.mul_assoc] at h
    rw [show (e' - e).toNat = 0 by omega, Nat.pow_zero, Nat.mul_one]
    exact Nat.eq_of_mul_eq_mul_right (Nat.two_pow_pos _) h
theorem i2f_v (r : Nat) (hr : r < 2147483648) : FP.Core.val32 (FP.i2f (nI r)) = FP.Core.roundRatio FP.Core.b32 false r 1 0 := by
  show FP.Core.val32 (FP.Core.i2f (nI r)) = _
  rw [FP.Core.val32_i2f, nI_toInt (by omega)]
  show FP.Core.round FP.Core.b32 (.fin (decide ((r : Int) < 0)) (r : Int).natAbs 0) = _
  rw [decide_eq_false (by omega), Int.natAbs_natCast]
  rfl
theorem i2f_nat {r : Nat} (hr : r < 2147483648) : (FP.i2f (nI r)).toNat < 159 * 2 ^ 23 := by
  have hp := fl_pos (i2f_v r (by omega))
  have h1 := FP.Core.fromInt_mag32 (i := (r : Int)) (a := FP.i2f (nI r)) (j := 31) (K := 158) (by
    show (FP.Core.i2f (nI r)).toNat = _
    rw [FP.Core.toNat_i2f, nI_toInt (by omega)]) (by rw [Int.natAbs_natCast]; omega) (by decide) (by decide)
  rw [Nat.mod_eq_of_lt hp] at h1
  omega
theorem sg_pos {sg : Bool} {N W T : Nat} (h0 : 0 < T) (h : FP.Core.signed sg N = ((W + T : Nat) : Int) + -((W : Nat) : Int)) : sg = false ∧ N = T := by
  cases sg with
  | false =>
    have h : (N : Int) = _ := h
    exact ⟨rfl, by omega⟩
  | true =>
    have h : -(N : Int) = _ := h
    omega
/-- one less -/
theorem fl_frac {t : Nat} (h0 : 0 < t) (ht : t < 2 ^ 23) : ∃ c q, FP.Core.val32 (FP.fsub (mkf 127 t) FP.fconst1) = .fin false c q ∧ FP.Core.b32.qmin ≤ q ∧ FP.Core.inUnits c q FP.Core.b32.qmin = t * 2 ^ 126 := by
  have hm := mkf_nat (E := 127) (t := t) (by omega) ht
  obtain ⟨c, q, a1, a2, a3⟩ := fl_fin (a := mkf 127 t) (K := 128) (by rw [hm]; omega) (by decide)
  have hq : FP.Core.b32.qmin = -149 := FP.Core.qmin_b32
  have b2 : FP.Core.fits FP.Core.b32 (.fin true (2 ^ 23) (-23)) := by
    have := FP.Core.val32_fits FP.Core.fconst1
    rw [FP.Core.val32_fconst1] at this
    exact this
  obtain ⟨sg, n, e, p1, p2, p3⟩ := FP.Core.sum_units a2 b2
  have hv : FP.Core.val32 (FP.fsub (mkf 127 t) FP.fconst1) = FP.Core.round FP.Core.b32 (.fin sg n e) := by
    show FP.Core.val32 (FP.Core.fsub (mkf 127 t) FP.Core.fconst1) = _
    rw [FP.Core.val32_fsub, a1, FP.Core.val32_fconst1, ← p1]
    rfl
  have z1 : FP.Core.zval FP.Core.b32 (.fin false c q) = ((FP.Core.zmag FP.Core.b32 (.fin false c q) : Nat) : Int) := rfl
  have z2 : FP.Core.zval FP.Core.b32 (.fin true (2 ^ 23) (-23)) = -((2 ^ 23 * 2 ^ 126 : Nat) : Int) := by decide +kernel
  rw [z1, z2, a3, hm, un (by decide) ht, show (2 ^ 23 + t) * 2 ^ (127 - 1) = 2 ^ 23 * 2 ^ 126 + t * 2 ^ 126 from Nat.add_mul _ _ _] at p3
  obtain ⟨hs, hn⟩ := sg_pos (Nat.mul_pos h0 (by decide)) p3
  subst hs
  have hi : FP.Core.inUnits t (-23) FP.Core.b32.qmin = t * 2 ^ 126 := by
    unfold FP.Core.inUnits
    rw [hq]
    rfl
  obtain ⟨c', q', r1, r2⟩ := FP.Core.round_exact FP.Core.good_b32 false (c := t) (q := -23) (by show t < 2 ^ 24; omega) (by rw [hq]; decide) (by decide)
  have hv2 : FP.Core.val32 (FP.fsub (mkf 127 t) FP.fconst1) = .fin false c' q' := by
    rw [hv, ← r1]
    exact round_units p2 (by rw [hq]; decide) (by rw [hn, hi])
  have hf := FP.Core.val32_fits (FP.fsub (mkf 127 t) FP.fconst1)
  rw [hv2] at hf
  exact ⟨c', q', hv2, hf.2.1, by rw [r2, hi]⟩
theorem fl_frac0 : FP.fsub (mkf 127 0) FP.fconst1 = 0 := by decide +kernel
theorem k23 : FP.Core.val32 1258291200 = .fin false (2 ^ 23) 0 := by decide +kernel
theorem fl_t {t : Nat} (ht : t < 2 ^ 23) : nn (FP.fsub (mkf 127 t) FP.fconst1) = true ∧ nn (FP.fmul (FP.fsub (mkf 127 t) FP.fconst1) 1258291200) = true ∧ FP.f2i (FP.fmul (FP.fsub (mkf 127 t) FP.fconst1) 1258291200) = nI t := by
  rcases Nat.eq_zero_or_pos t with h | h0
  · subst h
    rw [fl_frac0]
    exact ⟨by decide +kernel, by decide +kernel, by decide +kernel⟩
  · obtain ⟨c, q, a1, a2, a3⟩ := fl_frac h0 ht
    have hq : FP.Core.b32.qmin = -149 := FP.Core.qmin_b32
    generalize FP.fsub (mkf 127 t) FP.fconst1 = z at a1
    have hn : FP.Core.val32 z ≠ .nan := by rw [a1]; exact FP.Core.Datum.noConfusion
    have hz := FP.Core.zmag_toNat32 hn
    have hs := FP.Core.sgn_bits32 hn
    rw [a1] at hz hs
    have h31 : z.toNat < 2 ^ 31 := Nat.lt_of_not_le (of_decide_eq_false hs.symm)
    rw [Nat.mod_eq_of_lt h31] at hz
    have hz2 : t * 2 ^ 126 = FP.Core.unitsOf FP.Core.b32 z.toNat := a3.symm.trans hz
    have hlt : z.toNat < 127 * 2 ^ 23 := by
      refine FP.Core.unitsOf_lt_iff (f := FP.Core.b32).mp ?_
      rw [← hz2, fl_start (by decide)]
      exact Nat.mul_lt_mul_of_pos_right ht (by decide)
    have hm : FP.fmul z 1258291200 = FP.i2f (nI t) := by
      have e1 := fl_mul_v a1 k23
      refine FP.Core.val32_inj (by rw [e1]; exact FP.Core.roundRatio_ne_nan _ _ _ _ _) ?_
      rw [e1, i2f_v t (by omega)]
      refine round_units (by omega) (by rw [hq]; decide) ?_
      have e2 : FP.Core.inUnits (c * 2 ^ 23) (q + 0) FP.Core.b32.qmin = FP.Core.inUnits c q FP.Core.b32.qmin * 2 ^ 23 := by
        unfold FP.Core.inUnits
        rw [Int.add_zero, Nat.mul_right_comm]
      rw [e2, a3, Nat.mul_assoc]
      unfold FP.Core.inUnits
      rw [hq]
      rfl
    refine ⟨nn_of hlt (by decide), ?_, ?_⟩
    · rw [hm]
      have h1 := i2f_nat (r := t) (by omega)
      exact nn_of (K := 255) (by omega) (by decide)
    · rw [hm]
      exact FP.Core.f2i_i2f (by rw [nI_toInt (by omega), Int.natAbs_natCast]; omega)
theorem shl23 : ∀ E : Fin 256, nI E.val <<< ((23 : Int32) &&& 31) = nI (E.val * 2 ^ 23) := by decide +kernel
theorem nI_bits {x : UInt32} : UInt32.toInt32 x = nI x.toNat := by
  show _ = Int32.ofNat x.toNat
  refine Int32.toBitVec_inj.mp ?_
  show x.toBitVec = BitVec.ofNat 32 x.toNat
  exact BitVec.eq_of_toNat_eq (by rw [BitVec.toNat_ofNat]; exact (Nat.mod_eq_of_lt x.toNat_lt).symm)
theorem or_add {E t : Nat} (ht : t < 2 ^ 23) : E * 2 ^ 23 ||| t = E * 2 ^ 23 + t := by
  have := Nat.shiftLeft_add_eq_or_of_lt ht E
  rw [Nat.shiftLeft_eq] at this
  exact this.symm
theorem c_bits {x : UInt32} (h : x.toNat = 0 ∨ 100 * 2 ^ 23 ≤ x.toNat) (h2 : x.toNat < 207 * 2 ^ 23) : fX9_bitsOf x = some (UInt32.toInt32 x) := by
  unfold fX9_bitsOf
  rcases h with h | h
  · have h0 : x = 0 := UInt32.toNat_inj.mp h
    rw [cv_eq (by omega) (by rw [c0_nat]; decide) (by rw [c0_nat]; exact h), if_neg (by decide), h0]
    rfl
  · rw [cv_gt (by omega) (by rw [c0_nat]; decide) (by rw [c0_nat]; omega), if_pos (by decide)]
    obtain ⟨E, t, rfl, ht, hE1, hE2⟩ : ∃ E t, x = mkf E t ∧ t < 2 ^ 23 ∧ 100 ≤ E ∧ E < 207 := ⟨x.toNat / 2 ^ 23, x.toNat % 2 ^ 23, mkf_of (by omega) (by omega) (by omega), by omega, by omega, by omega⟩
    obtain ⟨f1, f2, f3⟩ := fl_t ht
    have hfin : (gd (nn (FP.fsub (mkf 127 t) FP.fconst1)) <| gd (nn (FP.fmul (FP.fsub (mkf 127 t) FP.fconst1) (1258291200 : UInt32))) <| some ((nI E <<< ((23 : Int32) &&& 31)) ||| (FP.f2i (FP.fmul (FP.fsub (mkf 127 t) FP.fconst1) (1258291200 : UInt32))))) = some (UInt32.toInt32 (mkf E t)) := by
      rw [f1, gd_true, f2, gd_true, f3, shl23 ⟨E, by omega⟩, nI_or, or_add ht, nI_bits, mkf_nat (by omega) ht]
    by_cases c : 127 ≤ E
    · obtain ⟨d, rfl⟩ : ∃ d, E = 127 + d := ⟨E - 127, by omega⟩
      refine (b15 _ ht d lf 127 0 (by show d < 1000; omega) (by omega) (by omega)).trans ?_
      refine Eq.trans (b43 _ ht 0 lf (127 + d) 0 (by decide) (by decide) (by decide)) ?_
      exact hfin
    · refine (b15s _ ht (by omega) (by decide)).trans ?_
      obtain ⟨d, hd⟩ : ∃ d, d = 127 - E := ⟨_, rfl⟩
      have h1 := b43 (fun (y15 : UInt32) (y16 : Int32) => gd (nn (FP.fsub y15 FP.fconst1)) <| gd (nn (FP.fmul (FP.fsub y15 FP.fconst1) (1258291200 : UInt32))) <| some ((y16 <<< ((23 : Int32) &&& 31)) ||| (FP.f2i (FP.fmul (FP.fsub y15 FP.fconst1) (1258291200 : UInt32))))) ht d lf E 0 (by show d < 1000; omega) (by omega) (by omega)
      rw [show 127 - d = E by omega, show E + d = 127 by omega] at h1
      exact h1.trans hfin
/-- the model's -/
theorem m_bits {x : UInt32} (h2 : x.toNat < 255 * 2 ^ 23) : fJxf58ca_floatToIntBits_5c35a x = some (UInt32.toInt32 x) := by
  unfold fJxf58ca_floatToIntBits_5c35a fJxf58ca_isNaN_12338
  rw [cv_eq h2 h2 rfl, if_pos rfl, ob1_some, if_pos rfl]
