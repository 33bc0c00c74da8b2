/-! halves of longs -/
theorem i64_of (u : UInt64) : u.toInt64 = lN u.toNat := by
  rw [show lN u.toNat = (UInt64.ofNat u.toNat).toInt64 from rfl, UInt64.ofNat_toNat]
theorem u64_lN {w : Nat} (h : w < 18446744073709551616) : (lN w).toUInt64.toNat = w := by
  rw [show (lN w).toUInt64 = UInt64.ofNat w from rfl]
  exact UInt64.toNat_ofNat_of_lt h
theorem hi_u {w : Nat} (h : w < 9223372036854775808) : ((Int64.toUInt64 (lN w)) >>> (Int64.toUInt64 (Int32.toInt64 (32 : Int32)) &&& Int64.toUInt64 63)).toInt64 = lN (w / 4294967296) := by
  rw [i64_of, show (Int64.toUInt64 (Int32.toInt64 (32 : Int32)) &&& Int64.toUInt64 63) = 32 from by decide, UInt64.toNat_shiftRight, u64_lN (by omega), show (32 : UInt64).toNat % 64 = 32 from rfl, Nat.shiftRight_eq_div_pow]
theorem lo_a (x : Int64) : x &&& (4294967295 : Int64) = lN (x.toUInt64.toNat % 4294967296) := by
  have e : x &&& (4294967295 : Int64) = (x.toUInt64 &&& 4294967295).toInt64 := rfl
  rw [e, i64_of, UInt64.toNat_and, show (4294967295 : UInt64).toNat = 2 ^ 32 - 1 from rfl, Nat.and_two_pow_sub_one_eq_mod]
theorem shr_32 (x : Int64) : (x >>> (Int32.toInt64 (32 : Int32) &&& 63)).toInt = x.toInt / 4294967296 := by
  have e : (x >>> (Int32.toInt64 (32 : Int32) &&& 63)).toBitVec = x.toBitVec.sshiftRight 32 := rfl
  show (x >>> (Int32.toInt64 (32 : Int32) &&& 63)).toBitVec.toInt = _
  rw [e, BitVec.toInt_sshiftRight, Int.shiftRight_eq_div_pow]
  rfl
theorem mod_32 (x : Int64) : ((x.toUInt64.toNat % 4294967296 : Nat) : Int) = x.toInt % 4294967296 := by
  have e : x.toInt = if 2 * x.toBitVec.toNat < 2 ^ 64 then (x.toBitVec.toNat : Int) else (x.toBitVec.toNat : Int) - 2 ^ 64 := BitVec.toInt_eq_toNat_cond x.toBitVec
  have e2 : x.toUInt64.toNat = x.toBitVec.toNat := rfl
  rw [e2, e]
  split <;> omega
/-! what flows into a town, by what was told -/
def sumI : Nat → (Nat → Int) → Int
  | 0, _ => 0
  | k + 1, f => sumI k f + f k
def sgN (N : NET) (t r : Nat) : Int := if dTo (nRd N r) = t then 1 else if dFrom (nRd N r) = t then -1 else 0
def wN (v : Nat → Int64) (r : Nat) : Nat := (v r).toNatClampNeg
def flowZ (N : NET) (w : Nat → Nat) (t m : Nat) : Int := sumI m fun r => sgN N t r * (w r : Int)
def hiZ (N : NET) (w : Nat → Nat) (t m : Nat) : Int := sumI m fun r => sgN N t r * ((w r / 4294967296 : Nat) : Int)
def loZ (N : NET) (w : Nat → Nat) (t m : Nat) : Int := sumI m fun r => sgN N t r * ((w r % 4294967296 : Nat) : Int)
theorem sg_cases (N : NET) (t r : Nat) : sgN N t r = 1 ∨ sgN N t r = -1 ∨ sgN N t r = 0 := by
  unfold sgN
  split
  · exact Or.inl rfl
  · split
    · exact Or.inr (Or.inl rfl)
    · exact Or.inr (Or.inr rfl)
theorem halves (N : NET) (w : Nat → Nat) (t : Nat) : ∀ m, flowZ N w t m = hiZ N w t m * 4294967296 + loZ N w t m
  | 0 => rfl
  | m + 1 => by
    have h := halves N w t m
    have e1 : flowZ N w t (m + 1) = flowZ N w t m + sgN N t m * (w m : Int) := rfl
    have e2 : hiZ N w t (m + 1) = hiZ N w t m + sgN N t m * ((w m / 4294967296 : Nat) : Int) := rfl
    have e3 : loZ N w t (m + 1) = loZ N w t m + sgN N t m * ((w m % 4294967296 : Nat) : Int) := rfl
    rw [e1, e2, e3, h]
    rcases sg_cases N t m with c | c | c <;> rw [c] <;> omega
theorem half_b (N : NET) (w : Nat → Nat) (t : Nat) (hw : ∀ r, w r < 9223372036854775808) : ∀ m, (hiZ N w t m ≤ m * 2147483648 ∧ -(m * 2147483648 : Int) ≤ hiZ N w t m) ∧ (loZ N w t m ≤ m * 4294967296 ∧ -(m * 4294967296 : Int) ≤ loZ N w t m)
  | 0 => by
    show ((0 : Int) ≤ _ ∧ _ ≤ (0 : Int)) ∧ ((0 : Int) ≤ _ ∧ _ ≤ (0 : Int))
    omega
  | m + 1 => by
    have h := half_b N w t hw m
    have h2 := hw m
    have e2 : hiZ N w t (m + 1) = hiZ N w t m + sgN N t m * ((w m / 4294967296 : Nat) : Int) := rfl
    have e3 : loZ N w t (m + 1) = loZ N w t m + sgN N t m * ((w m % 4294967296 : Nat) : Int) := rfl
    rw [e2, e3]
    rcases sg_cases N t m with c | c | c <;> rw [c] <;> omega
def consP (N : NET) (v : Nat → Int64) : Prop := (∀ r, r < nM N → 0 ≤ v r) ∧ ∀ t, 1 ≤ t → t < nT N → flowZ N (wN v) t (nM N) = (nDue N t : Int)
noncomputable def consB (N : NET) (v : Nat → Int64) : Bool := @decide (consP N v) (Classical.propDecidable _)
theorem consB_t {N : NET} {v : Nat → Int64} (h : consP N v) : consB N v = true := @decide_eq_true _ (Classical.propDecidable _) h
theorem consB_f {N : NET} {v : Nat → Int64} (h : ¬ consP N v) : consB N v = false := @decide_eq_false _ (Classical.propDecidable _) h
theorem consB_is {N : NET} {v : Nat → Int64} (h : consB N v = true) : consP N v := @of_decide_eq_true _ (Classical.propDecidable _) h
theorem wN_lt (v : Nat → Int64) (r : Nat) : wN v r < 9223372036854775808 := by
  have h := Int64.toInt_lt (v r)
  unfold wN Int64.toNatClampNeg
  omega
theorem wN_is {v : Nat → Int64} {r : Nat} (h : 0 ≤ v r) : v r = lN (wN v r) := by
  obtain ⟨j, hj, e⟩ := pk_lOf (x := v r) (by
    intro q
    have e1 := Int64.lt_iff_toInt_lt.mp q
    have e2 := Int64.le_iff_toInt_le.mp h
    omega)
  unfold wN
  rw [e, Int64.toNatClampNeg, pk_lT hj]
  rfl
theorem ofI_nat (a : Nat) : Int64.ofInt (a : Int) = lN a := rfl
theorem e_bal_L9 {B n : Nat} {I : Nat → Nat → Int32} {L : Nat → Nat → Int64} {Q : Nat → Nat → Option Nat} {R : Nat → RDt} {l u t : Nat} {N : NET} {v : Nat → Int64} {len : Nat} (hl : l < 4) (hN : NetIs B n I L Q R 1 N) (hO : NetOK N) (hm : nM N ≤ 12) (h24 : len ≤ 24) (hu : u + nM N ≤ len) (hv : ∀ r, r < nM N → L (100 + 2 * l + 1) (u + r) = v r) (h0 : ∀ r, r < nM N → 0 ≤ v r) (ht : t < 6) (k : Int64 → Int64 → Option Int32) :
    ∀ (m n' c : Nat), c + m = nM N → m < n' → fX9_isBalanced_L9 B (B + (100 + 2 * l + 1)) (nI u) (nI t) (MK B n I L Q R) k n' (Int64.ofInt (hiZ N (wN v) t c)) (Int64.ofInt (loZ N (wN v) t c)) (nI c) = k (Int64.ofInt (hiZ N (wN v) t (nM N))) (Int64.ofInt (loZ N (wN v) t (nM N))) := by
  have hM := hN.2.1
  have hr := isRl hl
  have hx1 := isN1
  intro m
  induction m with
  | zero =>
    intro n' c hc hn
    obtain ⟨n1, rfl⟩ := suc_of hn
    rw [fX9_isBalanced_L9, g_Wnow, ob1_some, g_size isN1, ob1_some, hM, if_pos (by rw [nI_leI (by omega) (by omega)]; omega), show c = nM N by omega]
  | succ m ih =>
    intro n' c hc hn
    obtain ⟨n1, rfl⟩ := suc_of hn
    have h1 := ih n1 (c + 1) (by omega) (by omega)
    have hvq := hN.2.2.1 c (by omega)
    have hd := hN.2.2.2.1 c (by omega)
    have hrd := (hO.2.2.2.1 c (by omega)).1
    have hq1 := q_roads (B := B) (n := n) (I := I) (L := L) (R := R) isN1 (show c < 13 by omega) hvq.1
    have hva := hv c (by omega)
    have hw := wN_is (h0 c (by omega))
    have hwl := wN_lt v c
    have hlo : lN (wN v c) &&& (4294967295 : Int64) = lN (wN v c % 4294967296) := by rw [lo_a, u64_lN (by omega)]
    have e2 : hiZ N (wN v) t (c + 1) = hiZ N (wN v) t c + sgN N t c * ((wN v c / 4294967296 : Nat) : Int) := rfl
    have e3 : loZ N (wN v) t (c + 1) = loZ N (wN v) t c + sgN N t c * ((wN v c % 4294967296 : Nat) : Int) := rfl
    rw [e2, e3, Int64.ofInt_add, Int64.ofInt_add, Int64.ofInt_mul, Int64.ofInt_mul, ofI_nat, ofI_nat] at h1
    have hal : aL (MK B n I L Q R) (B + (100 + 2 * l + 1)) (nI (u + c)) = some (lN (wN v c)) := by rw [a_longs hr (by omega), hva, ← hw]
    rw [fX9_isBalanced_L9, g_Wnow, ob1_some, g_size isN1, ob1_some, hM, if_neg (by rw [nI_leI (by omega) (by omega)]; omega), ob1_some, g_roads isN1, ob1_some, hq1, ob1_some, rd_to hvq.2, ob1_some, hd, bnd_eq]
    have hfr := hrd.2.2.2.2.2.1
    have hto := hrd.2.2.2.2.2.2
    have fin : ∀ z : Int32, Int32.toInt64 z = Int64.ofInt (sgN N t c) → (ob1 (aL (MK B n I L Q R) (B + (100 + 2 * l + 1)) (nI u + nI c)) fun v15 =>
        bnd (Int64.ofInt (hiZ N (wN v) t c) + ((Int32.toInt64 z) * (((Int64.toUInt64 v15) >>> (Int64.toUInt64 (Int32.toInt64 (32 : Int32)) &&& Int64.toUInt64 63)).toInt64))) fun y17 =>
        ob1 (aL (MK B n I L Q R) (B + (100 + 2 * l + 1)) (nI u + nI c)) fun v18 =>
        bnd (Int64.ofInt (loZ N (wN v) t c) + ((Int32.toInt64 z) * (v18 &&& (4294967295 : Int64)))) fun y20 =>
        bnd (nI c + (1 : Int32)) fun y21 =>
        fX9_isBalanced_L9 B (B + (100 + 2 * l + 1)) (nI u) (nI t) (MK B n I L Q R) k n1 y17 y20 y21) = k (Int64.ofInt (hiZ N (wN v) t (nM N))) (Int64.ofInt (loZ N (wN v) t (nM N))) := fun z hz => by
      rw [nI_add, hal, ob1_some, hi_u hwl, bnd_eq, ob1_some, hlo, bnd_eq, bnd_eq, nI_1, hz]
      exact h1
    show (if nI (dTo (nRd N c)) = nI t then _ else _) = _
    by_cases c1 : dTo (nRd N c) = t
    · rw [if_pos (by rw [c1])]
      exact fin 1 (by rw [sgN, if_pos c1]; rfl)
    · rw [if_neg (by rw [nI_eq (by omega) (by omega)]; exact c1), ob1_some, g_roads isN1, ob1_some, hq1, ob1_some, rd_from hvq.2, ob1_some, hd]
      show (if nI (dFrom (nRd N c)) = nI t then _ else _) = _
      by_cases c2 : dFrom (nRd N c) = t
      · rw [if_pos (by rw [c2])]
        exact fin (-1) (by rw [sgN, if_neg c1, if_pos c2]; rfl)
      · rw [if_neg (by rw [nI_eq (by omega) (by omega)]; exact c2)]
        exact fin 0 (by rw [sgN, if_neg c1, if_neg c2]; rfl)
theorem e_bal {B n : Nat} {I : Nat → Nat → Int32} {L : Nat → Nat → Int64} {Q : Nat → Nat → Option Nat} {R : Nat → RDt} {l u t : Nat} {N : NET} {v : Nat → Int64} {len : Nat} (hl : l < 4) (hN : NetIs B n I L Q R 1 N) (hO : NetOK N) (hm : nM N ≤ 12) (h24 : len ≤ 24) (hu : u + nM N ≤ len) (hv : ∀ r, r < nM N → L (100 + 2 * l + 1) (u + r) = v r) (h0 : ∀ r, r < nM N → 0 ≤ v r) (ht : t < 6) : (flowZ N (wN v) t (nM N) = (nDue N t : Int) → fX9_isBalanced B (B + (100 + 2 * l + 1)) (nI u) (nI t) (MK B n I L Q R) = some 1) ∧ (flowZ N (wN v) t (nM N) ≠ (nDue N t : Int) → fX9_isBalanced B (B + (100 + 2 * l + 1)) (nI u) (nI t) (MK B n I L Q R) = some 0) := by
  have hb := half_b N (wN v) t (fun r => wN_lt v r) (nM N)
  have hh := halves N (wN v) t (nM N)
  have hdue : nDue N t ≤ 36 := by
    have := sumN_le (f := fun c => if nC N c 0 = t then nC N c 1 else 0) (b := 12) 3 (fun j hj => by
      have := (hO.2.2.2.2 j hj).2.2.1
      by_cases e : nC N j 0 = t
      · simp only [if_pos e]; exact this
      · simp only [if_neg e]; exact Nat.zero_le _)
    exact this
  have run : fX9_isBalanced B (B + (100 + 2 * l + 1)) (nI u) (nI t) (MK B n I L Q R) = if flowZ N (wN v) t (nM N) = (nDue N t : Int) then some 1 else some 0 := by
    unfold fX9_isBalanced
    refine (e_bal_L9 hl hN hO hm h24 hu hv h0 ht _ (nM N) lf 0 (by omega) (by show _ < 1000; omega)).trans ?_
    generalize hiZ N (wN v) t (nM N) = a at hb hh
    generalize loZ N (wN v) t (nM N) = b at hb hh
    have i1 : (Int64.ofInt a).toInt = a := Int64.toInt_ofInt_of_le (by omega) (by omega)
    have i2 : (Int64.ofInt b).toInt = b := Int64.toInt_ofInt_of_le (by omega) (by omega)
    have i3 : (Int64.ofInt a + (Int64.ofInt b >>> (Int32.toInt64 (32 : Int32) &&& 63))).toInt = a + b / 4294967296 := by
      rw [Int64.toInt_add, i1, shr_32, i2]
      exact Int.bmod_eq_of_le (by omega) (by omega)
    have i4 := mod_32 (Int64.ofInt b)
    rw [i2] at i4
    rw [bnd_eq, g_Wnow, ob1_some, k_Net isN1, gd_true, e_driversTo isN1 hN hO (by omega), ob1_some, lo_a, nI_l (by omega)]
    by_cases c1 : a + b / 4294967296 = 0
    · rw [if_pos (by apply Int64.toInt_inj.mp; rw [i3]; exact c1)]
      by_cases c2 : (Int64.ofInt b).toUInt64.toNat % 4294967296 = nDue N t
      · rw [if_pos (by rw [c2]), if_pos (by omega)]
      · rw [if_neg (by rw [pk_lEQ (by omega) (by omega)]; exact c2), if_neg (by omega)]
    · rw [if_neg (fun e => c1 (by rw [← i3, e]; rfl)), if_neg (by omega)]
  exact ⟨fun e => by rw [run, if_pos e], fun e => by rw [run, if_neg e]⟩
theorem e_cons_L33 {B n : Nat} {I : Nat → Nat → Int32} {L : Nat → Nat → Int64} {Q : Nat → Nat → Option Nat} {R : Nat → RDt} {l u : Nat} {N : NET} {v : Nat → Int64} {len : Nat} (hl : l < 4) (hN : NetIs B n I L Q R 1 N) (hO : NetOK N) (hm : nM N ≤ 12) (h24 : len ≤ 24) (hu : u + nM N ≤ len) (hv : ∀ r, r < nM N → L (100 + 2 * l + 1) (u + r) = v r) (h0 : ∀ r, r < nM N → 0 ≤ v r) (k : Option Int32) :
    ∀ (m n' c : Nat), c + m = nT N → m < n' → ((∀ t, c ≤ t → t < nT N → flowZ N (wN v) t (nM N) = (nDue N t : Int)) → fX9_conserves_L33 B (B + (100 + 2 * l + 1)) (nI u) (MK B n I L Q R) k n' (nI c) = k) ∧ ((∃ t, c ≤ t ∧ t < nT N ∧ flowZ N (wN v) t (nM N) ≠ (nDue N t : Int)) → fX9_conserves_L33 B (B + (100 + 2 * l + 1)) (nI u) (MK B n I L Q R) k n' (nI c) = some 0) := by
  have hT := hN.1
  have h6 := hO.2.1
  intro m
  induction m with
  | zero =>
    intro n' c hc hn
    obtain ⟨n1, rfl⟩ := suc_of hn
    refine ⟨fun _ => ?_, fun ⟨t, h1, h2, _⟩ => by omega⟩
    rw [fX9_conserves_L33, g_Wnow, ob1_some, g_towns isN1, ob1_some, hT, if_pos (by rw [nI_leI (by omega) (by omega)]; omega)]
  | succ m ih =>
    intro n' c hc hn
    obtain ⟨n1, rfl⟩ := suc_of hn
    obtain ⟨i1, i2⟩ := ih n1 (c + 1) (by omega) (by omega)
    obtain ⟨b1, b2⟩ := e_bal (t := c) hl hN hO hm h24 hu hv h0 (by omega)
    rw [fX9_conserves_L33, g_Wnow, ob1_some, g_towns isN1, ob1_some, hT, if_neg (by rw [nI_leI (by omega) (by omega)]; omega)]
    by_cases e : flowZ N (wN v) c (nM N) = (nDue N c : Int)
    · rw [b1 e, ob1_some, if_neg (by decide), bnd_eq, nI_1]
      refine ⟨fun h => i1 fun t h1 h2 => h t (by omega) h2, fun ⟨t, h1, h2, h3⟩ => i2 ⟨t, ?_, h2, h3⟩⟩
      have : t ≠ c := fun q => h3 (by rw [q]; exact e)
      omega
    · rw [b2 e, ob1_some, if_pos rfl]
      exact ⟨fun h => absurd (h c (Nat.le_refl _) (by omega)) e, fun _ => rfl⟩
theorem e_cons_L2 {B n : Nat} {I : Nat → Nat → Int32} {L : Nat → Nat → Int64} {Q : Nat → Nat → Option Nat} {R : Nat → RDt} {l u : Nat} {N : NET} {v : Nat → Int64} {len : Nat} (hl : l < 4) (hN : NetIs B n I L Q R 1 N) (hm : nM N ≤ 12) (h24 : len ≤ 24) (hu : u + nM N ≤ len) (hv : ∀ r, r < nM N → L (100 + 2 * l + 1) (u + r) = v r) (k : Option Int32) :
    ∀ (m n' c : Nat), c + m = nM N → m < n' → ((∀ t, c ≤ t → t < nM N → 0 ≤ v t) → fX9_conserves_L2 B (B + (100 + 2 * l + 1)) (nI u) (MK B n I L Q R) k n' (nI c) = k) ∧ ((∃ t, c ≤ t ∧ t < nM N ∧ ¬ 0 ≤ v t) → fX9_conserves_L2 B (B + (100 + 2 * l + 1)) (nI u) (MK B n I L Q R) k n' (nI c) = some 0) := by
  have hM := hN.2.1
  have hr := isRl hl
  intro m
  induction m with
  | zero =>
    intro n' c hc hn
    obtain ⟨n1, rfl⟩ := suc_of hn
    refine ⟨fun _ => ?_, fun ⟨t, h1, h2, _⟩ => by omega⟩
    rw [fX9_conserves_L2, g_Wnow, ob1_some, g_size isN1, ob1_some, hM, if_pos (by rw [nI_leI (by omega) (by omega)]; omega)]
  | succ m ih =>
    intro n' c hc hn
    obtain ⟨n1, rfl⟩ := suc_of hn
    obtain ⟨i1, i2⟩ := ih n1 (c + 1) (by omega) (by omega)
    rw [fX9_conserves_L2, g_Wnow, ob1_some, g_size isN1, ob1_some, hM, if_neg (by rw [nI_leI (by omega) (by omega)]; omega), nI_add, a_longs hr (by omega), ob1_some, hv c (by omega)]
    by_cases e : 0 ≤ v c
    · rw [if_pos e, bnd_eq, nI_1]
      refine ⟨fun h => i1 fun t h1 h2 => h t (by omega) h2, fun ⟨t, h1, h2, h3⟩ => i2 ⟨t, ?_, h2, h3⟩⟩
      have : t ≠ c := fun q => h3 (by rw [q]; exact e)
      omega
    · rw [if_neg e]
      exact ⟨fun h => absurd (h c (Nat.le_refl _) (by omega)) e, fun _ => rfl⟩
theorem e_conserves {B n : Nat} {I : Nat → Nat → Int32} {L : Nat → Nat → Int64} {Q : Nat → Nat → Option Nat} {R : Nat → RDt} {l u : Nat} {N : NET} {v : Nat → Int64} {len : Nat} (hl : l < 4) (hN : NetIs B n I L Q R 1 N) (hO : NetOK N) (hm : nM N ≤ 12) (h24 : len ≤ 24) (hu : u + nM N ≤ len) (hv : ∀ r, r < nM N → L (100 + 2 * l + 1) (u + r) = v r) : fX9_conserves B (B + (100 + 2 * l + 1)) (nI u) (MK B n I L Q R) = some (bz (consB N v)) := by
  have h6 := hO.2.1
  have h2 := hO.1
  unfold fX9_conserves
  obtain ⟨a1, a2⟩ := e_cons_L2 (v := v) hl hN hm h24 hu hv (fX9_conserves_L33 B (B + (100 + 2 * l + 1)) (nI u) (MK B n I L Q R) (some (1 : Int32)) lf (1 : Int32)) (nM N) lf 0 (by omega) (by show _ < 1000; omega)
  by_cases c0 : ∀ r, r < nM N → 0 ≤ v r
  · refine (a1 fun t _ h => c0 t h).trans ?_
    obtain ⟨b1, b2⟩ := e_cons_L33 (v := v) hl hN hO hm h24 hu hv c0 (some (1 : Int32)) (nT N - 1) lf 1 (by omega) (by show _ < 1000; omega)
    by_cases c1 : ∀ t, 1 ≤ t → t < nT N → flowZ N (wN v) t (nM N) = (nDue N t : Int)
    · refine (b1 c1).trans ?_
      rw [consB_t ⟨c0, c1⟩]
      rfl
    · refine (b2 ?_).trans ?_
      · refine Classical.byContradiction fun q => c1 fun t h1 h2 => Classical.byContradiction fun q2 => q ⟨t, h1, h2, q2⟩
      · rw [consB_f fun h => c1 h.2]
        rfl
  · refine (a2 ?_).trans ?_
    · refine Classical.byContradiction fun q => c0 fun t h1 => Classical.byContradiction fun q2 => q ⟨t, Nat.zero_le _, h1, q2⟩
    · rw [consB_f fun h => c0 h.1]
      rfl
/-! told loads are taken -/
def bigB (N : NET) (v : Nat → Int64) : Bool := decide (∃ r, r < nM N ∧ 36 < wN v r)
theorem e_take_L2 {B n : Nat} {Ia : Nat → Nat → Int32} {L : Nat → Nat → Int64} {Q : Nat → Nat → Option Nat} {R : Nat → RDt} {l u : Nat} {N : NET} {v : Nat → Int64} {len : Nat} (hl : l < 4) (hM : Ia 1 1 = nI (nM N)) (hm : nM N ≤ 12) (h24 : len ≤ 24) (hu : u + nM N ≤ len) (hv : ∀ r, r < nM N → L (100 + 2 * l + 1) (u + r) = v r) (h0 : ∀ r, r < nM N → 0 ≤ v r) (k : AH → Option (Int32 × AH)) :
    ∀ (m n' c : Nat) (I : Nat → Nat → Int32), c + m = nM N → m < n' → (∀ a, a ≠ 62 → I a = Ia a) → (∀ r, r < c → I 62 r = nI (wN v r)) →
    ∃ I' : Nat → Nat → Int32, (∀ a, a ≠ 62 → I' a = Ia a) ∧ ((∀ r, c ≤ r → r < nM N → wN v r ≤ 36) → fX9_takeTold_L2 B (B + (100 + 2 * l + 1)) (nI u) k n' (nI c) (MK B n I L Q R) = k (MK B n I' L Q R) ∧ ∀ r, r < nM N → I' 62 r = nI (wN v r)) ∧ ((∃ r, c ≤ r ∧ r < nM N ∧ 36 < wN v r) → fX9_takeTold_L2 B (B + (100 + 2 * l + 1)) (nI u) k n' (nI c) (MK B n I L Q R) = some (0, MK B n I' L Q R)) := by
  have hr := isRl hl
  intro m
  induction m with
  | zero =>
    intro n' c I hc hn hF hV
    obtain ⟨n1, rfl⟩ := suc_of hn
    refine ⟨I, hF, fun _ => ⟨?_, fun r h => hV r (by omega)⟩, fun ⟨t, h1, h2, _⟩ => by omega⟩
    rw [fX9_takeTold_L2, g_Wnow, ob1_some, g_size isN1, ob1_some, hF 1 (by decide), hM, if_pos (by rw [nI_leI (by omega) (by omega)]; omega)]
  | succ m ih =>
    intro n' c I hc hn hF hV
    obtain ⟨n1, rfl⟩ := suc_of hn
    have hw := wN_is (h0 c (by omega))
    have hwl := wN_lt v c
    have hal : aL (MK B n I L Q R) (B + (100 + 2 * l + 1)) (nI (u + c)) = some (lN (wN v c)) := by rw [a_longs hr (by omega), hv c (by omega), ← hw]
    rw [fX9_takeTold_L2, g_Wnow, ob1_some, g_size isN1, ob1_some, hF 1 (by decide), hM, if_neg (by rw [nI_leI (by omega) (by omega)]; omega), nI_add, hal, ob1_some, show (36 : Int64) = lN 36 from rfl]
    by_cases e : wN v c ≤ 36
    · obtain ⟨I', r1, r2, r3⟩ := ih n1 (c + 1) (u2 I 62 c (nI (wN v c))) (by omega) (by omega) (fun a ha => by rw [u2_nk ha]; exact hF a ha) (fun r h => by
        by_cases q : r = c
        · rw [q, u2_eq]
        · rw [u2_ne (Or.inr q)]; exact hV r (by omega))
      have hti : Int64.toInt32 (lN (wN v c)) = nI (wN v c) := by
        apply Int32.toInt_inj.mp
        rw [Int64.toInt_toInt32, pk_lT (by omega), nI_toInt (by omega)]
        exact Int.bmod_eq_of_le (by omega) (by omega)
      rw [if_pos (by rw [pk_lLE (by omega) (by omega)]; exact e), g_WtoldLoads, ob1_some, ob1_some, hti, s_told (by omega), ob1_some, bnd_eq, nI_1]
      refine ⟨I', r1, fun h => r2 fun r h1 h2 => h r (by omega) h2, fun ⟨r, h1, h2, h3⟩ => r3 ⟨r, ?_, h2, h3⟩⟩
      have : r ≠ c := fun q => by rw [q] at h3; omega
      omega
    · rw [if_neg (by rw [pk_lLE (by omega) (by omega)]; exact e)]
      exact ⟨I, hF, fun h => absurd (h c (Nat.le_refl _) (by omega)) e, fun _ => rfl⟩
theorem nI_subLe {u a b : Nat} (hu : u < 2147483648) (ha : a < 2147483648) (hb : b < 2147483648) : (nI u ≤ nI a - nI b) = (u + b ≤ a) := by
  have e : (nI a - nI b).toInt = (a : Int) - (b : Int) := by
    rw [Int32.toInt_sub, nI_toInt ha, nI_toInt hb]
    exact Int.bmod_eq_of_le (by omega) (by omega)
  rw [Int32.le_iff_toInt_le, e, nI_toInt hu]
  exact propext ⟨fun h => by omega, fun h => by omega⟩
noncomputable def judgeN (N : NET) (v : Nat → Int64) : Int32 := if consB N v = true then (if bigB N v = true then -6 else if (totN N (wN v) (nM N)).2 = true then -6 else if canAll N (rowsN N) = true then (if (totN N (flAll N 3) (nM N)).2 = true then -6 else if (totN N (wN v) (nM N)).1 = (totN N (flAll N 3) (nM N)).1 then 2 else 1) else 1) else 0
noncomputable def A_judge (s : STT) (x f : Int32) : Int32 := match ix x 4 with
  | some l => (match stL s l with
    | some q => (match px f with
      | some u => if u + nM (stN s) ≤ q.1 then judgeN (stN s) (fun r => q.2 (u + r)) else -13
      | none => -13)
    | none => -11)
  | none => -1
theorem tot_fold (N : NET) (ld : Nat → Nat) : ∀ m, totN N ld m = foldS ld (fun r => rCost (nRd N r) (ld r)) m
  | 0 => rfl
  | m + 1 => by
    rw [totN, tot_fold N ld m]
    rfl
theorem totN_le (N : NET) (ld : Nat → Nat) (m : Nat) : (totN N ld m).1 ≤ mxL := by
  rw [tot_fold]
  exact foldS_le _ _ m
theorem c_judge {B n : Nat} {I : Nat → Nat → Int32} {L : Nat → Nat → Int64} {Q : Nat → Nat → Option Nat} {R : Nat → RDt} {s : STT} (h : IsC B n I L Q R s) (x f : Int32) : RunC B I L (fX9_judge B x f (MK B n I L Q R)) (A_judge s x f, s) := by
  obtain ⟨fp, fs, fc, h0⟩ := id h
  have hN := h0.1.2.1
  have hO := h0.1.2.2.1
  have hm12 := h0.1.2.2.2.1
  unfold A_judge fX9_judge
  rw [ix4, ob1_some]
  rcases ix_cases x (m := 4) (by decide) with ⟨l, h1, rfl, h3⟩ | ⟨h1, h2⟩
  · rw [h3, if_neg (bS l)]
    dsimp only
    have hr := isRl h1
    have hL := h0.1.2.2.2.2.2.2.2 l h1
    rw [g_Wrows, ob1_some, r_rows h1, ob1_some, k_Row hr, gd_true, e_lmiss h1 hL, ob1_some]
    cases hq : stL s l with
    | none => exact RunC.same h rfl
    | some q =>
      rw [hq] at hL
      obtain ⟨l1, l2, l3⟩ := id hL
      rw [if_pos (by rfl)]
      dsimp only
      rcases px_cases f with ⟨f1, f2⟩ | ⟨u, u1, rfl, u3⟩
      · rw [f2, if_pos f1]
        exact RunC.same h rfl
      · rw [u3, if_neg (nI_pos (by omega)), g_rowsize hr, ob1_some, g_Wnow, ob1_some, g_size isN1, ob1_some, l1, hN.2.1]
        dsimp only
        by_cases c : u + nM (stN s) ≤ q.1
        · have hv : ∀ r, r < nM (stN s) → L (100 + 2 * l + 1) (u + r) = (fun r => q.2 (u + r)) r := fun r hr2 => l3 _ (by omega)
          rw [if_pos (by rw [nI_subLe (by omega) (by omega) (by omega)]; exact c), if_pos c, g_longs hr, ob1_some, e_conserves h1 hN hO hm12 l2 c hv, ob1_some]
          unfold judgeN
          cases hcb : consB (stN s) (fun r => q.2 (u + r)) with
          | false => exact RunC.same h rfl
          | true =>
            have hcp := consB_is hcb
            rw [if_neg (by decide), if_pos rfl, ob1_some]
            unfold fX9_takeTold
            obtain ⟨I1, v1, v2, v3⟩ := e_take_L2 (Ia := I) (L := L) (Q := Q) (R := R) (B := B) (n := n) (v := fun r => q.2 (u + r)) h1 hN.2.1 hm12 l2 c hv hcp.1 (fun (g16 : AH) => some ((1 : Int32), g16)) (nM (stN s)) lf 0 I (by omega) (by show _ < 1000; omega) (fun _ _ => rfl) (fun r h => absurd h (Nat.not_lt_zero r))
            have hR1 : RepC B n I1 L Q R s fp fs fc := h0.u63 (fun a a1 a2 => v1 a a1) (fun _ _ => rfl)
            by_cases cb : ∃ r, r < nM (stN s) ∧ 36 < wN (fun r => q.2 (u + r)) r
            · rw [show bigB (stN s) (fun r => q.2 (u + r)) = true from decide_eq_true cb, if_pos rfl]
              obtain ⟨r, r1, r2⟩ := cb
              refine RunC.rep hR1 (fun a ha => ⟨v1 a (by omega), rfl⟩) ?_
              have e : fX9_takeTold_L2 B (B + (100 + 2 * l + 1)) (nI u) (fun (g16 : AH) => some ((1 : Int32), g16)) lf 0 (MK B n I L Q R) = some (0, MK B n I1 L Q R) := v3 ⟨r, Nat.zero_le _, r1, r2⟩
              rw [e, ob2_some, if_pos rfl]
            · rw [show bigB (stN s) (fun r => q.2 (u + r)) = false from decide_eq_false cb, if_neg (by decide)]
              have hsm : ∀ r, r < nM (stN s) → wN (fun r => q.2 (u + r)) r ≤ 36 := fun r hr2 => Nat.le_of_not_lt fun g => cb ⟨r, hr2, g⟩
              obtain ⟨e, v5⟩ := v2 fun r _ hr2 => hsm r hr2
              have e : fX9_takeTold_L2 B (B + (100 + 2 * l + 1)) (nI u) (fun (g16 : AH) => some ((1 : Int32), g16)) lf 0 (MK B n I L Q R) = some (1, MK B n I1 L Q R) := e
              obtain ⟨I2, L2, w1, w2, w3, w4⟩ := e_addUp (ld := wN (fun r => q.2 (u + r))) isU63 isN1 hR1.1.2.1 hO (show (celf B)[62]? = some (fun I _ _ => .inl (0, 13, .inl I)) from rfl) (by decide) v5 hsm
              have hR2 : RepC B n I2 L2 Q R s fp fs fc := hR1.u63 (fun a a1 a2 => w2 a a2) w3
              have hfr : ∀ a, 108 ≤ a → I2 a = I a ∧ L2 a = L a := fun a ha => ⟨by rw [w2 a (by omega), v1 a (by omega)], w3 a (by omega)⟩
              obtain ⟨y1, y2, y3⟩ := id w4
              rw [e, ob2_some, if_neg (by decide), g_Wnow, ob1_some, g_WtoldLoads, ob1_some, g_Wsum, ob1_some, k_Net isN1, gd_true, w1, ob1_some, g_Wsum, ob1_some, g_isOver isU63, ob1_some, y2]
              cases ho : (totN (stN s) (wN fun r => q.2 (u + r)) (nM (stN s))).2 with
              | true => exact RunC.rep hR2 hfr rfl
              | false =>
                rw [if_pos (by decide), if_neg (by decide)]
                obtain ⟨I3, z1, z2, z5⟩ := e_freshPaths hR2
                have hfr3 : ∀ a, 108 ≤ a → I3 a = I a ∧ L2 a = L a := fun a ha => ⟨by rw [z5 a (by omega), (hfr a ha).1], (hfr a ha).2⟩
                rw [g_Wnow, ob1_some, z1, ob2_some, e_canNow z2, ob1_some]
                cases hc : canAll (stN s) (rowsN (stN s)) with
                | false => exact RunC.rep z2 hfr3 rfl
                | true =>
                  obtain ⟨I4, L4, fs4, fc4, b1, b2, b3, b4, b5, b6⟩ := e_bestOrNoX z2
                  have hfr4 : ∀ a, 108 ≤ a → I4 a = I a ∧ L4 a = L a := fun a ha => ⟨by rw [(b5 a (by omega)).1, (hfr3 a ha).1], by rw [(b5 a (by omega)).2, (hfr3 a ha).2]⟩
                  have y1' : L4 63 0 = lN (totN (stN s) (wN fun r => q.2 (u + r)) (nM (stN s))).1 := by rw [(b6 63 (by decide) (by decide)).2]; exact y1
                  have hmx := mxL_eq
                  have y3' : (totN (stN s) (wN fun r => q.2 (u + r)) (nM (stN s))).1 ≤ mxL := y3
                  have hb : (totN (stN s) (flAll (stN s) 3) (nM (stN s))).1 ≤ mxL := totN_le _ _ _
                  rw [if_neg (by decide), if_pos rfl, b1, ob2_some, NO_lit]
                  unfold bestA totA
                  rw [hc, if_pos rfl]
                  cases hbo : (totN (stN s) (flAll (stN s) 3) (nM (stN s))).2 with
                  | true =>
                    rw [if_pos rfl, if_pos rfl]
                    exact RunC.rep b2 hfr4 rfl
                  | false =>
                    simp only [Bool.false_eq_true, ↓reduceIte]
                    rw [if_neg (by rw [lN_NO (by omega)]; exact id), g_Wsum, ob1_some, g_value isU63, ob1_some, y1']
                    by_cases g : (totN (stN s) (wN fun r => q.2 (u + r)) (nM (stN s))).1 = (totN (stN s) (flAll (stN s) 3) (nM (stN s))).1
                    · rw [if_pos g, if_pos (by rw [g])]
                      exact RunC.rep b2 hfr4 rfl
                    · rw [if_neg g, if_neg (by rw [pk_lEQ (by omega) (by omega)]; exact g)]
                      exact RunC.rep b2 hfr4 rfl
        · rw [if_neg (by rw [nI_subLe (by omega) (by omega) (by omega)]; exact c), if_neg c]
          exact RunC.same h rfl
  · rw [h1, if_pos bN]
    exact RunC.same h rfl
