-- numbers
theorem l0 : (0 : Int32) = nI 0 := rfl
theorem l1 : (1 : Int32) = nI 1 := rfl
theorem l2 : (2 : Int32) = nI 2 := rfl
theorem l3 : (3 : Int32) = nI 3 := rfl
theorem l4 : (4 : Int32) = nI 4 := rfl
theorem l5 : (5 : Int32) = nI 5 := rfl
theorem l6 : (6 : Int32) = nI 6 := rfl
theorem l12 : (12 : Int32) = nI 12 := rfl
theorem l13 : (13 : Int32) = nI 13 := rfl
theorem l20 : (20 : Int32) = nI 20 := rfl
theorem l24 : (24 : Int32) = nI 24 := rfl
theorem l36 : (36 : Int32) = nI 36 := rfl
theorem l100 : (100 : Int32) = nI 100 := rfl
theorem l118 : (118 : Int32) = nI 118 := rfl
theorem l211 : (211 : Int32) = nI 211 := rfl
theorem litL (n : Nat) : (OfNat.ofNat n : Int64) = lN n := rfl
theorem litI (n : Nat) : (OfNat.ofNat n : Int32) = nI n := rfl
theorem L0 : (0 : Int64) = lN 0 := rfl
theorem L1 : (1 : Int64) = lN 1 := rfl
theorem L2 : (2 : Int64) = lN 2 := rfl
def m1 : Int32 := -1
theorem m1_lit : (-1 : Int32) = m1 := rfl
theorem m1_lt {a : Nat} (h : a < 2147483648) : (m1 < nI a) = True := by
  refine eq_true ?_
  rw [Int32.lt_iff_toInt_lt, nI_toInt (by omega)]
  show (-1 : Int) < a
  omega
theorem m1_le {a : Nat} (h : a < 2147483648) : (m1 ≤ nI a) = True := by
  refine eq_true ?_
  rw [Int32.le_iff_toInt_le, nI_toInt (by omega)]
  show (-1 : Int) ≤ a
  omega
theorem le_m1 {a : Nat} (h : a < 2147483648) : (nI a ≤ m1) = False := by
  refine eq_false ?_
  rw [Int32.le_iff_toInt_le, nI_toInt (by omega)]
  show ¬ (a : Int) ≤ -1
  omega
theorem lt_m1 {a : Nat} (h : a < 2147483648) : (nI a < m1) = False := by
  refine eq_false ?_
  rw [Int32.lt_iff_toInt_lt, nI_toInt (by omega)]
  show ¬ (a : Int) < -1
  omega
theorem eq_m1 {a : Nat} (h : a < 2147483648) : (nI a = m1) = False := by
  refine eq_false fun e => ?_
  have := congrArg Int32.toInt e
  rw [nI_toInt (by omega)] at this
  have h2 : (m1.toInt : Int) = -1 := rfl
  omega
theorem m1_eq {a : Nat} (h : a < 2147483648) : (m1 = nI a) = False := by
  have h2 : ¬ nI a = m1 := by rw [eq_m1 h]; exact fun x => x
  exact eq_false fun e => h2 e.symm
theorem m1_neg : (m1 < nI 0) = True := eq_true (by decide)
-- bits: a set of roads as a number
theorem bitI {b r : Nat} (hb : b < 2147483648) (hr : r < 31) : (nI b >>> (nI r &&& 31)) &&& nI 1 = nI (b / 2 ^ r % 2) := by
  have e1 : ∀ r : Fin 31, (nI r.val &&& 31) = nI r.val := by decide
  have e2 : ∀ r : Fin 31, ((nI r.val).toBitVec.smod 32).toNat = r.val := by decide
  have h1 := e1 ⟨r, hr⟩
  have h2 := e2 ⟨r, hr⟩
  simp only at h1 h2
  rw [h1, pk_shrN (by omega) (nI r) r h2]
  have hq : b / 2 ^ r < 2 ^ 32 := Nat.lt_of_le_of_lt (Nat.div_le_self _ _) (by omega)
  rw [pk_andN hq 1 (by decide)]
theorem shlI {r : Nat} (hr : r < 31) : nI 1 <<< (nI r &&& 31) = nI (2 ^ r) := by
  have e1 : ∀ r : Fin 31, nI 1 <<< (nI r.val &&& 31) = nI (2 ^ r.val) := by decide
  exact e1 ⟨r, hr⟩
theorem nI_or (a b : Nat) : nI a ||| nI b = nI (a ||| b) := by
  unfold nI
  rw [← Int32.toBitVec_inj]
  simp [Int32.toBitVec_or, Int32.toBitVec_ofNat', BitVec.ofNat_or]
def bitz (b r : Nat) : Bool := b.testBit r
theorem bit_if {b r : Nat} (hb : b < 2147483648) (hr : r < 31) : ((nI b >>> (nI r &&& 31)) &&& nI 1 = nI 1) = (b.testBit r = true) := by
  rw [bitI hb hr]
  have h : b / 2 ^ r % 2 < 2 := Nat.mod_lt _ (by decide)
  rw [Nat.testBit_eq_decide_div_mod_eq]
  rw [nI_eq (by omega) (by omega)]
  simp
