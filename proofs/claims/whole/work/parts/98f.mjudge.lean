/-! told loads, judged by the model -/
theorem lZ_mul (a b : Int) : lZ a * lZ b = lZ (a * b) := (Int64.ofInt_mul a b).symm
theorem lZ_inj {a b : Int} (h1 : -9000000000000000000 ≤ a) (h2 : a ≤ 9000000000000000000) (h3 : -9000000000000000000 ≤ b) (h4 : b ≤ 9000000000000000000) : (lZ a = lZ b) = (a = b) := by
  refine propext ⟨fun h => ?_, fun h => by rw [h]⟩
  rw [← lZ_T h1 h2, ← lZ_T h3 h4, h]
theorem hi_l {w : Nat} (h : w < 9223372036854775808) : lN w >>> (Int32.toInt64 (32 : Int32) &&& 63) = lZ ((w / 4294967296 : Nat) : Int) := by
  apply Int64.toInt_inj.mp
  rw [shr_32, pk_lT (by omega), lZ_T (by omega) (by omega)]
  omega
theorem lo_l {w : Nat} (h : w < 9223372036854775808) : lN w &&& (4294967295 : Int64) = lZ ((w % 4294967296 : Nat) : Int) := by
  rw [lo_a, u64_lN (by omega), lZ_nat]
/-- what the model reads of a told row -/
def TolM (L : Nat → Nat → Int64) (p : Nat) (v : Nat → Int64) (m : Nat) : Prop := p + m ≤ 96 ∧ ∀ r, r < m → L 127 (p + r) = v r
theorem m_due_L8 {B n : Nat} {I : Nat → Nat → Int32} {L : Nat → Nat → Int64} {Q : Nat → Nat → Option Nat} {R : Nat → RDt} {N : NET} {v : Nat → Int64} {p t : Nat} (hM : MNet L 109 N) (hO : NetOK N) (hT : TolM L p v (nM N)) (h0 : ∀ r, r < nM N → 0 ≤ v r) (ht : t < 100) (k : Int64 → Int64 → Option Int32) : ∀ (f n' r : Nat), r + f = nM N → f < n' → fX10_areDue_L8 (B + 108) (nI t) (nI p) (MK B n I L Q R) k n' (lZ (hiZ N (wN v) t r)) (lZ (loZ N (wN v) t r)) (nI r) = k (lZ (hiZ N (wN v) t (nM N))) (lZ (loZ N (wN v) t (nM N))) := by
  have h13 := hO.2.2.1
  intro f
  induction f with
  | zero =>
    intro n' r hr hn
    obtain ⟨n1, rfl⟩ := suc_of hn
    rw [fX10_areDue_L8, m_roadMany hM h13, ob1_some, if_pos (by rw [nI_leI (by omega) (by omega)]; omega), show r = nM N by omega]
  | succ f ih =>
    intro n' r hr hn
    obtain ⟨n1, rfl⟩ := suc_of hn
    have hr1 : r < nM N := by omega
    obtain ⟨⟨k1, k2, k3, k4, k5, k6, k7⟩, _⟩ := hO.2.2.2.1 r hr1
    have o0 : fX10_ofRoad (B + 108) (nI r) 0 (MK B n I L Q R) = some (lN (dFrom (nRd N r))) := m_ofRoad hM h13 hr1 (by decide : 0 < 8)
    have o1 : fX10_ofRoad (B + 108) (nI r) 1 (MK B n I L Q R) = some (lN (dTo (nRd N r))) := m_ofRoad hM h13 hr1 (by decide : 1 < 8)
    have hw := wN_lt v r
    have hv : L 127 (p + r) = lN (wN v r) := by rw [hT.2 r hr1]; exact wN_is (h0 r hr1)
    have hp := hT.1
    have e2 : hiZ N (wN v) t (r + 1) = hiZ N (wN v) t r + sgN N t r * ((wN v r / 4294967296 : Nat) : Int) := rfl
    have e3 : loZ N (wN v) t (r + 1) = loZ N (wN v) t r + sgN N t r * ((wN v r % 4294967296 : Nat) : Int) := rfl
    have := ih n1 (r + 1) (by omega) (by omega)
    rw [e2, e3] at this
    have step : ∀ sg : Int, sgN N t r = sg → fX10_areDue_L8 (B + 108) (nI t) (nI p) (MK B n I L Q R) k n1 (lZ (hiZ N (wN v) t r) + lZ sg * lZ ((wN v r / 4294967296 : Nat) : Int)) (lZ (loZ N (wN v) t r) + lZ sg * lZ ((wN v r % 4294967296 : Nat) : Int)) (nI (r + 1)) = k (lZ (hiZ N (wN v) t (nM N))) (lZ (loZ N (wN v) t (nM N))) := fun sg hs => by
      rw [hs] at this
      rw [lZ_mul, lZ_mul, lZ_add, lZ_add]
      exact this
    rw [fX10_areDue_L8, m_roadMany hM h13, ob1_some, if_neg (by rw [nI_leI (by omega) (by omega)]; omega), g_Mlists, ob1_some, nI_add, a_Mlists (by omega), ob1_some, hv, hi_l hw, lo_l hw, o1, ob1_some, nI_l (by omega)]
    simp only [bnd_eq, nI_1]
    by_cases c1 : dTo (nRd N r) = t
    · rw [if_pos (by rw [c1])]
      exact step 1 (if_pos c1)
    · rw [if_neg (by rw [l_inj (by omega) (by omega)]; exact c1), o0, ob1_some]
      by_cases c2 : dFrom (nRd N r) = t
      · have em : (-1 : Int64) = lZ (-1) := by decide
        rw [if_pos (by rw [c2]), em]
        exact step (-1) (by unfold sgN; rw [if_neg c1, if_pos c2])
      · rw [if_neg (by rw [l_inj (by omega) (by omega)]; exact c2)]
        exact step 0 (by unfold sgN; rw [if_neg c1, if_neg c2])
theorem m_due_L101 {B n : Nat} {I : Nat → Nat → Int32} {L : Nat → Nat → Int64} {Q : Nat → Nat → Option Nat} {R : Nat → RDt} {N : NET} {t : Nat} {lo : Int} {x3 : Int64} (hM : MNet L 109 N) (hO : NetOK N) (ht : t < 100) (k : Int64 → Option Int32) : ∀ (f n' c : Nat), c + f = 3 → f < n' → fX10_areDue_L101 (B + 108) (nI t) x3 (MK B n I L Q R) k n' (lZ (lo - (sumN c fun c => if nC N c 0 = t then nC N c 1 else 0 : Nat))) (nI c) = k (lZ (lo - (nDue N t : Nat))) := by
  intro f
  induction f with
  | zero =>
    intro n' c hc hn
    obtain ⟨n1, rfl⟩ := suc_of hn
    rw [fX10_areDue_L101, if_pos (by rw [l3, nI_leI (by omega) (by omega)]; omega), show c = 3 by omega]
    rfl
  | succ f ih =>
    intro n' c hc hn
    obtain ⟨n1, rfl⟩ := suc_of hn
    have hc3 : c < 3 := by omega
    have hcb := hO.2.2.2.2 c hc3
    unfold CrN at hcb
    have f0 : fX10_ofClass (B + 108) (nI c) 0 (MK B n I L Q R) = some (lN (nC N c 0)) := m_ofClass hM hc3 (by decide : 0 < 4)
    have f1 : fX10_ofClass (B + 108) (nI c) 1 (MK B n I L Q R) = some (lN (nC N c 1)) := m_ofClass hM hc3 (by decide : 1 < 4)
    have := ih n1 (c + 1) (by omega) (by omega)
    rw [sumN] at this
    rw [fX10_areDue_L101, if_neg (by rw [l3, nI_leI (by omega) (by omega)]; omega), f0, ob1_some, nI_l (by omega)]
    simp only [bnd_eq, nI_1]
    by_cases e : nC N c 0 = t
    · rw [if_pos e] at this
      rw [if_pos (by rw [e]), f1, ob1_some, lZ_nat (nC N c 1), lZ_sub]
      rw [show lo - ((sumN c fun c => if nC N c 0 = t then nC N c 1 else 0 : Nat) : Int) - (nC N c 1 : Int) = lo - ((sumN c (fun c => if nC N c 0 = t then nC N c 1 else 0) + nC N c 1 : Nat) : Int) by omega]
      exact this
    · rw [if_neg e] at this
      rw [if_neg (by rw [l_inj (by omega) (by omega)]; exact e), Int64.sub_zero]
      exact this
theorem m_areDue {B n : Nat} {I : Nat → Nat → Int32} {L : Nat → Nat → Int64} {Q : Nat → Nat → Option Nat} {R : Nat → RDt} {N : NET} {v : Nat → Int64} {p t : Nat} (hM : MNet L 109 N) (hO : NetOK N) (hT : TolM L p v (nM N)) (h0 : ∀ r, r < nM N → 0 ≤ v r) (ht : t < 100) : fX10_areDue (B + 108) (nI t) (nI p) (MK B n I L Q R) = some (bz (decide (flowZ N (wN v) t (nM N) = (nDue N t : Int)))) := by
  have h13 := hO.2.2.1
  have h1 := m_due_L8 (B := B) (n := n) (I := I) (Q := Q) (R := R) hM hO hT h0 ht (fun (y19 : Int64) (y20 : Int64) =>
    fX10_areDue_L101 (B + 108) (nI t) y19 (MK B n I L Q R) (fun (y31 : Int64) =>
      if (y31 - y31 / (4294967296 : Int64) * (4294967296 : Int64)) = (0 : Int64) then
        if y19 = (-(y31 / (4294967296 : Int64))) then
          some (1 : Int32)
        else
          some (0 : Int32)
      else
        some (0 : Int32)
    ) lf y20 (0 : Int32)) (nM N) lf 0 (by omega) (by show _ < 1000; omega)
  refine h1.trans ?_
  have h2 := m_due_L101 (B := B) (n := n) (I := I) (Q := Q) (R := R) (lo := loZ N (wN v) t (nM N)) (x3 := lZ (hiZ N (wN v) t (nM N))) hM hO ht (fun (y31 : Int64) =>
      if (y31 - y31 / (4294967296 : Int64) * (4294967296 : Int64)) = (0 : Int64) then
        if lZ (hiZ N (wN v) t (nM N)) = (-(y31 / (4294967296 : Int64))) then
          some (1 : Int32)
        else
          some (0 : Int32)
      else
        some (0 : Int32)) 3 lf 0 (by omega) (by decide)
  have e0 : loZ N (wN v) t (nM N) - ((sumN 0 fun c => if nC N c 0 = t then nC N c 1 else 0 : Nat) : Int) = loZ N (wN v) t (nM N) := by
    show _ - ((0 : Nat) : Int) = _
    omega
  rw [e0] at h2
  refine h2.trans ?_
  obtain ⟨⟨b1, b2⟩, b3, b4⟩ := half_b N (wN v) t (wN_lt v) (nM N)
  have hf := halves N (wN v) t (nM N)
  have hdue : nDue N t ≤ 36 := by
    have := du_le (N := N) t 3
    have := nD_le hO 3 (by omega)
    have : nDue N t = duN N t 3 := rfl
    omega
  generalize hiZ N (wN v) t (nM N) = hi at *
  generalize hz : loZ N (wN v) t (nM N) - ((nDue N t : Nat) : Int) = z
  have hzb : -60000000000 ≤ z ∧ z ≤ 60000000000 := by omega
  have hp : (4294967296 : Int64) = lZ 4294967296 := rfl
  have hdiv : lZ z / (4294967296 : Int64) = lZ (z.tdiv 4294967296) := by
    rw [hp]
    exact (Int64.ofInt_tdiv (by show (-9223372036854775808 : Int) ≤ z; omega) (by show z ≤ (9223372036854775807 : Int); omega) (by show (-9223372036854775808 : Int) ≤ _; omega) (by show _ ≤ (9223372036854775807 : Int); omega)).symm
  have hneg : ∀ a : Int, -lZ a = lZ (-a) := fun a => (Int64.ofInt_neg a).symm
  have hmulc := Int.mul_tdiv_cancel (-hi) (show (4294967296 : Int) ≠ 0 by decide)
  have hq : ∀ q : Int, z.tdiv 4294967296 = q → -20 ≤ q ∧ q ≤ 20 := fun q hq => by
    have e3 : q.natAbs = z.natAbs / 4294967296 := by
      rw [← hq]
      exact Int.natAbs_tdiv z 4294967296
    omega
  rw [hdiv, hneg, hp, lZ_mul, lZ_sub, show (0 : Int64) = lZ 0 from rfl]
  obtain ⟨q, hqq⟩ : ∃ q, z.tdiv 4294967296 = q := ⟨_, rfl⟩
  have hqb := hq q hqq
  have z1 : (lZ (z - q * 4294967296) = lZ 0) = (z - q * 4294967296 = 0) := lZ_inj (by omega) (by omega) (by omega) (by omega)
  have z2 : (lZ hi = lZ (-q)) = (hi = -q) := lZ_inj (by omega) (by omega) (by omega) (by omega)
  rw [hqq]
  by_cases c : flowZ N (wN v) t (nM N) = (nDue N t : Int)
  · have hzz : z = -hi * 4294967296 := by omega
    have hqh : q = -hi := by rw [← hqq, hzz]; exact hmulc
    rw [if_pos (by rw [z1]; omega), if_pos (by rw [z2]; omega), decide_eq_true c]
    rfl
  · rw [decide_eq_false c]
    by_cases c1 : z - q * 4294967296 = 0
    · rw [if_pos (by rw [z1]; exact c1), if_neg (by rw [z2]; omega)]
      rfl
    · rw [if_neg (by rw [z1]; exact c1)]
      rfl
theorem m_cons_L2 {B n : Nat} {I : Nat → Nat → Int32} {L : Nat → Nat → Int64} {Q : Nat → Nat → Option Nat} {R : Nat → RDt} {N : NET} {v : Nat → Int64} {p : Nat} (hM : MNet L 109 N) (hO : NetOK N) (hT : TolM L p v (nM N)) (k : Option Int32) : ∀ (f n' r : Nat), r + f = nM N → f < n' → ((∀ i, r ≤ i → i < nM N → 0 ≤ v i) → fX10_doConserve_L2 (B + 108) (nI p) (MK B n I L Q R) k n' (nI r) = k) ∧ ((∃ i, r ≤ i ∧ i < nM N ∧ ¬ 0 ≤ v i) → fX10_doConserve_L2 (B + 108) (nI p) (MK B n I L Q R) k n' (nI r) = some 0) := by
  have h13 := hO.2.2.1
  intro f
  induction f with
  | zero =>
    intro n' r hr hn
    obtain ⟨n1, rfl⟩ := suc_of hn
    refine ⟨fun _ => ?_, fun ⟨i, i1, i2, _⟩ => by omega⟩
    rw [fX10_doConserve_L2, m_roadMany hM h13, ob1_some, if_pos (by rw [nI_leI (by omega) (by omega)]; omega)]
  | succ f ih =>
    intro n' r hr hn
    obtain ⟨n1, rfl⟩ := suc_of hn
    have hp := hT.1
    obtain ⟨g1, g2⟩ := ih n1 (r + 1) (by omega) (by omega)
    rw [fX10_doConserve_L2, m_roadMany hM h13, ob1_some, if_neg (by rw [nI_leI (by omega) (by omega)]; omega), g_Mlists, ob1_some, nI_add, a_Mlists (by omega), ob1_some, hT.2 r (by omega)]
    by_cases c : 0 ≤ v r
    · rw [if_pos c, bnd_eq, nI_1]
      refine ⟨fun h => g1 fun i i1 i2 => h i (by omega) i2, fun ⟨i, i1, i2, i3⟩ => g2 ⟨i, ?_, i2, i3⟩⟩
      have : i ≠ r := fun e => i3 (by rw [e]; exact c)
      omega
    · rw [if_neg c]
      exact ⟨fun h => absurd (h r (Nat.le_refl _) (by omega)) c, fun _ => rfl⟩
theorem m_cons_L33 {B n : Nat} {I : Nat → Nat → Int32} {L : Nat → Nat → Int64} {Q : Nat → Nat → Option Nat} {R : Nat → RDt} {N : NET} {v : Nat → Int64} {p : Nat} (hM : MNet L 109 N) (hO : NetOK N) (hT : TolM L p v (nM N)) (h0 : ∀ r, r < nM N → 0 ≤ v r) (k : Option Int32) : ∀ (f n' t : Nat), t + f = nT N → f < n' → ((∀ i, t ≤ i → i < nT N → flowZ N (wN v) i (nM N) = (nDue N i : Int)) → fX10_doConserve_L33 (B + 108) (nI p) (MK B n I L Q R) k n' (nI t) = k) ∧ ((∃ i, t ≤ i ∧ i < nT N ∧ ¬ flowZ N (wN v) i (nM N) = (nDue N i : Int)) → fX10_doConserve_L33 (B + 108) (nI p) (MK B n I L Q R) k n' (nI t) = some 0) := by
  have h6 := hO.2.1
  have hn0 : ∀ K : Int64 → Option Int32, (ob1 (gR (MK B n I L Q R) (B + 108) 10 0) fun b10 => ob1 (aL (MK B n I L Q R) b10 (0 : Int32)) fun v12 => K v12) = K (lN (nT N)) := fun K => by
    rw [g_Mnow, ob1_some, show aL (MK B n I L Q R) (B + 109) 0 = some (L 109 0) from a_Mnow (i := 0) (by decide), ob1_some, hM.1]
  intro f
  induction f with
  | zero =>
    intro n' t ht hn
    obtain ⟨n1, rfl⟩ := suc_of hn
    refine ⟨fun _ => ?_, fun ⟨i, i1, i2, _⟩ => by omega⟩
    rw [fX10_doConserve_L33, hn0, nI_l (by omega), if_pos (by rw [lN_leE (by omega) (by omega)]; omega)]
  | succ f ih =>
    intro n' t ht hn
    obtain ⟨n1, rfl⟩ := suc_of hn
    obtain ⟨g1, g2⟩ := ih n1 (t + 1) (by omega) (by omega)
    rw [fX10_doConserve_L33, hn0, nI_l (by omega), if_neg (by rw [lN_leE (by omega) (by omega)]; omega), m_areDue hM hO hT h0 (by omega), ob1_some]
    by_cases c : flowZ N (wN v) t (nM N) = (nDue N t : Int)
    · have z : ¬ bz (decide (flowZ N (wN v) t (nM N) = (nDue N t : Int))) = 0 := by rw [decide_eq_true c]; decide
      rw [if_neg z, bnd_eq, nI_1]
      refine ⟨fun h => g1 fun i i1 i2 => h i (by omega) i2, fun ⟨i, i1, i2, i3⟩ => g2 ⟨i, ?_, i2, i3⟩⟩
      have : i ≠ t := fun e => i3 (by rw [e]; exact c)
      omega
    · have z : bz (decide (flowZ N (wN v) t (nM N) = (nDue N t : Int))) = 0 := by rw [decide_eq_false c]; rfl
      rw [if_pos z]
      exact ⟨fun h => absurd (h t (Nat.le_refl _) (by omega)) c, fun _ => rfl⟩
theorem m_doConserve {B n : Nat} {I : Nat → Nat → Int32} {L : Nat → Nat → Int64} {Q : Nat → Nat → Option Nat} {R : Nat → RDt} {N : NET} {v : Nat → Int64} {p : Nat} (hM : MNet L 109 N) (hO : NetOK N) (hT : TolM L p v (nM N)) : fX10_doConserve (B + 108) (nI p) (MK B n I L Q R) = some (bz (consB N v)) := by
  have h13 := hO.2.2.1
  have h2 := hO.1
  obtain ⟨a1, a2⟩ := m_cons_L2 (B := B) (n := n) (I := I) (Q := Q) (R := R) hM hO hT (fX10_doConserve_L33 (B + 108) (nI p) (MK B n I L Q R) (some (1 : Int32)) lf (1 : Int32)) (nM N) lf 0 (by omega) (by show _ < 1000; omega)
  by_cases c0 : ∀ i, i < nM N → 0 ≤ v i
  · obtain ⟨b1, b2⟩ := m_cons_L33 (B := B) (n := n) (I := I) (Q := Q) (R := R) hM hO hT c0 (some (1 : Int32)) (nT N - 1) lf 1 (by omega) (by have := hO.2.1; show _ < 1000; omega)
    refine (a1 fun i _ hi => c0 i hi).trans ?_
    by_cases c1 : ∀ t, 1 ≤ t → t < nT N → flowZ N (wN v) t (nM N) = (nDue N t : Int)
    · refine (b1 c1).trans ?_
      rw [consB_t ⟨c0, c1⟩]
      rfl
    · refine (b2 ?_).trans ?_
      · refine Classical.byContradiction fun q => c1 fun t h1 h2 => Classical.byContradiction fun q2 => q ⟨t, h1, h2, q2⟩
      · rw [consB_f fun h => c1 h.2]
        rfl
  · refine (a2 ?_).trans ?_
    · refine Classical.byContradiction fun q => c0 fun t h1 => Classical.byContradiction fun q2 => q ⟨t, Nat.zero_le _, h1, q2⟩
    · rw [consB_f fun h => c0 h.1]
      rfl
theorem m_judge_L67 {B n : Nat} {Ia : Nat → Nat → Int32} {L : Nat → Nat → Int64} {Q : Nat → Nat → Option Nat} {R : Nat → RDt} {N : NET} {v : Nat → Int64} {p : Nat} (hM : MNet L 109 N) (hO : NetOK N) (hT : TolM L p v (nM N)) (h0 : ∀ r, r < nM N → 0 ≤ v r) (k : AH → Option (Int32 × AH)) :
    ∀ (f n' r : Nat) (I : Nat → Nat → Int32), r + f = nM N → f < n' → (∀ a, a ≠ 120 → I a = Ia a) → (∀ q, q < r → I 120 q = nI (wN v q)) →
    ∃ I' : Nat → Nat → Int32, (∀ a, a ≠ 120 → I' a = Ia a) ∧ ((∀ q, r ≤ q → q < nM N → wN v q ≤ 36) → fX10_judge_L67 (B + 108) (nI p) k n' (nI r) (MK B n I L Q R) = k (MK B n I' L Q R) ∧ ∀ q, q < nM N → I' 120 q = nI (wN v q)) ∧ ((∃ q, r ≤ q ∧ q < nM N ∧ 36 < wN v q) → fX10_judge_L67 (B + 108) (nI p) k n' (nI r) (MK B n I L Q R) = some (-6, MK B n I' L Q R)) := by
  have h13 := hO.2.2.1
  intro f
  induction f with
  | zero =>
    intro n' r I hr hn hF hV
    obtain ⟨n1, rfl⟩ := suc_of hn
    refine ⟨I, hF, fun _ => ⟨?_, fun q h => hV q (by omega)⟩, fun ⟨q, h1, h2, _⟩ => by omega⟩
    rw [fX10_judge_L67, m_roadMany hM h13, ob1_some, if_pos (by rw [nI_leI (by omega) (by omega)]; omega)]
  | succ f ih =>
    intro n' r I hr hn hF hV
    obtain ⟨n1, rfl⟩ := suc_of hn
    have hp := hT.1
    have hw := wN_is (h0 r (by omega))
    have hwl := wN_lt v r
    have hv : L 127 (p + r) = lN (wN v r) := by rw [hT.2 r (by omega)]; exact hw
    rw [fX10_judge_L67, m_roadMany hM h13, ob1_some, if_neg (by rw [nI_leI (by omega) (by omega)]; omega), g_Mlists, ob1_some, nI_add, a_Mlists (by omega), ob1_some, hv, show (36 : Int64) = lN 36 from rfl]
    by_cases e : wN v r ≤ 36
    · obtain ⟨I', r1, r2, r3⟩ := ih n1 (r + 1) (u2 I 120 r (nI (wN v r))) (by omega) (by omega) (fun a ha => by rw [u2_nk ha]; exact hF a ha) (fun q h => by
        rw [mu2]
        by_cases g : q = r
        · rw [if_pos g, g]
        · rw [if_neg g]; exact hV q (by omega))
      rw [if_pos (by rw [lN_leE (by omega) (by omega)]; exact e), g_Mloads, ob1_some, ob1_some, a_Mlists (by omega), ob1_some, hv, l_toI (by omega), s_Mloads (by omega), ob1_some, bnd_eq, nI_1]
      refine ⟨I', r1, fun h => r2 fun q h1 h2 => h q (by omega) h2, fun ⟨q, h1, h2, h3⟩ => r3 ⟨q, ?_, h2, h3⟩⟩
      have : q ≠ r := fun g => by rw [g] at h3; omega
      omega
    · rw [if_neg (by rw [lN_leE (by omega) (by omega)]; exact e)]
      exact ⟨I, hF, fun h => absurd (h r (Nat.le_refl _) (by omega)) e, fun _ => rfl⟩
theorem totN_cong {N : NET} {f g : Nat → Nat} : ∀ m, (∀ q, q < m → f q = g q) → totN N f m = totN N g m
  | 0, _ => rfl
  | m + 1, h => by rw [totN, totN, totN_cong m (fun q hq => h q (by omega)), h m (by omega)]
theorem d_judge {B n : Nat} {I : Nat → Nat → Int32} {L : Nat → Nat → Int64} {Q : Nat → Nat → Option Nat} {R : Nat → RDt} {s : STT} (h : IsM I L s) (hs : OkS s) (x f : Int32) : RunM B n I L Q R (fX10_judge (B + 108) x f (MK B n I L Q R)) (A_judge s x f, s) := by
  have hm12 := hs.2.1
  have hO := hs.1
  unfold A_judge fX10_judge
  rw [m_isList, ob1_some]
  rcases ix_cases x (m := 4) (by decide) with ⟨l, h1, rfl, h3⟩ | ⟨h1, h2⟩
  · rw [h3, if_neg (bS l), g_MlistMany, ob1_some, a_MlistMany h1, ob1_some]
    dsimp only
    have g := h.2.2.2.1 l h1
    cases hv : stL s l with
    | none =>
      rw [hv] at g
      have g : I 126 l = -1 := g
      rw [g, if_neg (by decide)]
      exact RunM.same h rfl
    | some q =>
      have h24 := hs.2.2.2.2.1 l q h1 hv
      rw [hv] at g
      obtain ⟨g1, g2⟩ := g
      rw [g1, if_pos (nI_pos' (by omega))]
      dsimp only
      rcases px_cases f with ⟨f1, f2⟩ | ⟨u, u1, rfl, u3⟩
      · rw [if_pos f1, f2]
        exact RunM.same h rfl
      · rw [if_neg (nI_pos (by omega)), m_roadMany h.1 (by omega), ob1_some, ob1_some, a_MlistMany h1, ob1_some, g1, u3, nI_l (by omega), nI_l (by omega), nI_l (by omega), lN_add]
        dsimp only
        by_cases c : u + nM (stN s) ≤ q.1
        · have hT : TolM L (24 * l + u) (fun r => q.2 (u + r)) (nM (stN s)) := ⟨by omega, fun r hr => by rw [Nat.add_assoc]; exact g2 (u + r) (by omega)⟩
          rw [if_pos c, if_pos (by rw [lN_leE (by omega) (by omega)]; exact c), l24, nI_mulx, nI_add, bnd_eq, m_doConserve h.1 hO hT, ob1_some]
          generalize (fun r => q.2 (u + r)) = v at *
          unfold judgeN
          cases hc : consB (stN s) v with
          | false =>
            rw [if_pos (show bz false = 0 from rfl), if_neg (show ¬ false = true by decide)]
            exact RunM.same h rfl
          | true =>
            obtain ⟨p1, p2⟩ := consB_is hc
            obtain ⟨I1, r1, r2, r3⟩ := m_judge_L67 (B := B) (n := n) (Q := Q) (R := R) (Ia := I) h.1 hO hT p1 (fun (g33 : AH) =>
              ob2 (fX10_totalOf (B + 108) g33) fun r34 g35 =>
              ob2 (fX10_bestOf (B + 108) g35) fun r37 g38 =>
              if r34 < (0 : Int64) then
                some ((-6 : Int32), g38)
              else
                if r37 = (-6 : Int64) then
                  some ((-6 : Int32), g38)
                else
                  if r37 = r34 then
                    some ((2 : Int32), g38)
                  else
                    some ((1 : Int32), g38)) (nM (stN s)) lf 0 I (by omega) (by show _ < 1000; omega) (fun _ _ => rfl) (fun q hq => absurd hq (Nat.not_lt_zero q))
            have hfm1 : FM I I1 L L := ⟨fun a a1 a2 => ⟨r1 a (by omega), rfl⟩, fun j _ => by rw [r1 108 (by decide)]⟩
            rw [if_neg (show ¬ bz true = 0 by decide), if_pos rfl]
            by_cases hb : ∃ r, r < nM (stN s) ∧ 36 < wN v r
            · have eb : bigB (stN s) v = true := decide_eq_true hb
              rw [eb, if_pos rfl]
              obtain ⟨r, x1, x2⟩ := hb
              exact RunM.fm h hfm1 (r3 ⟨r, Nat.zero_le _, x1, x2⟩)
            · have eb : bigB (stN s) v = false := decide_eq_false hb
              have hle : ∀ r, r < nM (stN s) → wN v r ≤ 36 := fun r hr => Nat.le_of_not_lt fun g => hb ⟨r, hr, g⟩
              obtain ⟨t1, t2⟩ := r2 fun r _ hr => hle r hr
              have hM1 : MNet L 109 (stN s) := h.1
              obtain ⟨I2, L2, y1, y2⟩ := m_totalOf (B := B) (n := n) (I := I1) (L := L) (Q := Q) (R := R) (ld := wN v) hO hM1 hle t2
              have hM2 : MNet L2 109 (stN s) := by unfold MNet at *; rw [(y2.1 109 (by decide)).2]; exact hM1
              obtain ⟨I3, L3, z1, z2⟩ := m_bestOf (B := B) (n := n) (I := I2) (Q := Q) (R := R) hO hM2
              rw [eb, if_neg (show ¬ false = true by decide)]
              refine RunM.fm h (hfm1.tr (y2.fm.tr z2)) (t1.trans ?_)
              rw [y1, ob2_some, z1, ob2_some]
              have hl := totN_leM (stN s) (wN v) (nM (stN s))
              have hmx := mx63
              have n6 : ∀ {a : Nat}, a ≤ mxL → ¬ lN a = -6 := fun {a} ha e => by
                have := lN_neg ha
                rw [e] at this
                exact this (by decide)
              unfold totV
              cases ho : (totN (stN s) (wN v) (nM (stN s))).2 with
              | true =>
                rw [if_pos rfl, if_pos (by decide), if_pos rfl]
              | false =>
                rw [if_neg (show ¬ false = true by decide), if_neg (lN_neg hl), if_neg (show ¬ false = true by decide)]
                rcases bestB_cases (stN s) with ⟨b, b1, b2, b3, b4, b5, b6⟩ | ⟨b2, b3, b5, b6⟩ | ⟨b2, b5, b6⟩
                · rw [b5, b2, b3, b4, if_neg (n6 b1), if_pos rfl, if_neg (show ¬ false = true by decide)]
                  rw [mxL_eq] at hl b1
                  by_cases ce : (totN (stN s) (wN v) (nM (stN s))).1 = b
                  · rw [if_pos (by rw [ce]), if_pos ce]
                  · rw [if_neg (by rw [l_inj (by omega) (by omega)]; exact fun e => ce e.symm), if_neg ce]
                · rw [b5, b2, b3, if_pos rfl, if_pos rfl, if_pos rfl]
                · have n3 : ¬ (-3 : Int64) = lN (totN (stN s) (wN v) (nM (stN s))).1 := fun e => by
                    have := lN_neg hl
                    rw [← e] at this
                    exact this (by decide)
                  rw [b5, b2, if_neg (by decide), if_neg n3, if_neg (show ¬ false = true by decide)]
        · rw [if_neg c, if_neg (by rw [lN_leE (by omega) (by omega)]; exact c)]
          exact RunM.same h rfl
  · rw [h1, if_pos bN]
    exact RunM.same h rfl
