/-! what a class pays in the mean, as a float's bits -/
def shT (t e : Nat → Nat) (m : Nat) : Nat → UInt32
  | 0 => 0
  | j + 1 => if t j = 0 then shT t e m j else FP.fadd (shT t e m j) (FP.fdiv (FP.fmul (FP.l2f (lN (e j))) (FP.i2f (nI (t j)))) (FP.i2f (nI m)))
def mKs (k : Nat) : Nat := (200 + k.log2) * 2 ^ 23 + (k - 2 ^ k.log2) * 2 ^ (23 - k.log2)
theorem mKs_t : ∀ k : Fin 38, 1 ≤ k.val → FP.Core.unitsOf FP.Core.b32 (mKs k.val) = k.val * 2 ^ 222 := by decide +kernel
theorem sh_q {e t m : Nat} (he : e ≤ 5500000000000000000) (h1 : 1 ≤ t) (h2 : t ≤ 36) (h3 : 1 ≤ m) (h4 : m ≤ 36) : (FP.fmul (FP.l2f (lN e)) (FP.i2f (nI t))).toNat < 255 * 2 ^ 23 ∧ (FP.fdiv (FP.fmul (FP.l2f (lN e)) (FP.i2f (nI t))) (FP.i2f (nI m))).toNat < 200 * 2 ^ 23 ∧ ((FP.fdiv (FP.fmul (FP.l2f (lN e)) (FP.i2f (nI t))) (FP.i2f (nI m))).toNat = 0 ∨ 100 * 2 ^ 23 ≤ (FP.fdiv (FP.fmul (FP.l2f (lN e)) (FP.i2f (nI t))) (FP.i2f (nI m))).toNat) := by
  obtain ⟨a1, a2⟩ := l2f_b he
  obtain ⟨b1, b2⟩ := i2f_b h1 h2
  obtain ⟨c1, c2⟩ := i2f_b h3 h4
  generalize FP.l2f (lN e) = A at *
  generalize FP.i2f (nI t) = T at *
  generalize FP.i2f (nI m) = M at *
  have hp : (FP.fmul A T).toNat < 199 * 2 ^ 23 := fl_mul (Ka := 191) (Kb := 134) a1 b2 (by decide) (by decide)
  have hd : (FP.fdiv (FP.fmul A T) M).toNat < 200 * 2 ^ 23 := fl_div (K := 199) (L := 127) hp c1 (by omega) (by decide) (by decide)
  refine ⟨by omega, hd, ?_⟩
  rcases a2 with a2 | a2
  · left
    have h0 := fl_mul_0 (a := A) (b := T) a2 (by omega)
    have := fl_div_0 (a := FP.fmul A T) (b := M) (by rw [h0]; rfl) c1 (by omega)
    rw [this]
    rfl
  · right
    have h0 := fl_mul_ge a2 (by omega) b1 (by omega)
    exact fl_div_ge h0 (by omega) c1 c2
theorem un_lt {x : UInt32} {k : Nat} (hk : k ≤ 36) (h : FP.Core.unitsOf FP.Core.b32 x.toNat ≤ k * 2 ^ 222) : x.toNat < 207 * 2 ^ 23 := by
  refine FP.Core.unitsOf_lt_iff (f := FP.Core.b32).mp ?_
  rw [fl_start (by decide)]
  refine Nat.lt_of_le_of_lt h (Nat.lt_of_le_of_lt (Nat.mul_le_mul_right _ hk) ?_)
  decide
theorem sh_add {x q : UInt32} {k : Nat} (hk : k + 1 ≤ 36) (h1 : FP.Core.unitsOf FP.Core.b32 x.toNat ≤ k * 2 ^ 222) (h2 : x.toNat = 0 ∨ 100 * 2 ^ 23 ≤ x.toNat) (q1 : q.toNat < 200 * 2 ^ 23) (q2 : q.toNat = 0 ∨ 100 * 2 ^ 23 ≤ q.toNat) : FP.Core.unitsOf FP.Core.b32 (FP.fadd x q).toNat ≤ (k + 1) * 2 ^ 222 ∧ ((FP.fadd x q).toNat = 0 ∨ 100 * 2 ^ 23 ≤ (FP.fadd x q).toNat) := by
  have hx := un_lt (by omega) h1
  have hq := Nat.le_of_lt (FP.Core.unitsOf_lt (f := FP.Core.b32) q1)
  rw [fl_start (by decide), show 2 ^ 23 * 2 ^ (200 - 1) = 2 ^ 222 by decide] at hq
  have hm := mKs_t ⟨k + 1, by omega⟩ (by show 1 ≤ k + 1; omega)
  have hm : FP.Core.unitsOf FP.Core.b32 (mKs (k + 1)) = (k + 1) * 2 ^ 222 := hm
  have hs := fl_add_le (a := x) (b := q) (m := mKs (k + 1)) (by omega) (by omega) (by rw [hm, Nat.add_mul, Nat.one_mul]; exact Nat.add_le_add h1 hq)
  refine ⟨by rw [← hm]; exact FP.Core.unitsOf_le_iff.mpr hs, ?_⟩
  rcases h2 with h2 | h2
  · rcases q2 with q2 | q2
    · left; rw [fl_add_0 h2 q2]; rfl
    · right; exact fl_add_ge (by omega) (by omega) (Or.inr q2)
  · right; exact fl_add_ge (by omega) (by omega) (Or.inl h2)
theorem sumN_up {f : Nat → Nat} : ∀ d j, sumN j f ≤ sumN (j + d) f
  | 0, j => Nat.le_refl _
  | d + 1, j => by
    have := sumN_up (f := f) d j
    rw [show j + (d + 1) = j + d + 1 from rfl, sumN]
    omega
theorem sh_ok {t e : Nat → Nat} {m J : Nat} (h3 : 1 ≤ m) (h4 : m ≤ 36) (he : ∀ i, i < J → e i ≤ 5500000000000000000) (hS : sumN J (fun j => t j * 1) ≤ 36) : ∀ j, j ≤ J → FP.Core.unitsOf FP.Core.b32 (shT t e m j).toNat ≤ sumN j (fun j => t j * 1) * 2 ^ 222 ∧ ((shT t e m j).toNat = 0 ∨ 100 * 2 ^ 23 ≤ (shT t e m j).toNat) := by
  intro j
  induction j with
  | zero => exact fun _ => ⟨Nat.zero_le _, Or.inl rfl⟩
  | succ j ih =>
    intro hj
    obtain ⟨i1, i2⟩ := ih (by omega)
    have hle := sumN_up (f := fun j => t j * 1) (J - (j + 1)) (j + 1)
    rw [show j + 1 + (J - (j + 1)) = J by omega] at hle
    rw [sumN] at hle ⊢
    rw [shT]
    have ht : t j * 1 = t j := Nat.mul_one _
    by_cases c : t j = 0
    · rw [if_pos c, c, Nat.zero_mul, Nat.add_zero]
      exact ⟨i1, i2⟩
    · rw [if_neg c]
      obtain ⟨q1, q2, q3⟩ := sh_q (e := e j) (t := t j) (m := m) (he j (by omega)) (by omega) (by omega) h3 h4
      obtain ⟨r1, r2⟩ := sh_add (k := sumN j (fun j => t j * 1)) (by omega) i1 i2 q2 q3
      exact ⟨Nat.le_trans r1 (Nat.mul_le_mul_right _ (by omega)), r2⟩
theorem sh_lt {t e : Nat → Nat} {m J : Nat} (h3 : 1 ≤ m) (h4 : m ≤ 36) (he : ∀ i, i < J → e i ≤ 5500000000000000000) (hS : sumN J (fun j => t j * 1) ≤ 36) (j : Nat) (hj : j ≤ J) : (shT t e m j).toNat < 207 * 2 ^ 23 := by
  have hle := sumN_up (f := fun j => t j * 1) (J - j) j
  rw [show j + (J - j) = J by omega] at hle
  exact un_lt (Nat.le_trans hle hS) (sh_ok h3 h4 he hS j hj).1
/-- the guards of one addition -/
theorem sh_gd {α : Type} {t e : Nat → Nat} {m J j : Nat} {K : Option α} (h3 : 1 ≤ m) (h4 : m ≤ 36) (he : ∀ i, i < J → e i ≤ 5500000000000000000) (hS : sumN J (fun j => t j * 1) ≤ 36) (hj : j < J) (c : t j ≠ 0) :
    nn (FP.fmul (FP.l2f (lN (e j))) (FP.i2f (nI (t j)))) = true ∧ nn (FP.fdiv (FP.fmul (FP.l2f (lN (e j))) (FP.i2f (nI (t j)))) (FP.i2f (nI m))) = true ∧ nn (FP.fadd (shT t e m j) (FP.fdiv (FP.fmul (FP.l2f (lN (e j))) (FP.i2f (nI (t j)))) (FP.i2f (nI m)))) = true ∧ FP.fadd (shT t e m j) (FP.fdiv (FP.fmul (FP.l2f (lN (e j))) (FP.i2f (nI (t j)))) (FP.i2f (nI m))) = shT t e m (j + 1) := by
  have hg : t j * 1 ≤ _ := sumN_ge (f := fun j => t j * 1) J hj
  obtain ⟨q1, q2, q3⟩ := sh_q (e := e j) (t := t j) (m := m) (he j hj) (by omega) (by omega) h3 h4
  have hn : FP.fadd (shT t e m j) (FP.fdiv (FP.fmul (FP.l2f (lN (e j))) (FP.i2f (nI (t j)))) (FP.i2f (nI m))) = shT t e m (j + 1) := by rw [shT, if_neg c]
  have hl := sh_lt h3 h4 he hS (j + 1) hj
  exact ⟨nn_of q1 (by decide), nn_of q2 (by decide), by rw [hn]; exact nn_of hl (by decide), hn⟩
theorem SInv.sum_le {N : NET} {rows : List ROW} {s : SST} {D c : Nat} (hi : SInv N rows s D) (hc : c < 3) : sumN rows.length (fun j => s.2 c j * 1) ≤ D := by
  have h : (sumN 3 fun c => sumN rows.length fun j => s.2 c j * 1) = D := hi.2.1
  have h1 : (sumN rows.length fun j => s.2 c j * 1) ≤ _ := sumN_ge (f := fun c => sumN rows.length fun j => s.2 c j * 1) 3 hc
  omega
def shownN (N : NET) (mode cl : Nat) : UInt32 := shT (fun j => (stF N mode (rowsN N)).1.2 cl j) (fun j => fareR (rowsN N) (fareP N mode cl (stF N mode (rowsN N)).1.1 0) j) (nC N cl 1) (rowsN N).length
noncomputable def A_shown (N : NET) (m c : Int32) : Int32 := match ix m 3 with
  | some mode => (match ix c 3 with
    | some cl => if nC N cl 1 = 0 then -3 else if canAll N (rowsN N) = true then UInt32.toInt32 (shownN N mode cl) else -3
    | none => -1)
  | none => -1
theorem fares_le {N : NET} {mode cl : Nat} {s : SST} (hO : NetOK N) (hc : cl < 3) (hb : ∀ q, s.1 q ≤ 36) : ∀ i, i < (rowsN N).length → (fun j => fareR (rowsN N) (fareP N mode cl s.1 0) j) i ≤ 5500000000000000000 := fun i hi => (rows_wf N _).fare_le hO (fun q hq => show pAt N mode cl q (max 1 (s.1 q + 0)) ≤ PB from pAt_le hO hc hq (by have := hb q; omega)) hi
theorem e_shown_L58 {B n : Nat} {I : Nat → Nat → Int32} {L : Nat → Nat → Int64} {Q : Nat → Nat → Option Nat} {R : Nat → RDt} {N : NET} {mode cl : Nat} {s : SST} (hm : mode < 3) (hcl : cl < 3) (hN : NetIs B n I L Q R 1 N) (hO : NetOK N) (hP : PathsIs I 17 (rowsN N)) (hl : LoadsIs I (64 + 10 * mode) s.1 s.2) (hi : SInv N (rowsN N) s (nD N 3)) (h0 : nC N cl 1 ≠ 0) (k : UInt32 → Option (Int32 × AH)) :
    ∀ (f n' j : Nat), j + f = (rowsN N).length → f < n' → fX9_shown_L58 B (nI mode) (nI cl) (nI (nC N cl 1)) (B + (64 + 10 * mode)) (MK B n I L Q R) k n' (shT (fun j => s.2 cl j) (fun j => fareR (rowsN N) (fareP N mode cl s.1 0) j) (nC N cl 1) j) (nI j) = k (shT (fun j => s.2 cl j) (fun j => fareR (rowsN N) (fareP N mode cl s.1 0) j) (nC N cl 1) (rowsN N).length) := by
  have h211 : (rowsN N).length ≤ 211 := rows_le hO
  have hx := isSm hm
  have hd3 := nD_le hO 3 (by omega)
  have hcb := (hO.2.2.2.2 cl hcl).2.2.1
  have hS := Nat.le_trans (hi.sum_le hcl) hd3
  have hb : ∀ q, s.1 q ≤ 36 := fun q => Nat.le_trans (hi.le q) (by omega)
  intro f
  induction f with
  | zero =>
    intro n' j hj hn
    obtain ⟨n1, rfl⟩ := suc_of hn
    rw [fX9_shown_L58, g_Wpaths, ob1_some, g_count isP17, ob1_some, hP.1, if_pos (by rw [nI_leI (by omega) (by omega)]; omega), show j = (rowsN N).length by omega]
  | succ f ih =>
    intro n' j hj hn
    obtain ⟨n1, rfl⟩ := suc_of hn
    have hrd := hl.2 cl j hcl (by omega)
    have hrl := hi.rd_le hcl (show j < (rowsN N).length by omega)
    have h1 := ih n1 (j + 1) (by omega) (by omega)
    rw [fX9_shown_L58, g_Wpaths, ob1_some, g_count isP17, ob1_some, hP.1, if_neg (by rw [nI_leI (by omega) (by omega)]; omega), g_riders hx, ob1_some, r_riders hx hcl, ob1_some, a_rider hx hcl (by omega), ob1_some, hrd]
    by_cases c : s.2 cl j = 0
    · have hsk : shT (fun j => s.2 cl j) (fun j => fareR (rowsN N) (fareP N mode cl s.1 0) j) (nC N cl 1) (j + 1) = shT (fun j => s.2 cl j) (fun j => fareR (rowsN N) (fareP N mode cl s.1 0) j) (nC N cl 1) j := by rw [shT, if_pos c]
      rw [if_pos (by rw [c]; decide), bnd_eq, nI_1, ← h1, hsk]
    · have hf : fX9_fare B (nI mode) (nI cl) (nI j) 0 (MK B n I L Q R) = some (lN (fareR (rowsN N) (fareP N mode cl s.1 0) j)) := e_fare hN hO hP (rows_wf _ _) h211 hm hcl (show j < (rowsN N).length by omega) hl hb (show 0 < 2 by decide)
      obtain ⟨g1, g2, g3, g4⟩ := sh_gd (α := Int32) (K := none) (t := fun j => s.2 cl j) (e := fun j => fareR (rowsN N) (fareP N mode cl s.1 0) j) (m := nC N cl 1) (J := (rowsN N).length) (j := j) (by omega) (by omega) (fares_le hO hcl hb) hS (by omega) c
      rw [if_neg (by rw [l0, nI_leI (by omega) (by omega)]; omega), hf, ob1_some, g1, gd_true]
      simp only [bnd_eq]
      rw [g2, gd_true, g3, gd_true, g4, nI_1]
      exact h1
theorem c_shown {B n : Nat} {I : Nat → Nat → Int32} {L : Nat → Nat → Int64} {Q : Nat → Nat → Option Nat} {R : Nat → RDt} {s : STT} (h : IsC B n I L Q R s) (m c : Int32) : RunC B I L (fX9_shown B m c (MK B n I L Q R)) (A_shown (stN s) m c, s) := by
  obtain ⟨fp, fs, fc, h0⟩ := id h
  have hN := h0.1.2.1
  have hO := h0.1.2.2.1
  have h211 : (rowsN (stN s)).length ≤ 211 := rows_le hO
  unfold A_shown fX9_shown
  rw [ix3, ob1_some]
  rcases ix_cases m (m := 3) (by decide) with ⟨mode, h1, rfl, h3⟩ | ⟨h1, h2⟩
  · rw [h3, if_neg (bS mode), ix3, ob1_some]
    dsimp only
    rcases ix_cases c (m := 3) (by decide) with ⟨cl, j1, rfl, j3⟩ | ⟨j1, j2⟩
    · have hcr := hN.2.2.2.2.2 cl 1 j1 (by decide)
      have hcb := (hO.2.2.2.2 cl j1).2.2.1
      obtain ⟨I', L', fs', r1, r2, r3, r4, r5⟩ := e_steadyOf h0 h1
      rw [j3, if_neg (bS cl), g_Wnow, ob1_some, g_crowds isN1, ob1_some, r_crowds isN1 j1, ob1_some, show (1 : Int32) = nI 1 from rfl, a_crowd isN1 j1 (by decide), ob1_some, hcr, r1, ob2_some]
      dsimp only
      by_cases e : nC (stN s) cl 1 = 0
      · rw [if_pos e, if_pos (by rw [e]; rfl)]
        exact RunC.rep r2 (fun a ha => r5 a (by omega)) rfl
      · obtain ⟨hC, ⟨c1, c2, c3, c4, c5, c6⟩, hF⟩ := id r2
        obtain ⟨s1, s2⟩ := (c5 mode h1 r3).2
        have hx := isSm h1
        rw [if_neg e, if_neg (by rw [show (0 : Int32) = nI 0 from rfl, nI_eq (by omega) (by omega)]; exact e), g_stands hx, ob1_some, s1]
        cases hc : canAll (stN s) (rowsN (stN s)) with
        | false => exact RunC.rep r2 (fun a ha => r5 a (by omega)) rfl
        | true =>
          obtain ⟨t1, t2, t3, t4⟩ := s2 hc
          rw [if_neg (by decide), if_pos rfl]
          have hd3 := nD_le hO 3 (by omega)
          have hb : ∀ q, (stF (stN s) mode (rowsN (stN s))).1.1 q ≤ 36 := fun q => Nat.le_trans (t4.le q) (by omega)
          have hS := Nat.le_trans (t4.sum_le j1) hd3
          have k1 := sh_ok (m := nC (stN s) cl 1) (by omega) (by omega) (fares_le (mode := mode) hO j1 hb) hS _ (Nat.le_refl _)
          have k2 := sh_lt (m := nC (stN s) cl 1) (by omega) (by omega) (fares_le (mode := mode) hO j1 hb) hS _ (Nat.le_refl _)
          have hp := rows_pos (stN s) (fun _ => true)
          have h1' := e_shown_L58 (B := B) (n := n) (Q := Q) (R := R) h1 j1 hC.2.1 hO (c4 rfl) t1 t4 e (fun (y39 : UInt32) =>
            ob1 (fX9_bitsOf y39) fun r40 =>
            some (r40, MK B n I' L' Q R)) ((rowsN (stN s)).length - 1) lf 1 (by unfold rowsN at *; omega) (by show _ < 1000; omega)
          have e1 : shT (fun j => (stF (stN s) mode (rowsN (stN s))).1.2 cl j) (fun j => fareR (rowsN (stN s)) (fareP (stN s) mode cl (stF (stN s) mode (rowsN (stN s))).1.1 0) j) (nC (stN s) cl 1) 1 = FP.fconst0 := by
            rw [show (1 : Nat) = 0 + 1 from rfl, shT, if_pos (t4.rd0 j1)]
            rfl
          rw [e1] at h1'
          refine RunC.rep r2 (fun a ha => r5 a (by omega)) ?_
          refine h1'.trans ?_
          rw [c_bits k1.2 k2, ob1_some]
          rfl
    · rw [j1, if_pos bN]
      exact RunC.same h rfl
  · rw [h1, if_pos bN]
    exact RunC.same h rfl
theorem m_shown_L52 {B n : Nat} {I : Nat → Nat → Int32} {L : Nat → Nat → Int64} {Q : Nat → Nat → Option Nat} {R : Nat → RDt} {N : NET} {mode cl : Nat} {s : SST} (hm : mode < 3) (hc : cl < 3) (hi : SInv N (rowsN N) s (nD N 3)) (h0 : nC N cl 1 ≠ 0) (hE : EnvM I L N (rowsN N)) (hR : RidM I N (rowsN N) s) (k : UInt32 → Option (Int32 × AH)) : ∀ (m n' i : Nat), i + m = (rowsN N).length → m < n' →
    fX10_shown_L52 (B + 108) (nI mode) (nI cl) (FP.i2f (nI (nC N cl 1))) (MK B n I L Q R) k n' (shT (fun j => s.2 cl j) (fun j => fareR (rowsN N) (fareP N mode cl s.1 0) j) (nC N cl 1) i) (nI (cntTo (rowsN N) (nC N cl 0) i)) = k (shT (fun j => s.2 cl j) (fun j => fareR (rowsN N) (fareP N mode cl s.1 0) j) (nC N cl 1) (rowsN N).length) := by
  have hO := hE.2.1
  have hd3 := nD_le hO 3 (by omega)
  have hcb := (hO.2.2.2.2 cl hc).2.2.1
  have hS := Nat.le_trans (hi.sum_le hc) hd3
  have hb : ∀ q, s.1 q ≤ 36 := fun q => Nat.le_trans (hi.le q) (by omega)
  intro m
  induction m with
  | zero =>
    intro n' i hl hn
    obtain ⟨n1, rfl⟩ := suc_of hn
    have hl5 := hE.2.2.2.1
    have hcl := cntTo_le (rowsN N) (nC N cl 0) (rowsN N).length
    rw [show i = (rowsN N).length by omega]
    rw [fX10_shown_L52, g_MwayMany, ob1_some, a_MwayMany hc, ob1_some, (hE.2.2.2.2.2 cl hc).1, if_pos (by rw [nI_leI (by omega) (by omega)]; omega)]
  | succ m ih =>
    intro n' i hl hn
    have hl5 := hE.2.2.2.1
    have skip : s.2 cl i = 0 → shT (fun j => s.2 cl j) (fun j => fareR (rowsN N) (fareP N mode cl s.1 0) j) (nC N cl 1) (i + 1) = shT (fun j => s.2 cl j) (fun j => fareR (rowsN N) (fareP N mode cl s.1 0) j) (nC N cl 1) i := fun e => by rw [shT, if_pos e]
    by_cases c1 : 1 ≤ i ∧ wEnd (rowAt (rowsN N) i) = nC N cl 0
    · obtain ⟨n1, rfl⟩ := suc_of (show m < n' by omega)
      have hv : ValR N (rowsN N) cl i := ⟨c1.1, by omega, c1.2⟩
      have hlt := cntv_lt c1.1 c1.2 (show i < (rowsN N).length by omega)
      have hcl := cntTo_le (rowsN N) (nC N cl 0) (rowsN N).length
      have hw := (hE.way hc hv).1
      have ecnt : cntTo (rowsN N) (nC N cl 0) (i + 1) = cntTo (rowsN N) (nC N cl 0) i + 1 := by rw [cntTo, if_pos c1]
      have hp := hi.pos hc hv.2.1
      have ih2 := ih n1 (i + 1) (by omega) (by omega)
      rw [ecnt] at ih2
      rw [fX10_shown_L52, g_MwayMany, ob1_some, a_MwayMany hc, ob1_some, (hE.2.2.2.2.2 cl hc).1, if_neg (by rw [nI_leI (by omega) (by omega)]; omega), g_MonWay, ob1_some, show (256 : Int32) = nI 256 from rfl, nI_mulx, nI_add, a_MonWay (by omega), ob1_some, hR.2 cl hc i hv.1 hv.2.1 hv.2.2]
      by_cases c2 : s.2 cl i = 0
      · rw [if_pos (by rw [l0, nI_leI (by omega) (by omega)]; omega), bnd_eq, nI_1, ← ih2, skip c2]
      · have hf : fX10_priceNow (B + 108) (nI mode) (nI cl) (nI (cntTo (rowsN N) (nC N cl 0) i)) (MK B n I L Q R) = some (lN (fareR (rowsN N) (fareP N mode cl s.1 0) i)) := m_priceNow hE hm hc hv hR.1 (fun q _ => hb q)
        obtain ⟨g1, g2, g3, g4⟩ := sh_gd (α := Int32) (K := none) (t := fun j => s.2 cl j) (e := fun j => fareR (rowsN N) (fareP N mode cl s.1 0) j) (m := nC N cl 1) (J := (rowsN N).length) (j := i) (by omega) (by omega) (fares_le hO hc hb) hS (by omega) c2
        rw [if_neg (by rw [l0, nI_leI (by omega) (by omega)]; omega), hf, ob1_some, g1, gd_true, g2, gd_true, g3, gd_true]
        simp only [bnd_eq]
        rw [g4, nI_1]
        exact ih2
    · have ecnt : cntTo (rowsN N) (nC N cl 0) (i + 1) = cntTo (rowsN N) (nC N cl 0) i := by rw [cntTo, if_neg c1]; rfl
      have h0' : s.2 cl i = 0 := by
        refine Nat.eq_zero_of_not_pos fun g => c1 ?_
        have := hi.2.2 cl i hc (by omega) g
        exact ⟨this.1, this.2.2⟩
      have := ih n' (i + 1) (by omega) (by omega)
      rw [ecnt, skip h0'] at this
      exact this
theorem d_shown {B n : Nat} {I : Nat → Nat → Int32} {L : Nat → Nat → Int64} {Q : Nat → Nat → Option Nat} {R : Nat → RDt} {s : STT} (h : IsM I L s) (hs : OkS s) (m c : Int32) : RunM B n I L Q R (fX10_shown (B + 108) m c (MK B n I L Q R)) (A_shown (stN s) m c, s) := by
  unfold A_shown fX10_shown
  rw [m_isMode, ob1_some]
  rcases ix_cases m (m := 3) (by decide) with ⟨mode, i1, rfl, i3⟩ | ⟨i1, i2⟩
  · rw [i3, if_neg (bS mode), m_isClass, ob1_some]
    dsimp only
    rcases ix_cases c (m := 3) (by decide) with ⟨cl, c1, rfl, c3⟩ | ⟨c1, c2⟩
    · have hn12 := (hs.1.2.2.2.2 cl c1).2.2.1
      have f1 : ∀ (I : Nat → Nat → Int32) (L : Nat → Nat → Int64), MNet L 109 (stN s) → fX10_ofClass (B + 108) (nI cl) 1 (MK B n I L Q R) = some (lN (nC (stN s) cl 1)) := fun I L hM => m_ofClass hM c1 (by decide : 1 < 4)
      rw [c3, if_neg (bS cl), f1 I L h.1, ob1_some]
      dsimp only
      by_cases c0 : nC (stN s) cl 1 = 0
      · rw [if_pos (by rw [lNz (by omega)]; exact c0), if_pos c0]
        exact RunM.same h rfl
      · rw [if_neg (by rw [lNz (by omega)]; exact c0), if_neg c0]
        obtain ⟨I1, s1, s2, s3, s4⟩ := m_steady (B := B) (n := n) (I := I) (L := L) (Q := Q) (R := R) hs.1 h.1 i1
        rw [s1, ob2_some]
        cases hw : canAll (stN s) (rowsN (stN s)) with
        | false =>
          rw [if_pos (show bz false = 0 from rfl), if_neg (show ¬ false = true by decide)]
          exact RunM.fm h (F4.fm s2) rfl
        | true =>
          obtain ⟨w1, w2, w3, w4⟩ := s4 hw
          have hO := hs.1
          have hl : (rowsN (stN s)).length ≤ 211 := rows_le hs.1
          have hd3 := nD_le hO 3 (by omega)
          have hb : ∀ q, (stF (stN s) mode (rowsN (stN s))).1.1 q ≤ 36 := fun q => Nat.le_trans (w3.le q) (by omega)
          have hS := Nat.le_trans (w3.sum_le c1) hd3
          have k2 := sh_lt (m := nC (stN s) cl 1) (by omega) (by omega) (fares_le (mode := mode) hO c1 hb) hS _ (Nat.le_refl _)
          rw [if_neg (show ¬ bz true = 0 by decide), if_pos rfl, f1 I1 L s3.1, ob1_some]
          simp only [bnd_eq]
          rw [l2f_i2f (by omega)]
          have h1' := m_shown_L52 (B := B) (n := n) (Q := Q) (R := R) i1 c1 w3 c0 s3 w1 (fun (y31 : UInt32) =>
            ob1 (fJxf58ca_floatToIntBits_5c35a y31) fun r32 =>
            some (r32, MK B n I1 L Q R)) (rowsN (stN s)).length lf 0 (by omega) (by show _ < 1000; omega)
          refine RunM.fm h (F4.fm s2) ?_
          refine Eq.trans h1' ?_
          rw [m_bits (Nat.lt_trans k2 (by decide)), ob1_some]
          rfl
    · rw [c1, if_pos bN]
      exact RunM.same h rfl
  · rw [i1, if_pos bN]
    exact RunM.same h rfl
