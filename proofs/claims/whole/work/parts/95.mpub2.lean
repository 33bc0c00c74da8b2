/-! mean, taken, busy and fix of the model -/
theorem m_div_L6 (k : Int64 → Option Int64) : ∀ (j a b n' : Nat), a < 9223372036854775808 → b < 9223372036854775808 → b < 2 ^ j → 2 * j < n' → fX10_divisor_L6 k n' (lN a) (lN b) = k (lN (Nat.gcd a b)) := by
  intro j
  induction j with
  | zero =>
    intro a b n' ha hb hj hn
    obtain ⟨n1, rfl⟩ := suc_of hn
    have : b = 0 := by have : b < 1 := hj; omega
    subst this
    rw [fX10_divisor_L6, if_pos (show lN 0 = (0 : Int64) from rfl), Nat.gcd_zero_right]
  | succ j ih =>
    intro a b n' ha hb hj hn
    obtain ⟨n1, rfl⟩ := suc_of hn
    rw [fX10_divisor_L6]
    by_cases h0 : b = 0
    · subst h0
      rw [if_pos (show lN 0 = (0 : Int64) from rfl), Nat.gcd_zero_right]
    · have hz : (decide (¬ lN b = 0)) = true := decide_eq_true (by rw [L0, pk_lEQ (by omega) (by omega)]; exact h0)
      rw [if_neg (of_decide_eq_true hz), hz, gd_true, pk_lRem (by omega) (by omega) (by omega), bnd_eq]
      have hlt := Nat.mod_lt a (show 0 < b by omega)
      have hg : Nat.gcd a b = Nat.gcd b (a % b) := by rw [Nat.gcd_comm, Nat.gcd_rec, Nat.gcd_comm]
      obtain ⟨n2, rfl⟩ := suc_of (show 0 < n1 by omega)
      rw [fX10_divisor_L6, hg]
      generalize a % b = c at hlt
      by_cases h1 : c = 0
      · subst h1
        rw [if_pos (show lN 0 = (0 : Int64) from rfl), Nat.gcd_zero_right]
      · have hz1 : (decide (¬ lN c = 0)) = true := decide_eq_true (by rw [L0, pk_lEQ (by omega) (by omega)]; exact h1)
        rw [if_neg (of_decide_eq_true hz1), hz1, gd_true, pk_lRem (by omega) (by omega) (by omega), bnd_eq]
        have hlt2 := Nat.mod_lt b (show 0 < c by omega)
        have hhalf : 2 * (b % c) < b := by
          have e1 := Nat.div_add_mod b c
          have e2 : 1 ≤ b / c := (Nat.one_le_div_iff (by omega)).mpr (by omega)
          have e3 : c * 1 ≤ c * (b / c) := Nat.mul_le_mul_left c e2
          omega
        have hg2 : Nat.gcd b c = Nat.gcd c (b % c) := by rw [Nat.gcd_comm b c, Nat.gcd_rec c b, Nat.gcd_comm]
        rw [hg2]
        exact ih c (b % c) n2 (by omega) (by omega) (by rw [Nat.pow_succ] at hj; omega) (by omega)
theorem m_partOf {a b p : Nat} (ha : a < 9223372036854775808) (hb : b < 9223372036854775808) (h0 : 0 < b) (hp : p < 2) : fX10_partOf (lN a) (lN b) (nI p) = some (lN (fracN a b p)) := by
  unfold fX10_partOf fX10_divisor
  have hg : 0 < Nat.gcd a b := Nat.gcd_pos_of_pos_right a h0
  have hgb : Nat.gcd a b ≤ b := Nat.gcd_le_right a h0
  have hz : (decide (¬ lN (Nat.gcd a b) = 0)) = true := decide_eq_true (by rw [L0, pk_lEQ (by omega) (by omega)]; omega)
  have h1 := m_div_L6 (fun (y4 : Int64) => some y4) 63 a b lf ha hb (by omega) (by decide)
  rw [h1, ob1_some]
  unfold fracN
  by_cases e : p = 0
  · subst e
    rw [if_pos (show nI 0 = (0 : Int32) from rfl), if_pos rfl, hz, gd_true, pk_lDiv (by omega) hg (by omega)]
  · rw [if_neg (by rw [l0, nI_eq (by omega) (by omega)]; exact e), if_neg e, hz, gd_true, pk_lDiv (by omega) hg (by omega)]
theorem foldS_leM (t e : Nat → Nat) : ∀ k, (foldS t e k).1 ≤ mxL
  | 0 => Nat.zero_le _
  | k + 1 => sAdd_le (foldS_leM t e k)
theorem m_mean_L54 {B n : Nat} {Q : Nat → Nat → Option Nat} {R : Nat → RDt} {N : NET} {rows : List ROW} {mode cl : Nat} {s : SST} {x3 : Int32} (hm : mode < 3) (hc : cl < 3) (hi : SInv N rows s (nD N 3)) (hd : nD N 3 ≤ 36) (k : AH → Option (Int64 × AH)) : ∀ (m n' i : Nat) (I : Nat → Nat → Int32) (L : Nat → Nat → Int64), i + m = rows.length → m < n' → EnvM I L N rows → RidM I N rows s → SumM I L (foldS (fun j => s.2 cl j) (fun j => fareR rows (fareP N mode cl s.1 0) j) i) →
    ∃ (I' : Nat → Nat → Int32) (L' : Nat → Nat → Int64), fX10_mean_L54 (B + 108) (nI mode) (nI cl) x3 k n' (nI (cntTo rows (nC N cl 0) i)) (MK B n I L Q R) = k (MK B n I' L' Q R) ∧ SumM I' L' (foldS (fun j => s.2 cl j) (fun j => fareR rows (fareP N mode cl s.1 0) j) rows.length) ∧ FS I I' L L' := by
  intro m
  induction m with
  | zero =>
    intro n' i I L hl hn hE hR hS
    obtain ⟨n1, rfl⟩ := suc_of hn
    have hl5 := hE.2.2.2.1
    have hcl := cntTo_le rows (nC N cl 0) rows.length
    rw [show i = rows.length by omega] at hS ⊢
    refine ⟨I, L, ?_, hS, FS.rf⟩
    rw [fX10_mean_L54, g_MwayMany, ob1_some, a_MwayMany hc, ob1_some, (hE.2.2.2.2.2 cl hc).1, if_pos (by rw [nI_leI (by omega) (by omega)]; omega)]
  | succ m ih =>
    intro n' i I L hl hn hE hR hS
    have hl5 := hE.2.2.2.1
    have skip : s.2 cl i = 0 → foldS (fun j => s.2 cl j) (fun j => fareR rows (fareP N mode cl s.1 0) j) (i + 1) = foldS (fun j => s.2 cl j) (fun j => fareR rows (fareP N mode cl s.1 0) j) i := fun e => foldS_skip (by show s.2 cl i * _ = 0; rw [e, Nat.zero_mul])
    by_cases c1 : 1 ≤ i ∧ wEnd (rowAt rows i) = nC N cl 0
    · obtain ⟨n1, rfl⟩ := suc_of (show m < n' by omega)
      have hv : ValR N rows cl i := ⟨c1.1, by omega, c1.2⟩
      have hlt := cntv_lt c1.1 c1.2 (show i < rows.length by omega)
      have hcl := cntTo_le rows (nC N cl 0) rows.length
      have hw := (hE.way hc hv).1
      have ecnt : cntTo rows (nC N cl 0) (i + 1) = cntTo rows (nC N cl 0) i + 1 := by rw [cntTo, if_pos c1]
      have hp := hi.pos hc hv.2.1
      have ih2 := fun I L => ih n1 (i + 1) I L (by omega) (by omega)
      rw [ecnt] at ih2
      rw [fX10_mean_L54, g_MwayMany, ob1_some, a_MwayMany hc, ob1_some, (hE.2.2.2.2.2 cl hc).1, if_neg (by rw [nI_leI (by omega) (by omega)]; omega), g_MonWay, ob1_some, show (256 : Int32) = nI 256 from rfl, nI_mulx, nI_add, a_MonWay (by omega), ob1_some, hR.2 cl hc i hv.1 hv.2.1 hv.2.2]
      by_cases c2 : s.2 cl i = 0
      · rw [if_pos (by rw [l0, nI_leI (by omega) (by omega)]; omega), bnd_eq, nI_1]
        exact ih2 I L hE hR (by rw [skip c2]; exact hS)
      · have hb : ∀ q, q < 13 → s.1 q ≤ 36 := fun q _ => by have := hi.le q; omega
        have hfr := hE.2.2.1.fare_le hE.2.1 (g := hereP N mode cl s.1) (fun q hq => pAt_le hE.2.1 hc hq (by have := hi.le q; omega)) hv.2.1
        obtain ⟨I1, L1, r1, r2, r3⟩ := m_addsProduct (B := B) (n := n) (Q := Q) (R := R) (t := s.2 cl i) (e := fareR rows (hereP N mode cl s.1) i) hS (by rw [mxL_eq]; omega) (by rw [mxL_eq]; omega)
        obtain ⟨I2, L2, s1, s2, s3⟩ := ih2 I1 L1 (hE.fs r3) (hR.fs r3) r2
        refine ⟨I2, L2, ?_, s2, r3.tr s3⟩
        rw [if_neg (by rw [l0, nI_leI (by omega) (by omega)]; omega), ob1_some, a_MonWay (by omega), ob1_some, hR.2 cl hc i hv.1 hv.2.1 hv.2.2, m_priceNow hE hm hc hv hR.1 hb, ob1_some, nI_l (by omega), r1, ob1_some, bnd_eq, nI_1]
        exact s1
    · have ecnt : cntTo rows (nC N cl 0) (i + 1) = cntTo rows (nC N cl 0) i := by rw [cntTo, if_neg c1]; rfl
      have h0 : s.2 cl i = 0 := by
        refine Nat.eq_zero_of_not_pos fun g => c1 ?_
        have := hi.2.2 cl i hc (by omega) g
        exact ⟨this.1, this.2.2⟩
      have := ih n' (i + 1) I L (by omega) (by omega) hE hR (by rw [skip h0]; exact hS)
      rw [ecnt] at this
      exact this
theorem d_mean {B n : Nat} {I : Nat → Nat → Int32} {L : Nat → Nat → Int64} {Q : Nat → Nat → Option Nat} {R : Nat → RDt} {s : STT} (h : IsM I L s) (hs : OkS s) (m c p : Int32) : RunM B n I L Q R (fX10_mean (B + 108) m c p (MK B n I L Q R)) (A_mean (stN s) m c p, s) := by
  unfold A_mean fX10_mean
  rw [m_isMode, ob1_some, NO_lit]
  rcases ix_cases m (m := 3) (by decide) with ⟨mode, i1, rfl, i3⟩ | ⟨i1, i2⟩
  · rw [i3, if_neg (bS mode), m_isClass, ob1_some]
    dsimp only
    rcases ix_cases c (m := 3) (by decide) with ⟨cl, c1, rfl, c3⟩ | ⟨c1, c2⟩
    · rw [c3, if_neg (bS cl), in2, ob1_some]
      dsimp only
      rcases ix_cases p (m := 2) (by decide) with ⟨k, k1, rfl, k3⟩ | ⟨k1, k2⟩
      · have hn12 := (hs.1.2.2.2.2 cl c1).2.2.1
        have f1 : ∀ (I : Nat → Nat → Int32) (L : Nat → Nat → Int64), MNet L 109 (stN s) → fX10_ofClass (B + 108) (nI cl) 1 (MK B n I L Q R) = some (lN (nC (stN s) cl 1)) := fun I L hM => m_ofClass hM c1 (by decide : 1 < 4)
        rw [k3, if_neg (bS k), f1 I L h.1, ob1_some]
        dsimp only
        by_cases c0 : nC (stN s) cl 1 = 0
        · rw [if_pos (by rw [lNz (by omega)]; exact c0), if_pos c0]
          exact RunM.same h rfl
        · rw [if_neg (by rw [lNz (by omega)]; exact c0), if_neg c0]
          obtain ⟨I1, s1, s2, s3, s4⟩ := m_steady (B := B) (n := n) (I := I) (L := L) (Q := Q) (R := R) hs.1 h.1 i1
          rw [s1, ob2_some]
          cases hw : canAll (stN s) (rowsN (stN s)) with
          | false =>
            rw [if_pos (show bz false = 0 from rfl), if_neg (show ¬ false = true by decide)]
            exact RunM.fm h (F4.fm s2) rfl
          | true =>
            obtain ⟨w1, w2, w3, w4⟩ := s4 hw
            have hd := nD_le hs.1 3 (by omega)
            obtain ⟨b1, b2, b3⟩ := m_begins (B := B) (n := n) (I := I1) (L := L) (Q := Q) (R := R)
            have hl : (rowsN (stN s)).length ≤ 211 := rows_le hs.1
            obtain ⟨I2, L2, t1, t2, t3⟩ := m_mean_L54 (B := B) (n := n) (Q := Q) (R := R) (x3 := nI k) i1 c1 w3 hd (fun (g34 : AH) =>
              ob1 (gI g34 (B + 108) 10 19) fun v35 =>
              if v35 = (0 : Int32) then
                ob1 (gL g34 (B + 108) 10 20) fun v37 =>
                ob1 (fX10_ofClass (B + 108) (nI cl) (1 : Int32) g34) fun r39 =>
                ob1 (fX10_partOf v37 r39 (nI k)) fun r41 =>
                some (r41, g34)
              else
                some (NOv, g34)) (rowsN (stN s)).length lf 0 (u2 I1 108 19 0) (u2 L 108 20 0) (by omega) (by show _ < 1000; omega) (s3.fs b3) (w1.fs b3) b2
            have hM2 : MNet L2 109 (stN s) := ((s3.fs b3).fs t3).1
            rw [if_neg (show ¬ bz true = 0 by decide), if_pos rfl, b1, ob1_some]
            obtain ⟨v1, v2, v3⟩ := t2
            have hmx := mx63
            refine RunM.fm h ((F4.fm s2).tr (b3.fm.tr t3.fm)) ?_
            refine t1.trans ?_
            have em : meanN (stN s) mode cl = foldS (fun j => (stF (stN s) mode (rowsN (stN s))).1.2 cl j) (fun j => fareR (rowsN (stN s)) (fareP (stN s) mode cl (stF (stN s) mode (rowsN (stN s))).1.1 0) j) (rowsN (stN s)).length := rfl
            rw [g_MisOver, ob1_some, v1, em]
            generalize foldS (fun j => (stF (stN s) mode (rowsN (stN s))).1.2 cl j) (fun j => fareR (rowsN (stN s)) (fareP (stN s) mode cl (stF (stN s) mode (rowsN (stN s))).1.1 0) j) (rowsN (stN s)).length = z at v1 v2 v3
            cases z.2 with
            | true => rw [if_neg (by decide), if_pos rfl]
            | false =>
              rw [mxL_eq] at v3
              rw [if_pos (by decide), if_neg (by decide), g_Msum0, ob1_some, v2, f1 I2 L2 hM2, ob1_some, m_partOf (by omega) (by omega) (by omega) k1, ob1_some]
      · rw [k1, if_pos bN]
        exact RunM.same h rfl
    · rw [c1, if_pos bN]
      exact RunM.same h rfl
  · rw [i1, if_pos bN]
    exact RunM.same h rfl
/-! taken -/
theorem foldS_0 {t e : Nat → Nat} (h : ∀ j, e j = 0) : ∀ k, foldS t e k = (0, false)
  | 0 => rfl
  | k + 1 => by rw [foldS_skip (by rw [h k, Nat.mul_zero]), foldS_0 h k]
theorem m_taken_L25 {B n : Nat} {Q : Nat → Nat → Option Nat} {R : Nat → RDt} {N : NET} {mode : Nat} {ld : Nat → Nat} (hO : NetOK N) (hm : mode < 3) (hb : ∀ q, q < 13 → ld q ≤ 36) (k : AH → Option (Int64 × AH)) : ∀ (m n' i : Nat) (I : Nat → Nat → Int32) (L : Nat → Nat → Int64), i + m = nM N → m < n' → MNet L 109 N → (∀ q, q < 13 → I 120 q = nI (ld q)) → SumM I L (foldS ld (takenP N mode ld) i) → ∃ (I' : Nat → Nat → Int32) (L' : Nat → Nat → Int64), fX10_taken_L25 (B + 108) (nI mode) k n' (nI i) (MK B n I L Q R) = k (MK B n I' L' Q R) ∧ SumM I' L' (foldS ld (takenP N mode ld) (nM N)) ∧ FS I I' L L' := by
  have h13 := hO.2.2.1
  intro m
  induction m with
  | zero =>
    intro n' i I L hl hn hM hq hS
    obtain ⟨n1, rfl⟩ := suc_of hn
    rw [show i = nM N by omega] at hS ⊢
    refine ⟨I, L, ?_, hS, FS.rf⟩
    rw [fX10_taken_L25, m_roadMany hM h13, ob1_some, if_pos (by rw [nI_leI (by omega) (by omega)]; omega)]
  | succ m ih =>
    intro n' i I L hl hn hM hq hS
    obtain ⟨n1, rfl⟩ := suc_of hn
    have hi13 : i < 13 := by omega
    have hbi := hb i hi13
    have htl := (hO.2.2.2.1 i (by omega)).2.2.2.2
    have f7 : fX10_ofRoad (B + 108) (nI i) 7 (MK B n I L Q R) = some (lN (nTl N i)) := m_ofRoad hM h13 (by omega) (by decide : 7 < 8)
    have hls := rLoss_le (r := i) (x := ld i) hO (by omega) (by omega)
    rw [fX10_taken_L25, m_roadMany hM h13, ob1_some, if_neg (by rw [nI_leI (by omega) (by omega)]; omega)]
    by_cases c0 : mode = 0
    · have hz : ∀ j, takenP N mode ld j = 0 := fun j => by unfold takenP; rw [if_neg (by omega), if_neg (by omega)]
      rw [foldS_0 hz] at hS ⊢
      rw [if_pos (by rw [l0, nI_leI (by omega) (by omega)]; omega)]
      exact ⟨I, L, rfl, hS, FS.rf⟩
    · have step : ∀ e, e = takenP N mode ld i → e ≤ 9000000000000000 → ∃ (I' : Nat → Nat → Int32) (L' : Nat → Nat → Int64), (ob1 (fX10_addsProduct (B + 108) (lN (ld i)) (lN e) (MK B n I L Q R)) fun g25 => fX10_taken_L25 (B + 108) (nI mode) k n1 (nI (i + 1)) g25) = k (MK B n I' L' Q R) ∧ SumM I' L' (foldS ld (takenP N mode ld) (nM N)) ∧ FS I I' L L' := fun e he he2 => by
        obtain ⟨I1, L1, r1, r2, r3⟩ := m_addsProduct (B := B) (n := n) (Q := Q) (R := R) (t := ld i) (e := e) hS (by rw [mxL_eq]; omega) (by rw [mxL_eq]; omega)
        rw [he] at r2
        obtain ⟨I2, L2, s1, s2, s3⟩ := ih n1 (i + 1) I1 L1 (by omega) (by omega) (by unfold MNet at *; rw [(r3.1 109 (by decide)).2]; exact hM) (fun q hq13 => by rw [(r3.1 120 (by decide)).1]; exact hq q hq13) r2
        exact ⟨I2, L2, by rw [r1, ob1_some]; exact s1, s2, r3.tr s3⟩
      rw [if_neg (by rw [l0, nI_leI (by omega) (by omega)]; omega), g_Mloads, ob1_some, a_Mloads hi13, ob1_some, hq i hi13, nI_l (by omega)]
      by_cases c1 : mode = 1
      · obtain ⟨I', L', r1, r2⟩ := step (nTl N i) (by unfold takenP; rw [if_pos c1]) (by omega)
        refine ⟨I', L', ?_, r2⟩
        rw [if_pos (by rw [c1]; rfl), f7, ob1_some]
        simp only [bnd_eq, nI_1]
        exact r1
      · obtain ⟨I', L', r1, r2⟩ := step (rLoss (nRd N i) (ld i)) (by unfold takenP; rw [if_neg c1, if_pos (by omega)]) (by omega)
        refine ⟨I', L', ?_, r2⟩
        rw [if_neg (by rw [l1, nI_eq (by omega) (by omega)]; exact c1), ob1_some, a_Mloads hi13, ob1_some, hq i hi13, m_lossBy hM hO (by omega) (by omega), ob1_some]
        simp only [bnd_eq, nI_1]
        exact r1
theorem d_taken {B n : Nat} {I : Nat → Nat → Int32} {L : Nat → Nat → Int64} {Q : Nat → Nat → Option Nat} {R : Nat → RDt} {s : STT} (h : IsM I L s) (hs : OkS s) (m : Int32) : RunM B n I L Q R (fX10_taken (B + 108) m (MK B n I L Q R)) (A_taken (stN s) m, s) := by
  unfold A_taken fX10_taken
  rw [m_isMode, ob1_some, NO_lit]
  rcases ix_cases m (m := 3) (by decide) with ⟨mode, i1, rfl, i3⟩ | ⟨i1, i2⟩
  · obtain ⟨I1, s1, s2, s3, s4⟩ := m_steady (B := B) (n := n) (I := I) (L := L) (Q := Q) (R := R) hs.1 h.1 i1
    rw [i3, if_neg (bS mode), s1, ob2_some]
    dsimp only
    cases hw : canAll (stN s) (rowsN (stN s)) with
    | false =>
      rw [if_pos (show bz false = 0 from rfl), if_neg (show ¬ false = true by decide)]
      exact RunM.fm h (F4.fm s2) rfl
    | true =>
      obtain ⟨w1, w2, w3, w4⟩ := s4 hw
      have hd := nD_le hs.1 3 (by omega)
      have h12 := hs.2.1
      obtain ⟨b1, b2, b3⟩ := m_begins (B := B) (n := n) (I := I1) (L := L) (Q := Q) (R := R)
      obtain ⟨I2, L2, t1, t2, t3⟩ := m_taken_L25 (B := B) (n := n) (Q := Q) (R := R) hs.1 i1 (ld := (stF (stN s) mode (rowsN (stN s))).1.1) (fun q _ => by have := w3.le q; omega) (fun (g31 : AH) =>
        ob1 (gI g31 (B + 108) 10 19) fun v32 =>
        if v32 = (0 : Int32) then
          ob1 (gL g31 (B + 108) 10 20) fun v34 =>
          some (v34, g31)
        else
          some (NOv, g31)) (nM (stN s)) lf 0 (u2 I1 108 19 0) (u2 L 108 20 0) (by omega) (by show _ < 1000; omega) (s3.fs b3).1 (w1.fs b3).1 b2
      rw [if_neg (show ¬ bz true = 0 by decide), if_pos rfl, b1, ob1_some]
      obtain ⟨v1, v2, v3⟩ := t2
      refine RunM.fm h ((F4.fm s2).tr (b3.fm.tr t3.fm)) ?_
      refine t1.trans ?_
      have em : takenN (stN s) mode = foldS (stF (stN s) mode (rowsN (stN s))).1.1 (takenP (stN s) mode (stF (stN s) mode (rowsN (stN s))).1.1) (nM (stN s)) := rfl
      rw [g_MisOver, ob1_some, v1, em]
      generalize foldS (stF (stN s) mode (rowsN (stN s))).1.1 (takenP (stN s) mode (stF (stN s) mode (rowsN (stN s))).1.1) (nM (stN s)) = z at v1 v2 v3
      unfold sumA
      cases z.2 with
      | true => rw [if_neg (by decide), if_pos rfl]
      | false => rw [if_pos (by decide), if_neg (by decide), g_Msum0, ob1_some, v2]
  · rw [i1, if_pos bN]
    exact RunM.same h rfl
