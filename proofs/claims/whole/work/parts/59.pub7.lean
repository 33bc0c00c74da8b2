/-! prices, ranks, sums over steady loads -/
theorem SInv.rd0 {N : NET} {rows : List ROW} {s : SST} {D : Nat} (hi : SInv N rows s D) {c : Nat} (hc : c < 3) : s.2 c 0 = 0 := by
  rcases Nat.eq_zero_or_pos (s.2 c 0) with h | h
  · exact h
  · exact absurd (hi.2.2 c 0 hc (by decide) h).1 (by decide)
theorem SInv.rd_le {N : NET} {rows : List ROW} {s : SST} {D : Nat} (hi : SInv N rows s D) {c j : Nat} (hc : c < 3) (hj : j < rows.length) : s.2 c j ≤ D := by
  have h : (sumN 3 fun c => sumN rows.length fun j => s.2 c j * 1) = D := hi.2.1
  have h1 : (sumN rows.length fun j => s.2 c j * 1) ≤ _ := sumN_ge (f := fun c => sumN rows.length fun j => s.2 c j * 1) 3 hc
  have h2 : s.2 c j * 1 ≤ _ := sumN_ge (f := fun j => s.2 c j * 1) rows.length hj
  omega
theorem RepC.u63 {B n : Nat} {I : Nat → Nat → Int32} {L : Nat → Nat → Int64} {Q : Nat → Nat → Option Nat} {R : Nat → RDt} {I' : Nat → Nat → Int32} {L' : Nat → Nat → Int64} {s : STT} {fp : Bool} {fs : Nat → Bool} {fc : Bool} (h : RepC B n I L Q R s fp fs fc) (hI : ∀ a, a ≠ 62 → a ≠ 63 → I' a = I a) (hL : ∀ a, a ≠ 63 → L' a = L a) : RepC B n I' L' Q R s fp fs fc := by
  obtain ⟨hC, hK, hF⟩ := h
  exact ⟨hC.same (by rw [hI 0 (by decide) (by decide)]) (fun a ha => hI a (by omega) (by omega)) (fun a ha => hL a (by omega)), hK.same (by rw [hI 0 (by decide) (by decide)]) (by rw [hI 0 (by decide) (by decide)]) (fun a ha => hI a (by omega) (by omega)) (fun a ha => hL a (by omega)), hF.same (fun a b1 b2 => hI a (by omega) (by omega)) (fun x hx => hL _ (by unfold isS at hx; omega))⟩
/-- sums of products, in order -/
def foldS (t e : Nat → Nat) : Nat → Nat × Bool
  | 0 => (0, false)
  | k + 1 => sAdd (foldS t e k) (t k) (e k)
def sumA (v : Nat × Bool) : Int64 := if v.2 = true then NOv else lN v.1
/-! price -/
def A_price (N : NET) (m c w y : Int32) : Int64 := match rowA N c w with
  | some q => (match ix m 3 with
    | some mode => (match ix y 2 with
      | some k => if canAll N (rowsN N) = true then lN (fareR (rowsN N) (fareP N mode q.1 (stF N mode (rowsN N)).1.1 k) q.2) else NOv
      | none => NOv)
    | none => NOv)
  | none => NOv
theorem c_price {B n : Nat} {I : Nat → Nat → Int32} {L : Nat → Nat → Int64} {Q : Nat → Nat → Option Nat} {R : Nat → RDt} {s : STT} (h : IsC B n I L Q R s) (m c w y : Int32) : RunC B I L (fX9_price B m c w y (MK B n I L Q R)) (A_price (stN s) m c w y, s) := by
  obtain ⟨fp, fs, fc, h0⟩ := id h
  obtain ⟨I1, fp', r1, r2, r3⟩ := c_rowOf (c := c) (w := w) h0
  have hfr : ∀ a, 108 ≤ a → I1 a = I a ∧ L a = L a := fun a ha => ⟨r2 a (by omega), rfl⟩
  have hO := h0.1.2.2.1
  have hl : (rowsN (stN s)).length ≤ 211 := rows_le hO
  unfold A_price fX9_price
  rcases r3 with ⟨cl, j, e1, e2, e3, e4, e5, e6, e7, e8⟩ | ⟨e1, e2⟩
  · rw [e8, e1, ob2_some, ix3, ob1_some, NO_lit]
    dsimp only
    rcases ix_cases m (m := 3) (by decide) with ⟨mode, h1, rfl, h3⟩ | ⟨h1, h2⟩
    · rw [h3, if_neg (bS mode), if_neg (nI_pos (by omega)), ix2, ob1_some]
      dsimp only
      rcases ix_cases y (m := 2) (by decide) with ⟨k, k1, rfl, k3⟩ | ⟨k1, k2⟩
      · rw [k3, if_neg (bS k)]
        dsimp only
        obtain ⟨I', L', fs', t1, t2, t3, t4, t5⟩ := e_steadyOf r1 h1
        obtain ⟨hC, ⟨c1, c2, c3, c4, c5, c6⟩, hF⟩ := id t2
        obtain ⟨s1, s2⟩ := (c5 mode h1 t3).2
        have hx := isSm h1
        refine RunC.rep t2 (fun a ha => ⟨by rw [(t5 a (by omega)).1, r2 a (by omega)], (t5 a (by omega)).2⟩) ?_
        rw [t1, ob2_some, g_stands hx, ob1_some, s1]
        cases hc : canAll (stN s) (rowsN (stN s)) with
        | false => rfl
        | true =>
          obtain ⟨q1, q2, q3, q4⟩ := s2 hc
          have hd3 := nD_le hO 3 (by omega)
          have hf := e_fare hC.2.1 hO (c4 rfl) (rows_wf _ _) hl h1 e2 e5 q1 (fun q => Nat.le_trans (q4.le q) (by omega)) k1
          rw [if_neg (by decide), e3, hf, ob1_some, if_pos rfl]
      · rw [k1, if_pos bN]
        exact RunC.rep r1 hfr rfl
    · rw [h1, if_pos bN]
      exact RunC.rep r1 hfr rfl
  · rw [e2, e1, ob2_some, ix3, ob1_some, NO_lit]
    dsimp only
    rcases ix_cases m (m := 3) (by decide) with ⟨mode, h1, rfl, h3⟩ | ⟨h1, h2⟩
    · rw [h3, if_neg (bS mode), if_pos (by decide)]
      exact RunC.rep r1 hfr rfl
    · rw [h1, if_pos bN]
      exact RunC.rep r1 hfr rfl
/-! rank of a road -/
def rankN (ld : Nat → Nat) (m r : Nat) : Nat := sumN m fun q => if ld r < ld q ∨ (ld q = ld r ∧ q < r) then 1 else 0
theorem e_rank_L5 {B n : Nat} {I : Nat → Nat → Int32} {L : Nat → Nat → Int64} {Q : Nat → Nat → Option Nat} {R : Nat → RDt} {x m r : Nat} {ld : Nat → Nat} (hx : isS x) (hm : m ≤ 13) (hr : r < m) (hl : ∀ q, q < 13 → I (x + 1) q = nI (ld q)) (hb : ∀ q, ld q ≤ 36) (k : Int32 → Option Int32) :
    ∀ (f n' q : Nat), q + f = m → f < n' → fX5_busierThan_L5 (B + x) (nI r) (nI m) (MK B n I L Q R) k n' (nI (rankN ld q r)) (nI q) = k (nI (rankN ld m r)) := by
  intro f
  induction f with
  | zero =>
    intro n' q hq hn
    obtain ⟨n1, rfl⟩ := suc_of hn
    rw [fX5_busierThan_L5, if_pos (by rw [nI_leI (by omega) (by omega)]; omega), show q = m by omega]
  | succ f ih =>
    intro n' q hq hn
    obtain ⟨n1, rfl⟩ := suc_of hn
    have h1 := ih n1 (q + 1) (by omega) (by omega)
    have hd : rankN ld (q + 1) r = rankN ld q r + (if ld r < ld q ∨ (ld q = ld r ∧ q < r) then 1 else 0) := rfl
    have hq1 := hl q (by omega)
    have hr1 := hl r (by omega)
    have b1 := hb q
    have b2 := hb r
    have z0 : ((1 : Int32) = 0) = False := by decide
    have z9 : ∀ a : Int32, a + 0 = a := Int32.add_zero
    rw [hd] at h1
    rw [fX5_busierThan_L5, if_neg (by rw [nI_leI (by omega) (by omega)]; omega), g_loads hx, ob1_some, a_loads hx (by omega), ob1_some, ob1_some, a_loads hx (by omega), ob1_some, hq1, hr1, bnd_eq]
    by_cases c1 : ld r < ld q
    · rw [if_pos (Or.inl c1)] at h1
      rw [if_pos (by rw [nI_ltI (by omega) (by omega)]; exact c1)]
      dsimp only
      rw [if_neg (by decide), bnd_eq, bnd_eq, nI_1, nI_1]
      exact h1
    · rw [if_neg (by rw [nI_ltI (by omega) (by omega)]; exact c1), ob1_some, a_loads hx (by omega), ob1_some, ob1_some, a_loads hx (by omega), ob1_some, hq1, hr1, bnd_eq]
      dsimp only
      by_cases c2 : ld q = ld r
      · rw [if_pos (by rw [c2])]
        by_cases c3 : q < r
        · rw [if_pos (Or.inr ⟨c2, c3⟩)] at h1
          rw [if_neg (by rw [nI_leI (by omega) (by omega)]; omega), if_neg (by decide), bnd_eq, bnd_eq, nI_1, nI_1]
          exact h1
        · rw [if_neg (by omega), Nat.add_zero] at h1
          rw [if_pos (by rw [nI_leI (by omega) (by omega)]; omega), if_pos rfl, bnd_eq, bnd_eq, z9, nI_1]
          exact h1
      · rw [if_neg (by omega), Nat.add_zero] at h1
        rw [if_neg (by rw [nI_eq (by omega) (by omega)]; exact c2), if_pos rfl, bnd_eq, bnd_eq, z9, nI_1]
        exact h1
theorem e_rank {B n : Nat} {I : Nat → Nat → Int32} {L : Nat → Nat → Int64} {Q : Nat → Nat → Option Nat} {R : Nat → RDt} {x m r : Nat} {ld : Nat → Nat} (hx : isS x) (hm : m ≤ 13) (hr : r < m) (hl : ∀ q, q < 13 → I (x + 1) q = nI (ld q)) (hb : ∀ q, ld q ≤ 36) : fX5_busierThan (B + x) (nI r) (nI m) (MK B n I L Q R) = some (nI (rankN ld m r)) := by
  unfold fX5_busierThan
  exact e_rank_L5 hx hm hr hl hb _ m lf 0 (by omega) (by show m < 1000; omega)
/-- the first road whose rank it is -/
def scanR (f : Nat → Nat) (k : Nat) : Nat → Nat → Int32
  | 0, _ => -1
  | m + 1, c => if f c = k then nI c else scanR f k m (c + 1)
def A_busy (N : NET) (m k : Int32) : Int32 := match ix m 3 with
  | some mode => (match ix k (nM N) with
    | some q => if canAll N (rowsN N) = true then scanR (rankN (stF N mode (rowsN N)).1.1 (nM N)) q (nM N) 0 else -3
    | none => -1)
  | none => -1
theorem rank_le (ld : Nat → Nat) (m r : Nat) : rankN ld m r ≤ m := by
  have := sumN_le (f := fun q => if ld r < ld q ∨ (ld q = ld r ∧ q < r) then 1 else 0) (b := 1) m (fun j _ => by
    by_cases c : ld r < ld j ∨ (ld j = ld r ∧ j < r)
    · simp only [if_pos c]; exact Nat.le_refl _
    · simp only [if_neg c]; exact Nat.zero_le _)
  unfold rankN
  omega
theorem e_busy_L40 {B n : Nat} {I : Nat → Nat → Int32} {L : Nat → Nat → Int64} {Q : Nat → Nat → Option Nat} {R : Nat → RDt} {x k : Nat} {N : NET} {ld : Nat → Nat} (hx : isS x) (hN : NetIs B n I L Q R 1 N) (hm : nM N ≤ 12) (hk : k < nM N) (hl : ∀ q, q < 13 → I (x + 1) q = nI (ld q)) (hb : ∀ q, ld q ≤ 36) :
    ∀ (f n' c : Nat), c + f = nM N → f < n' → fX9_busy_L40 B (nI k) (B + x) (MK B n I L Q R) (some (-1, (MK B n I L Q R))) n' (nI c) = some (scanR (rankN ld (nM N)) k f c, (MK B n I L Q R)) := by
  have hM := hN.2.1
  intro f
  induction f with
  | zero =>
    intro n' c hc hn
    obtain ⟨n1, rfl⟩ := suc_of hn
    rw [fX9_busy_L40, g_Wnow, ob1_some, g_size isN1, ob1_some, hM, if_pos (by rw [nI_leI (by omega) (by omega)]; omega)]
    rfl
  | succ f ih =>
    intro n' c hc hn
    obtain ⟨n1, rfl⟩ := suc_of hn
    have hle := rank_le ld (nM N) c
    rw [fX9_busy_L40, g_Wnow, ob1_some, g_size isN1, ob1_some, hM, if_neg (by rw [nI_leI (by omega) (by omega)]; omega), ob1_some, g_size isN1, ob1_some, hM, k_Steady hx, gd_true, e_rank hx (by omega) (by omega) hl hb, ob1_some, scanR]
    by_cases e : rankN ld (nM N) c = k
    · rw [if_pos e, if_pos (by rw [e])]
    · rw [if_neg e, if_neg (by rw [nI_eq (by omega) (by omega)]; exact e), bnd_eq, nI_1]
      exact ih n1 (c + 1) (by omega) (by omega)
theorem c_busy {B n : Nat} {I : Nat → Nat → Int32} {L : Nat → Nat → Int64} {Q : Nat → Nat → Option Nat} {R : Nat → RDt} {s : STT} (h : IsC B n I L Q R s) (m k : Int32) : RunC B I L (fX9_busy B m k (MK B n I L Q R)) (A_busy (stN s) m k, s) := by
  obtain ⟨fp, fs, fc, h0⟩ := id h
  have hN := h0.1.2.1
  have hO := h0.1.2.2.1
  have hm := h0.1.2.2.2.1
  unfold A_busy fX9_busy
  rw [ix3, ob1_some]
  rcases ix_cases m (m := 3) (by decide) with ⟨mode, h1, rfl, h3⟩ | ⟨h1, h2⟩
  · rw [h3, if_neg (bS mode), g_Wnow, ob1_some, k_Net isN1, gd_true, hasRoad_ix isN1 hN (by omega), ob1_some]
    dsimp only
    rcases ix_cases k (m := nM (stN s)) (by omega) with ⟨q, q1, rfl, q3⟩ | ⟨q1, q2⟩
    · rw [q3, if_neg (bS q)]
      dsimp only
      obtain ⟨I', L', fs', r1, r2, r3, r4, r5⟩ := e_steadyOf h0 h1
      obtain ⟨hC, ⟨c1, c2, c3, c4, c5, c6⟩, hF⟩ := id r2
      obtain ⟨s1, s2⟩ := (c5 mode h1 r3).2
      have hx := isSm h1
      refine RunC.rep r2 (fun a ha => r5 a (by omega)) ?_
      rw [r1, ob2_some, g_stands hx, ob1_some, s1]
      cases hc : canAll (stN s) (rowsN (stN s)) with
      | false => rfl
      | true =>
        obtain ⟨t1, t2, t3, t4⟩ := s2 hc
        have hd3 := nD_le hO 3 (by omega)
        rw [if_neg (by decide), if_pos rfl]
        exact e_busy_L40 hx hC.2.1 hm q1 t1.1 (fun q => Nat.le_trans (t4.le q) (by omega)) (nM (stN s)) lf 0 (by omega) (by show _ < 1000; omega)
    · rw [q1, if_pos bN]
      exact RunC.same h rfl
  · rw [h1, if_pos bN]
    exact RunC.same h rfl
/-! the mean of what drivers pay -/
def meanN (N : NET) (mode cl : Nat) : Nat × Bool := foldS (fun j => (stF N mode (rowsN N)).1.2 cl j) (fun j => fareR (rowsN N) (fareP N mode cl (stF N mode (rowsN N)).1.1 0) j) (rowsN N).length
def A_mean (N : NET) (m c p : Int32) : Int64 := match ix m 3 with
  | some mode => (match ix c 3 with
    | some cl => (match ix p 2 with
      | some k => if nC N cl 1 = 0 then NOv else if canAll N (rowsN N) = true then (if (meanN N mode cl).2 = true then NOv else lN (fracN (meanN N mode cl).1 (nC N cl 1) k)) else NOv
      | none => NOv)
    | none => NOv)
  | none => NOv
theorem foldS_le (t e : Nat → Nat) : ∀ k, (foldS t e k).1 ≤ mxL
  | 0 => Nat.zero_le _
  | k + 1 => by
    have h := foldS_le t e k
    show (sAdd (foldS t e k) (t k) (e k)).1 ≤ mxL
    unfold sAdd
    by_cases c : (foldS t e k).2 = true
    · rw [if_pos c]; exact h
    · rw [if_neg c]
      by_cases g : (foldS t e k).1 + t k * e k ≤ mxL
      · rw [if_pos g]; exact g
      · rw [if_neg g]; exact h
theorem foldS_skip {t e : Nat → Nat} {k : Nat} (h : t k * e k = 0) : foldS t e (k + 1) = foldS t e k := sAdd_0 h (foldS_le t e k)
theorem e_mean_L75 {B n : Nat} {Ia : Nat → Nat → Int32} {La : Nat → Nat → Int64} {Q : Nat → Nat → Option Nat} {R : Nat → RDt} {N : NET} {mode cl : Nat} {s : SST} {x3 x4 : Int32} (hm : mode < 3) (hcl : cl < 3) (hN : NetIs B n Ia La Q R 1 N) (hO : NetOK N) (hP : PathsIs Ia 17 (rowsN N)) (hl : LoadsIs Ia (64 + 10 * mode) s.1 s.2) (hi : SInv N (rowsN N) s (nD N 3)) (k : AH → Option (Int64 × AH)) :
    ∀ (f n' j : Nat) (I : Nat → Nat → Int32) (L : Nat → Nat → Int64), j + f = (rowsN N).length → f < n' → (∀ a, a ≠ 63 → I a = Ia a) → (∀ a, a ≠ 63 → L a = La a) → SumIs I L 63 (foldS (fun j => s.2 cl j) (fun j => fareR (rowsN N) (fareP N mode cl s.1 0) j) j) →
    ∃ (I' : Nat → Nat → Int32) (L' : Nat → Nat → Int64), fX9_mean_L75 B (nI mode) (nI cl) x3 x4 (B + (64 + 10 * mode)) k n' (nI j) (MK B n I L Q R) = k (MK B n I' L' Q R) ∧ (∀ a, a ≠ 63 → I' a = Ia a) ∧ (∀ a, a ≠ 63 → L' a = La a) ∧ SumIs I' L' 63 (foldS (fun j => s.2 cl j) (fun j => fareR (rowsN N) (fareP N mode cl s.1 0) j) (rowsN N).length) := by
  have h211 : (rowsN N).length ≤ 211 := rows_le hO
  have hx := isSm hm
  have hd3 := nD_le hO 3 (by omega)
  intro f
  induction f with
  | zero =>
    intro n' j I L hj hn hI hL hS
    obtain ⟨n1, rfl⟩ := suc_of hn
    have hP1 : PathsIs I 17 (rowsN N) := hP.same (fun k _ _ => hI k (by omega))
    refine ⟨I, L, ?_, hI, hL, by rw [← show j = (rowsN N).length by omega]; exact hS⟩
    rw [fX9_mean_L75, g_Wpaths, ob1_some, g_count isP17, ob1_some, hP1.1, if_pos (by rw [nI_leI (by omega) (by omega)]; omega)]
  | succ f ih =>
    intro n' j I L hj hn hI hL hS
    obtain ⟨n1, rfl⟩ := suc_of hn
    have hP1 : PathsIs I 17 (rowsN N) := hP.same (fun k _ _ => hI k (by omega))
    have hN1 : NetIs B n I L Q R 1 N := hN.same (fun k _ _ => hI k (by omega)) (by rw [hL _ (by omega)])
    have hl1 : LoadsIs I (64 + 10 * mode) s.1 s.2 := ⟨fun q hq => by rw [hI _ (by omega)]; exact hl.1 q hq, fun c j hc hj => by rw [hI _ (by omega)]; exact hl.2 c j hc hj⟩
    have hrd := hl1.2 cl j hcl (by omega)
    have hrl := hi.rd_le hcl (show j < (rowsN N).length by omega)
    rw [fX9_mean_L75, g_Wpaths, ob1_some, g_count isP17, ob1_some, hP1.1, if_neg (by rw [nI_leI (by omega) (by omega)]; omega), g_riders hx, ob1_some, r_riders hx hcl, ob1_some, a_rider hx hcl (by omega), ob1_some, hrd]
    by_cases c : s.2 cl j = 0
    · rw [if_pos (by rw [c]; decide), bnd_eq, nI_1]
      exact ih n1 (j + 1) I L (by omega) (by omega) hI hL (by rw [foldS_skip (by rw [c, Nat.zero_mul])]; exact hS)
    · have hf := e_fare hN1 hO hP1 (rows_wf _ _) h211 hm hcl (show j < (rowsN N).length by omega) hl1 (fun q => Nat.le_trans (hi.le q) (by omega)) (show 0 < 2 by decide)
      have hg : fareR (rowsN N) (fareP N mode cl s.1 0) j ≤ 5500000000000000000 := (rows_wf N _).fare_le hO (fun q hq => show pAt N mode cl q (max 1 (s.1 q + 0)) ≤ PB from pAt_le hO hcl hq (by have := hi.le q; omega)) (show j < (rowsN N).length by omega)
      obtain ⟨v', o', a1, a2, a3, a4⟩ := e_add (B := B) (n := n) (Q := Q) (R := R) isU63 hS (t := s.2 cl j) (e := fareR (rowsN N) (fareP N mode cl s.1 0) j) (by rw [mxL_eq]; omega) (by rw [mxL_eq]; omega)
      obtain ⟨I', L', r1, r2⟩ := ih n1 (j + 1) (u2 I 63 1 o') (u2 L 63 0 v') (by omega) (by omega) (fun a ha => by rw [u2_nk ha]; exact hI a ha) (fun a ha => by rw [u2_nk ha]; exact hL a ha) (add_is a2 a3 a4)
      refine ⟨I', L', ?_, r2⟩
      have hf' : fX9_fare B (nI mode) (nI cl) (nI j) 0 (MK B n I L Q R) = some (lN (fareR (rowsN N) (fareP N mode cl s.1 0) j)) := hf
      rw [← r1, if_neg (by rw [l0, nI_leI (by omega) (by omega)]; omega), g_Wsum, ob1_some, ob1_some, r_riders hx hcl, ob1_some, a_rider hx hcl (by omega), ob1_some, hrd, hf', ob1_some, k_Sum isU63, gd_true, nI_l (by omega), a1, ob1_some, bnd_eq, nI_1]
theorem c_mean {B n : Nat} {I : Nat → Nat → Int32} {L : Nat → Nat → Int64} {Q : Nat → Nat → Option Nat} {R : Nat → RDt} {s : STT} (h : IsC B n I L Q R s) (m c p : Int32) : RunC B I L (fX9_mean B m c p (MK B n I L Q R)) (A_mean (stN s) m c p, s) := by
  obtain ⟨fp, fs, fc, h0⟩ := id h
  have hN := h0.1.2.1
  have hO := h0.1.2.2.1
  have h211 : (rowsN (stN s)).length ≤ 211 := rows_le hO
  unfold A_mean fX9_mean
  rw [ix3, ob1_some, NO_lit]
  rcases ix_cases m (m := 3) (by decide) with ⟨mode, h1, rfl, h3⟩ | ⟨h1, h2⟩
  · rw [h3, if_neg (bS mode), ix3, ob1_some]
    dsimp only
    rcases ix_cases c (m := 3) (by decide) with ⟨cl, j1, rfl, j3⟩ | ⟨j1, j2⟩
    · rw [j3, if_neg (bS cl), ix2, ob1_some]
      dsimp only
      rcases ix_cases p (m := 2) (by decide) with ⟨k, k1, rfl, k3⟩ | ⟨k1, k2⟩
      · have hcr := hN.2.2.2.2.2 cl 1 j1 (by decide)
        have hcb := (hO.2.2.2.2 cl j1).2.2.1
        obtain ⟨I', L', fs', r1, r2, r3, r4, r5⟩ := e_steadyOf h0 h1
        rw [k3, if_neg (bS k), g_Wnow, ob1_some, g_crowds isN1, ob1_some, r_crowds isN1 j1, ob1_some, show (1 : Int32) = nI 1 from rfl, a_crowd isN1 j1 (by decide), ob1_some, hcr, r1, ob2_some]
        dsimp only
        by_cases e : nC (stN s) cl 1 = 0
        · rw [if_pos e, if_pos (by rw [e]; rfl)]
          exact RunC.rep r2 (fun a ha => r5 a (by omega)) rfl
        · obtain ⟨hC, ⟨c1, c2, c3, c4, c5, c6⟩, hF⟩ := id r2
          obtain ⟨s1, s2⟩ := (c5 mode h1 r3).2
          have hx := isSm h1
          rw [if_neg e, if_neg (by rw [show (0 : Int32) = nI 0 from rfl, nI_eq (by omega) (by omega)]; exact e), g_stands hx, ob1_some, s1]
          cases hc : canAll (stN s) (rowsN (stN s)) with
          | false => exact RunC.rep r2 (fun a ha => r5 a (by omega)) rfl
          | true =>
            obtain ⟨t1, t2, t3, t4⟩ := s2 hc
            rw [if_neg (by decide), if_pos rfl, g_Wsum, ob1_some, k_Sum isU63, gd_true, e_reset isU63, ob1_some]
            obtain ⟨I2, L2, u1, u2', u3, u4⟩ := e_mean_L75 (x3 := nI k) (x4 := nI (nC (stN s) cl 1)) (s := (stF (stN s) mode (rowsN (stN s))).1) h1 j1 hC.2.1 hO (c4 rfl) t1 t4 (fun (g52 : AH) =>
              ob1 (gR g52 B 9 16) fun b53 =>
              ob1 (gI g52 b53 6 1) fun v55 =>
              if v55 = (0 : Int32) then
                ob1 (gR g52 B 9 16) fun b57 =>
                ob1 (gL g52 b57 6 0) fun v59 =>
                ob1 (fX9_fractionPart v59 (Int32.toInt64 (nI (nC (stN s) cl 1))) (nI k)) fun r61 =>
                some (r61, g52)
              else
                some (NOv, g52)) ((rowsN (stN s)).length - 1) lf 1 (u2 I' 63 1 0) (u2 L' 63 0 0) (by have := rows_pos (stN s) (fun _ => true); unfold rowsN at *; omega) (by show _ < 1000; omega) (fun a ha => u2_nk ha) (fun a ha => u2_nk ha) (by
                  have e1 : foldS (fun j => (stF (stN s) mode (rowsN (stN s))).1.2 cl j) (fun j => fareR (rowsN (stN s)) (fareP (stN s) mode cl (stF (stN s) mode (rowsN (stN s))).1.1 0) j) 1 = (0, false) := by
                    rw [show (1 : Nat) = 0 + 1 from rfl, foldS_skip (by rw [t4.rd0 j1, Nat.zero_mul])]
                    rfl
                  rw [e1]
                  exact reset_is)
            have hR := r2.u63 (fun a h1 h2 => u2' a h2) u3
            refine RunC.rep hR (fun a ha => ⟨by rw [u2' a (by omega), (r5 a (by omega)).1], by rw [u3 a (by omega), (r5 a (by omega)).2]⟩) ?_
            refine Eq.trans u1 ?_
            obtain ⟨w1, w2, w3⟩ := u4
            have w3' : (meanN (stN s) mode cl).1 ≤ mxL := w3
            have hmx := mxL_eq
            have w1 : L2 63 0 = lN (meanN (stN s) mode cl).1 := w1
            have w2 : I2 63 1 = bz (meanN (stN s) mode cl).2 := w2
            rw [g_Wsum, ob1_some, g_isOver isU63, ob1_some, w2]
            cases (meanN (stN s) mode cl).2 with
            | true => rfl
            | false => rw [if_pos (by decide), ob1_some, g_value isU63, ob1_some, w1, nI_l (by omega), e_frac (by omega) (by omega) (by omega) k1, ob1_some, if_neg (by decide)]
      · rw [k1, if_pos bN]
        exact RunC.same h rfl
    · rw [j1, if_pos bN]
      exact RunC.same h rfl
  · rw [h1, if_pos bN]
    exact RunC.same h rfl
/-! what is taken: tolls, or external losses -/
def takenP (N : NET) (mode : Nat) (ld : Nat → Nat) (q : Nat) : Nat := if mode = 1 then nTl N q else if mode = 2 then rLoss (nRd N q) (ld q) else 0
def takenN (N : NET) (mode : Nat) : Nat × Bool := foldS (stF N mode (rowsN N)).1.1 (takenP N mode (stF N mode (rowsN N)).1.1) (nM N)
def A_taken (N : NET) (m : Int32) : Int64 := match ix m 3 with
  | some mode => if canAll N (rowsN N) = true then sumA (takenN N mode) else NOv
  | none => NOv
theorem e_taken_L38 {B n : Nat} {Ia : Nat → Nat → Int32} {La : Nat → Nat → Int64} {Q : Nat → Nat → Option Nat} {R : Nat → RDt} {N : NET} {mode : Nat} {s : SST} (hm : mode < 3) (hN : NetIs B n Ia La Q R 1 N) (hO : NetOK N) (hl : LoadsIs Ia (64 + 10 * mode) s.1 s.2) (hb : ∀ q, s.1 q ≤ 36) (k : AH → Option (Int64 × AH)) :
    ∀ (f n' q : Nat) (I : Nat → Nat → Int32) (L : Nat → Nat → Int64), q + f = nM N → f < n' → (∀ a, a ≠ 63 → I a = Ia a) → (∀ a, a ≠ 63 → L a = La a) → SumIs I L 63 (foldS s.1 (takenP N mode s.1) q) →
    ∃ (I' : Nat → Nat → Int32) (L' : Nat → Nat → Int64), fX9_taken_L38 B (nI mode) (B + (64 + 10 * mode)) k n' (nI q) (MK B n I L Q R) = k (MK B n I' L' Q R) ∧ (∀ a, a ≠ 63 → I' a = Ia a) ∧ (∀ a, a ≠ 63 → L' a = La a) ∧ SumIs I' L' 63 (foldS s.1 (takenP N mode s.1) (nM N)) := by
  have h13 := hO.2.2.1
  have hx := isSm hm
  have hx1 := isN1
  intro f
  induction f with
  | zero =>
    intro n' q I L hj hn hI hL hS
    obtain ⟨n1, rfl⟩ := suc_of hn
    refine ⟨I, L, ?_, hI, hL, by rw [← show q = nM N by omega]; exact hS⟩
    rw [fX9_taken_L38, g_Wnow, ob1_some, g_size isN1, ob1_some, hI 1 (by decide), hN.2.1, if_pos (by rw [nI_leI (by omega) (by omega)]; omega)]
  | succ f ih =>
    intro n' q I L hj hn hI hL hS
    obtain ⟨n1, rfl⟩ := suc_of hn
    have hN1 : NetIs B n I L Q R 1 N := hN.same (fun k _ _ => hI k (by omega)) (by rw [hL _ (by omega)])
    have hlq : I (64 + 10 * mode + 1) q = nI (s.1 q) := by rw [hI _ (by omega)]; exact hl.1 q (by omega)
    have hbq := hb q
    have hrd := hO.2.2.2.1 q (by omega)
    have hv := hN1.2.2.1 q (by omega)
    have hd := hN1.2.2.2.1 q (by omega)
    have ht := hN1.2.2.2.2.1 q (by omega)
    have hq1 := q_roads (B := B) (n := n) (I := I) (L := L) (R := R) isN1 (show q < 13 by omega) hv.1
    have hck := rd_ck (I := I) (L := L) (Q := Q) (R := R) hv.2
    have htl := hrd.2.2.2.2
    have hll := rLoss_le hO (show q < nM N by omega) (show s.1 q ≤ 37 by omega)
    have hmx := mxL_eq
    have e0 : fX9_taken_L38 B (nI mode) (B + (64 + 10 * mode)) k (n1 + 1) (nI q) (MK B n I L Q R) = (if nI (s.1 q) ≤ 0 then fX9_taken_L38 B (nI mode) (B + (64 + 10 * mode)) k n1 (nI (q + 1)) (MK B n I L Q R) else if nI mode = (1 : Int32) then ob1 (fX6_add (B + 63) (lN (s.1 q)) (lN (nTl N q)) (MK B n I L Q R)) fun g52 => fX9_taken_L38 B (nI mode) (B + (64 + 10 * mode)) k n1 (nI (q + 1)) g52 else if nI mode = (2 : Int32) then ob1 (fX3_lossAt (adr Q 1 q) (nI (s.1 q)) (MK B n I L Q R)) fun r35 => ob1 (fX6_add (B + 63) (lN (s.1 q)) r35 (MK B n I L Q R)) fun g38 => fX9_taken_L38 B (nI mode) (B + (64 + 10 * mode)) k n1 (nI (q + 1)) g38 else fX9_taken_L38 B (nI mode) (B + (64 + 10 * mode)) k n1 (nI (q + 1)) (MK B n I L Q R)) := by
      rw [fX9_taken_L38, g_Wnow, ob1_some, g_size isN1, ob1_some, hN1.2.1, if_neg (by rw [nI_leI (by omega) (by omega)]; omega), g_loads hx, ob1_some, a_loads hx (by omega), ob1_some, hlq, bnd_eq]
      dsimp only
      by_cases c1 : nI (s.1 q) ≤ 0
      · rw [if_pos c1, if_pos c1, if_pos c1, bnd_eq, nI_1]
      · rw [if_neg c1, if_neg c1, if_neg c1]
        by_cases c2 : nI mode = (1 : Int32)
        · rw [if_pos c2, if_pos c2, g_Wsum, ob1_some]
          simp (disch := first | assumption | omega) only [ob1_some, ob2_some, bnd_eq, gd_true, oc_none, oc_some, ↓reduceIte, g_Wnow, g_Wkept, g_Wpaths, g_Wsteadies, g_Wsfresh, g_Wcheapest, g_WthoughtNet, g_WthoughtPaths, g_WthoughtSteady, g_Wtape, g_Wtrays, g_Wrows, g_WtoldLoads, g_Wsum, g_WisKept, p_WisKept, g_Wpfresh, p_Wpfresh, g_Wcfresh, p_Wcfresh, k_W, a_sfresh, s_sfresh, a_told, s_told, r_steadies, r_trays, r_rows, k_Net, g_towns, p_towns, g_size, p_size, g_roads, g_tolls, g_crowds, a_tolls, s_tolls, r_crowds, a_crowd, s_crowd, q_roads, w_roads, ht, nI_l, nI_1, k_Sum isU63]
        · rw [if_neg c2, if_neg c2]
          by_cases c3 : nI mode = (2 : Int32)
          · rw [if_pos c3, if_pos c3, g_Wsum, ob1_some]
            simp (disch := first | assumption | omega) only [ob1_some, ob2_some, bnd_eq, gd_true, oc_none, oc_some, ↓reduceIte, g_Wnow, g_Wkept, g_Wpaths, g_Wsteadies, g_Wsfresh, g_Wcheapest, g_WthoughtNet, g_WthoughtPaths, g_WthoughtSteady, g_Wtape, g_Wtrays, g_Wrows, g_WtoldLoads, g_Wsum, g_WisKept, p_WisKept, g_Wpfresh, p_Wpfresh, g_Wcfresh, p_Wcfresh, k_W, a_sfresh, s_sfresh, a_told, s_told, r_steadies, r_trays, r_rows, k_Net, g_towns, p_towns, g_size, p_size, g_roads, g_tolls, g_crowds, a_tolls, s_tolls, r_crowds, a_crowd, s_crowd, q_roads, w_roads, hq1, hck, nI_l, nI_1, k_Sum isU63]
          · rw [if_neg c3, if_neg c3, bnd_eq, nI_1]
    have hadd : ∀ e, e ≤ mxL → takenP N mode s.1 q = e → ∃ (I' : Nat → Nat → Int32) (L' : Nat → Nat → Int64), (ob1 (fX6_add (B + 63) (lN (s.1 q)) (lN e) (MK B n I L Q R)) fun g52 => fX9_taken_L38 B (nI mode) (B + (64 + 10 * mode)) k n1 (nI (q + 1)) g52) = k (MK B n I' L' Q R) ∧ (∀ a, a ≠ 63 → I' a = Ia a) ∧ (∀ a, a ≠ 63 → L' a = La a) ∧ SumIs I' L' 63 (foldS s.1 (takenP N mode s.1) (nM N)) := by
      intro e he hp
      obtain ⟨v', o', a1, a2, a3, a4⟩ := e_add (B := B) (n := n) (Q := Q) (R := R) isU63 hS (t := s.1 q) (e := e) (by omega) he
      rw [a1, ob1_some]
      rw [← hp] at a2 a3 a4
      exact ih n1 (q + 1) (u2 I 63 1 o') (u2 L 63 0 v') (by omega) (by omega) (fun a ha => by rw [u2_nk ha]; exact hI a ha) (fun a ha => by rw [u2_nk ha]; exact hL a ha) (add_is a2 a3 a4)
    have hskip : s.1 q * takenP N mode s.1 q = 0 → ∃ (I' : Nat → Nat → Int32) (L' : Nat → Nat → Int64), fX9_taken_L38 B (nI mode) (B + (64 + 10 * mode)) k n1 (nI (q + 1)) (MK B n I L Q R) = k (MK B n I' L' Q R) ∧ (∀ a, a ≠ 63 → I' a = Ia a) ∧ (∀ a, a ≠ 63 → L' a = La a) ∧ SumIs I' L' 63 (foldS s.1 (takenP N mode s.1) (nM N)) := fun e => ih n1 (q + 1) I L (by omega) (by omega) hI hL (by rw [foldS_skip e]; exact hS)
    rw [e0]
    by_cases c1 : s.1 q = 0
    · rw [if_pos (by rw [c1]; decide)]
      exact hskip (by rw [c1, Nat.zero_mul])
    · rw [if_neg (by rw [l0, nI_leI (by omega) (by omega)]; omega)]
      by_cases c2 : mode = 1
      · rw [if_pos (by rw [c2]; rfl)]
        exact hadd _ (by omega) (if_pos c2)
      · rw [if_neg (by rw [show (1 : Int32) = nI 1 from rfl, nI_eq (by omega) (by omega)]; exact c2)]
        by_cases c3 : mode = 2
        · rw [if_pos (by rw [c3]; rfl), e_lossAt hv.2 hd hrd.1 (by omega) (by omega), ob1_some]
          exact hadd _ (by omega) (by unfold takenP; rw [if_neg c2, if_pos c3])
        · rw [if_neg (by rw [show (2 : Int32) = nI 2 from rfl, nI_eq (by omega) (by omega)]; exact c3)]
          exact hskip (by unfold takenP; rw [if_neg c2, if_neg c3, Nat.mul_zero])
theorem c_taken {B n : Nat} {I : Nat → Nat → Int32} {L : Nat → Nat → Int64} {Q : Nat → Nat → Option Nat} {R : Nat → RDt} {s : STT} (h : IsC B n I L Q R s) (m : Int32) : RunC B I L (fX9_taken B m (MK B n I L Q R)) (A_taken (stN s) m, s) := by
  obtain ⟨fp, fs, fc, h0⟩ := id h
  have hO := h0.1.2.2.1
  have hd3 := nD_le hO 3 (by omega)
  have h13 := hO.2.2.1
  unfold A_taken fX9_taken
  rw [ix3, ob1_some, NO_lit]
  rcases ix_cases m (m := 3) (by decide) with ⟨mode, h1, rfl, h3⟩ | ⟨h1, h2⟩
  · rw [h3, if_neg (bS mode)]
    dsimp only
    obtain ⟨I', L', fs', r1, r2, r3, r4, r5⟩ := e_steadyOf h0 h1
    obtain ⟨hC, ⟨c1, c2, c3, c4, c5, c6⟩, hF⟩ := id r2
    obtain ⟨s1, s2⟩ := (c5 mode h1 r3).2
    have hx := isSm h1
    rw [r1, ob2_some, g_stands hx, ob1_some, s1]
    cases hc : canAll (stN s) (rowsN (stN s)) with
    | false => exact RunC.rep r2 (fun a ha => r5 a (by omega)) rfl
    | true =>
      obtain ⟨t1, t2, t3, t4⟩ := s2 hc
      rw [if_neg (by decide), if_pos rfl, g_Wsum, ob1_some, k_Sum isU63, gd_true, e_reset isU63, ob1_some]
      obtain ⟨I2, L2, u1, u2', u3, u4⟩ := e_taken_L38 (s := (stF (stN s) mode (rowsN (stN s))).1) h1 hC.2.1 hO t1 (fun q => Nat.le_trans (t4.le q) (by omega)) (fun (g58 : AH) =>
        ob1 (gR g58 B 9 16) fun b59 =>
        ob1 (gI g58 b59 6 1) fun v61 =>
        if v61 = (0 : Int32) then
          ob1 (gR g58 B 9 16) fun b63 =>
          ob1 (gL g58 b63 6 0) fun v65 =>
          some (v65, g58)
        else
          some (NOv, g58)) (nM (stN s)) lf 0 (u2 I' 63 1 0) (u2 L' 63 0 0) (by omega) (by show _ < 1000; omega) (fun a ha => u2_nk ha) (fun a ha => u2_nk ha) reset_is
      have hR := r2.u63 (fun a h1 h2 => u2' a h2) u3
      refine RunC.rep hR (fun a ha => ⟨by rw [u2' a (by omega), (r5 a (by omega)).1], by rw [u3 a (by omega), (r5 a (by omega)).2]⟩) ?_
      refine Eq.trans u1 ?_
      obtain ⟨w1, w2, w3⟩ := u4
      have w1 : L2 63 0 = lN (takenN (stN s) mode).1 := w1
      have w2 : I2 63 1 = bz (takenN (stN s) mode).2 := w2
      unfold sumA
      rw [g_Wsum, ob1_some, g_isOver isU63, ob1_some, w2]
      cases (takenN (stN s) mode).2 with
      | true => rfl
      | false => rw [if_pos (by decide), ob1_some, g_value isU63, ob1_some, w1, if_neg (by decide)]
  · rw [h1, if_pos bN]
    exact RunC.same h rfl
