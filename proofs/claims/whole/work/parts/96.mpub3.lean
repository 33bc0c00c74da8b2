/-! busy, fix and adding of the model -/
theorem sumN_lt {f g : Nat → Nat} {i : Nat} : ∀ k : Nat, i < k → (∀ j, j < k → f j ≤ g j) → f i < g i → sumN k f < sumN k g
  | 0, h, _, _ => absurd h (Nat.not_lt_zero _)
  | k + 1, h, hj, hi => by
    rw [sumN, sumN]
    have h1 := sumN_mono k (fun j hk => hj j (by omega))
    have h2 := hj k (by omega)
    by_cases e : i = k
    · subst e; omega
    · have := sumN_lt k (by omega) (fun j hk => hj j (by omega)) hi
      omega
theorem rank_lt {ld : Nat → Nat} {m i j : Nat} (hi : i < m) (h : ld j < ld i ∨ (ld i = ld j ∧ i < j)) : rankN ld m i < rankN ld m j := by
  refine sumN_lt (i := i) m hi (fun q _ => ?_) ?_
  · show (if ld i < ld q ∨ (ld q = ld i ∧ q < i) then 1 else 0) ≤ if ld j < ld q ∨ (ld q = ld j ∧ q < j) then 1 else 0
    by_cases c : ld i < ld q ∨ (ld q = ld i ∧ q < i)
    · rw [if_pos c, if_pos (by omega)]; exact Nat.le_refl _
    · rw [if_neg c]; exact Nat.zero_le _
  · show (if ld i < ld i ∨ (ld i = ld i ∧ i < i) then 1 else 0) < if ld j < ld i ∨ (ld i = ld j ∧ i < j) then 1 else 0
    rw [if_neg (by omega), if_pos h]; decide
theorem rank_inj {ld : Nat → Nat} {m i j : Nat} (hi : i < m) (hj : j < m) (h : rankN ld m i = rankN ld m j) : i = j := by
  obtain e | e | e : (ld j < ld i ∨ (ld i = ld j ∧ i < j)) ∨ i = j ∨ (ld i < ld j ∨ (ld j = ld i ∧ j < i)) := by omega
  · have := rank_lt (m := m) hi e; omega
  · exact e
  · have := rank_lt (m := m) hj e; omega
def lastR (f : Nat → Nat) (k : Nat) : Nat → Int32
  | 0 => -1
  | r + 1 => if f r = k then nI r else lastR f k r
theorem lastR_no {f : Nat → Nat} {k : Nat} : ∀ m, (∀ i, i < m → f i ≠ k) → lastR f k m = -1
  | 0, _ => rfl
  | m + 1, h => by rw [lastR, if_neg (h m (by omega)), lastR_no m (fun i hi => h i (by omega))]
theorem lastR_is {f : Nat → Nat} {k i : Nat} : ∀ m, i < m → f i = k → (∀ j, j < m → f j = k → j = i) → lastR f k m = nI i
  | 0, h, _, _ => absurd h (Nat.not_lt_zero _)
  | m + 1, h, hi, hu => by
    rw [lastR]
    by_cases c : f m = k
    · rw [if_pos c, hu m (by omega) c]
    · rw [if_neg c]
      refine lastR_is m ?_ hi (fun j hj => hu j (by omega))
      have : i ≠ m := fun e => c (by rw [← e]; exact hi)
      omega
theorem scanR_no {f : Nat → Nat} {k : Nat} : ∀ m c, (∀ i, c ≤ i → i < c + m → f i ≠ k) → scanR f k m c = -1
  | 0, _, _ => rfl
  | m + 1, c, h => by rw [scanR, if_neg (h c (by omega) (by omega)), scanR_no m (c + 1) (fun i h1 h2 => h i (by omega) (by omega))]
theorem scanR_is {f : Nat → Nat} {k i : Nat} : ∀ m c, c ≤ i → i < c + m → f i = k → (∀ j, c ≤ j → j < c + m → f j = k → j = i) → scanR f k m c = nI i
  | 0, c, h1, h2, _, _ => by omega
  | m + 1, c, h1, h2, hi, hu => by
    rw [scanR]
    by_cases e : f c = k
    · rw [if_pos e, hu c (by omega) (by omega) e]
    · rw [if_neg e]
      have : c ≠ i := fun q => e (by rw [q]; exact hi)
      exact scanR_is m (c + 1) (by omega) (by omega) hi (fun j a b => hu j (by omega) (by omega))
theorem last_scan {ld : Nat → Nat} {m k : Nat} : lastR (rankN ld m) k m = scanR (rankN ld m) k m 0 := by
  by_cases h : ∃ i, i < m ∧ rankN ld m i = k
  · obtain ⟨i, h1, h2⟩ := h
    have hu : ∀ j, j < m → rankN ld m j = k → j = i := fun j hj e => rank_inj hj h1 (by rw [e, h2])
    rw [lastR_is m h1 h2 hu, scanR_is m 0 (Nat.zero_le _) (by omega) h2 (fun j _ hj e => hu j (by omega) e)]
  · have hn : ∀ i, i < m → rankN ld m i ≠ k := fun i hi e => h ⟨i, hi, e⟩
    rw [lastR_no m hn, scanR_no m 0 (fun i _ hi => hn i (by omega))]
theorem m_busy_L48 {B n : Nat} {I : Nat → Nat → Int32} {L : Nat → Nat → Int64} {Q : Nat → Nat → Option Nat} {R : Nat → RDt} {N : NET} {ld : Nat → Nat} {r : Nat} {x2 x3 : Int32} (hM : MNet L 109 N) (hm : nM N ≤ 13) (hr : r < nM N) (hq : ∀ q, q < 13 → I 120 q = nI (ld q)) (hb : ∀ q, q < 13 → ld q ≤ 36) (k : Int32 → Option (Int32 × AH)) : ∀ (f n' q : Nat), q + f = nM N → f < n' → fX10_busy_L48 (B + 108) x2 x3 (nI r) (MK B n I L Q R) k n' (nI (rankN ld q r)) (nI q) = k (nI (rankN ld (nM N) r)) := by
  intro f
  induction f with
  | zero =>
    intro n' q hl hn
    obtain ⟨n1, rfl⟩ := suc_of hn
    rw [fX10_busy_L48, m_roadMany hM hm, ob1_some, if_pos (by rw [nI_leI (by omega) (by omega)]; omega), show q = nM N by omega]
  | succ f ih =>
    intro n' q hl hn
    obtain ⟨n1, rfl⟩ := suc_of hn
    have hq13 : q < 13 := by omega
    have hr13 : r < 13 := by omega
    have b1 := hb q hq13
    have b2 := hb r hr13
    have e : rankN ld (q + 1) r = rankN ld q r + (if ld r < ld q ∨ (ld q = ld r ∧ q < r) then 1 else 0) := rfl
    have := ih n1 (q + 1) (by omega) (by omega)
    rw [e] at this
    have a0 : ∀ a : Int32, a + 0 = a := Int32.add_zero
    rw [fX10_busy_L48, m_roadMany hM hm, ob1_some, if_neg (by rw [nI_leI (by omega) (by omega)]; omega), g_Mloads, ob1_some, a_Mloads hq13, ob1_some, ob1_some, a_Mloads hr13, ob1_some, hq q hq13, hq r hr13]
    by_cases c1 : ld r < ld q
    · rw [if_pos (Or.inl c1)] at this
      rw [if_pos (by rw [nI_ltI (by omega) (by omega)]; exact c1), bnd_eq, bnd_eq, nI_1, nI_1]
      exact this
    · rw [if_neg (by rw [nI_ltI (by omega) (by omega)]; exact c1)]
      by_cases c2 : ld q = ld r
      · rw [ob1_some, a_Mloads hq13, ob1_some, ob1_some, a_Mloads hr13, ob1_some, hq q hq13, hq r hr13, if_pos (by rw [c2])]
        by_cases c3 : q < r
        · rw [if_pos (Or.inr ⟨c2, c3⟩)] at this
          rw [if_neg (by rw [nI_leI (by omega) (by omega)]; omega), bnd_eq, bnd_eq, nI_1, nI_1]
          exact this
        · rw [if_neg (by omega)] at this
          rw [if_pos (by rw [nI_leI (by omega) (by omega)]; omega), bnd_eq, bnd_eq, nI_1, a0]
          exact this
      · rw [if_neg (by omega)] at this
        rw [ob1_some, a_Mloads hq13, ob1_some, ob1_some, a_Mloads hr13, ob1_some, hq q hq13, hq r hr13, if_neg (by rw [nI_eq (by omega) (by omega)]; exact c2), bnd_eq, bnd_eq, nI_1, a0]
        exact this
theorem m_busy_L33 {B n : Nat} {I : Nat → Nat → Int32} {L : Nat → Nat → Int64} {Q : Nat → Nat → Option Nat} {R : Nat → RDt} {N : NET} {ld : Nat → Nat} {t : Nat} (hM : MNet L 109 N) (hm : nM N ≤ 13) (ht : t < 100) (hq : ∀ q, q < 13 → I 120 q = nI (ld q)) (hb : ∀ q, q < 13 → ld q ≤ 36) (k : Int32 → Option (Int32 × AH)) : ∀ (f n' r : Nat), r + f = nM N → f < n' → fX10_busy_L33 (B + 108) (nI t) (MK B n I L Q R) k n' (lastR (rankN ld (nM N)) t r) (nI r) = k (lastR (rankN ld (nM N)) t (nM N)) := by
  intro f
  induction f with
  | zero =>
    intro n' r hl hn
    obtain ⟨n1, rfl⟩ := suc_of hn
    rw [fX10_busy_L33, m_roadMany hM hm, ob1_some, if_pos (by rw [nI_leI (by omega) (by omega)]; omega), show r = nM N by omega]
  | succ f ih =>
    intro n' r hl hn
    obtain ⟨n1, rfl⟩ := suc_of hn
    have := ih n1 (r + 1) (by omega) (by omega)
    rw [lastR] at this
    have h48 := m_busy_L48 (B := B) (n := n) (I := I) (L := L) (Q := Q) (R := R) (x2 := nI t) (x3 := lastR (rankN ld (nM N)) t r) hM hm (show r < nM N by omega) hq hb (fun (y40 : Int32) =>
        if y40 = nI t then
          bnd (nI r + (1 : Int32)) fun y42 =>
          fX10_busy_L33 (B + 108) (nI t) (MK B n I L Q R) k n1 (nI r) y42
        else
          bnd (nI r + (1 : Int32)) fun y41 =>
          fX10_busy_L33 (B + 108) (nI t) (MK B n I L Q R) k n1 (lastR (rankN ld (nM N)) t r) y41) (nM N) lf 0 (by omega) (by show _ < 1000; omega)
    have hrl := rank_le ld (nM N) r
    rw [fX10_busy_L33, m_roadMany hM hm, ob1_some, if_neg (by rw [nI_leI (by omega) (by omega)]; omega)]
    refine h48.trans ?_
    by_cases c : rankN ld (nM N) r = t
    · rw [if_pos c] at this
      rw [if_pos (by rw [c]), bnd_eq, nI_1]
      exact this
    · rw [if_neg c] at this
      rw [if_neg (by rw [nI_eq (by omega) (by omega)]; exact c), bnd_eq, nI_1]
      exact this
theorem d_busy {B n : Nat} {I : Nat → Nat → Int32} {L : Nat → Nat → Int64} {Q : Nat → Nat → Option Nat} {R : Nat → RDt} {s : STT} (h : IsM I L s) (hs : OkS s) (m k : Int32) : RunM B n I L Q R (fX10_busy (B + 108) m k (MK B n I L Q R)) (A_busy (stN s) m k, s) := by
  have hm12 := hs.2.1
  unfold A_busy fX10_busy
  rw [m_isMode, ob1_some]
  rcases ix_cases m (m := 3) (by decide) with ⟨mode, i1, rfl, i3⟩ | ⟨i1, i2⟩
  · rw [i3, if_neg (bS mode), m_isRoad h.1 (by omega), ob1_some]
    dsimp only
    rcases ix_cases k (m := nM (stN s)) (by omega) with ⟨q, q1, rfl, q3⟩ | ⟨q1, q2⟩
    · obtain ⟨I', r1, r2, r3, r4⟩ := m_steady (B := B) (n := n) (I := I) (L := L) (Q := Q) (R := R) hs.1 h.1 i1
      rw [q3, if_neg (bS q), r1, ob2_some]
      dsimp only
      cases hw : canAll (stN s) (rowsN (stN s)) with
      | false =>
        rw [if_pos (show bz false = 0 from rfl), if_neg (show ¬ false = true by decide)]
        exact RunM.fm h (F4.fm r2) rfl
      | true =>
        obtain ⟨w1, w2, w3, w4⟩ := r4 hw
        have hd := nD_le hs.1 3 (by omega)
        rw [if_neg (show ¬ bz true = 0 by decide), if_pos rfl]
        refine RunM.fm h (F4.fm r2) ?_
        refine (m_busy_L33 r3.1 (by omega) (by omega) w1.1 (fun q _ => by have := w3.le q; omega) (fun (y45 : Int32) => some (y45, MK B n I' L Q R)) (nM (stN s)) lf 0 (by omega) (by show _ < 1000; omega)).trans ?_
        rw [last_scan]
    · rw [q1, if_pos bN]
      exact RunM.same h rfl
  · rw [i1, if_pos bN]
    exact RunM.same h rfl
/-! tolls fixed -/
theorem m_fix_L15 {B n : Nat} {I : Nat → Nat → Int32} {La : Nat → Nat → Int64} {Q : Nat → Nat → Option Nat} {R : Nat → RDt} {N : NET} {ld due : Nat → Nat} (h : MNet La 109 N) (hO : NetOK N) (hq : ∀ q, q < 13 → I 120 q = nI (ld q)) (hb : ∀ q, q < 13 → ld q ≤ 36) (hdue : ∀ r, due r = min 1000000000 (rLoss (nRd N r) (ld r))) (k : Int32 → AH → Option (Int32 × AH)) :
    ∀ (f n' c : Nat) (L : Nat → Nat → Int64), c + f = nM N → f < n' → (∀ a, a ≠ 109 → L a = La a) → (∀ i, (∀ r, r < c → i ≠ 2 + 8 * r + 7) → L 109 i = La 109 i) → (∀ r, r < c → L 109 (2 + 8 * r + 7) = lN (due r)) →
    ∃ L' : Nat → Nat → Int64, fX10_fix_L15 (B + 108) k n' (nI (difN (nTl N) due c)) (nI c) (MK B n I L Q R) = k (nI (difN (nTl N) due (nM N))) (MK B n I L' Q R) ∧ (∀ a, a ≠ 109 → L' a = La a) ∧ (∀ i, (∀ r, r < nM N → i ≠ 2 + 8 * r + 7) → L' 109 i = La 109 i) ∧ (∀ r, r < nM N → L' 109 (2 + 8 * r + 7) = lN (due r)) := by
  have h13 := hO.2.2.1
  intro f
  induction f with
  | zero =>
    intro n' c L hc hn hF hV hW
    obtain ⟨n1, rfl⟩ := suc_of hn
    rw [show c = nM N by omega] at hV hW ⊢
    refine ⟨L, ?_, hF, hV, hW⟩
    have hN : fX10_roadMany (B + 108) (MK B n I L Q R) = some (nI (nM N)) := by
      unfold fX10_roadMany
      rw [g_Mnow, ob1_some, l1, a_Mnow (by decide), ob1_some, hV 1 (fun r hr => by omega), h.2.1, l_toI (by omega)]
    rw [fX10_fix_L15, hN, ob1_some, if_pos (by rw [nI_leI (by omega) (by omega)]; omega)]
  | succ f ih =>
    intro n' c L hc hn hF hV hW
    obtain ⟨n1, rfl⟩ := suc_of hn
    have hc13 : c < 13 := by omega
    have hbc := hb c hc13
    have hdc := hdue c
    have hM : MNet L 109 (newTolls N (mixT (nTl N) due c)) := by
      refine h.tolls (fun i hi => hV i fun r hr => hi r (by omega)) (fun r hr => ?_) h13
      unfold mixT
      by_cases e : r < c
      · rw [if_pos e]; exact hW r e
      · rw [if_neg e, hV _ (fun q hq => by omega), h.2.2.1 r 7 hr (by decide)]
        rfl
    have hOm : NetOK (newTolls N (mixT (nTl N) due c)) := newTolls_ok hO fun r hr => by
      unfold mixT
      split
      · have := hdue r; omega
      · exact (hO.2.2.2.1 r hr).2.2.2.2
    have hb := m_becomes (B := B) (n := n) (I := I) (Q := Q) (R := R) (w := due c) hM hOm (show c < nM N by omega) (by omega)
    have hls := m_lossBy (B := B) (n := n) (I := I) (Q := Q) (R := R) (r := c) (x := ld c) hM hOm (show c < nM N by omega) (by omega)
    have hls : fX10_lossBy (B + 108) (nI c) (nI (ld c)) (MK B n I L Q R) = some (lN (rLoss (nRd N c) (ld c))) := hls
    have hlb := rLoss_le (r := c) (x := ld c) hO (by omega) (by omega)
    have ht : nTl (newTolls N (mixT (nTl N) due c)) c = nTl N c := by
      show mixT (nTl N) due c c = _
      unfold mixT
      rw [if_neg (by omega)]
    rw [ht] at hb
    obtain ⟨L', r1, r2⟩ := ih n1 (c + 1) (u2 L 109 (2 + 8 * c + 7) (lN (due c))) (by omega) (by omega) (fun a ha => by rw [u2_nk ha]; exact hF a ha) (fun i hi => by
      rw [u2_ne (Or.inr (hi c (by omega)))]
      exact hV i fun r hr => hi r (by omega)) (fun r hr => by
      rw [mu2]
      by_cases e : r = c
      · rw [if_pos (by omega), e]
      · rw [if_neg (by omega)]; exact hW r (by omega))
    refine ⟨L', ?_, r2⟩
    have hd : difN (nTl N) due (c + 1) = difN (nTl N) due c + (if nTl N c = due c then 0 else 1) := rfl
    have hN0 := m_roadMany (B := B) (n := n) (I := I) (Q := Q) (R := R) hM h13
    have hN : fX10_roadMany (B + 108) (MK B n I L Q R) = some (nI (nM N)) := hN0
    rw [hd] at r1
    rw [fX10_fix_L15, hN, ob1_some, if_neg (by rw [nI_leI (by omega) (by omega)]; omega), g_Mloads, ob1_some, a_Mloads hc13, ob1_some, hq c hc13, hls, ob1_some, show (1000000000 : Int64) = lN 1000000000 from rfl]
    by_cases e : rLoss (nRd N c) (ld c) ≤ 1000000000
    · have ed : due c = rLoss (nRd N c) (ld c) := by omega
      rw [ed] at hb r1
      rw [if_pos (by rw [lN_leE (by omega) (by decide)]; exact e), hb, ob2_some, nI_add, bnd_eq, bnd_eq, nI_1]
      exact r1
    · have ed : due c = 1000000000 := by omega
      rw [ed] at hb r1
      rw [if_neg (by rw [lN_leE (by omega) (by decide)]; exact e), hb, ob2_some, nI_add, bnd_eq, bnd_eq, nI_1]
      exact r1
theorem d_fix {B n : Nat} {I : Nat → Nat → Int32} {L : Nat → Nat → Int64} {Q : Nat → Nat → Option Nat} {R : Nat → RDt} {s : STT} (h : IsM I L s) (hs : OkS s) : RunM B n I L Q R (fX10_fix (B + 108) (MK B n I L Q R)) (A_fix s) := by
  obtain ⟨I', r1, r2, r3, r4⟩ := m_steady (B := B) (n := n) (I := I) (L := L) (Q := Q) (R := R) (mode := 2) hs.1 h.1 (by decide)
  have r1 : fX10_steady (B + 108) 2 (MK B n I L Q R) = _ := r1
  have hm12 := hs.2.1
  unfold A_fix fX10_fix
  rw [r1, ob2_some]
  cases hw : canAll (stN s) (rowsN (stN s)) with
  | false =>
    rw [if_pos (show bz false = 0 from rfl), if_neg (show ¬ false = true by decide)]
    exact RunM.fm h (F4.fm r2) rfl
  | true =>
    obtain ⟨w1, w2, w3, w4⟩ := r4 hw
    have hd := nD_le hs.1 3 (by omega)
    obtain ⟨L', s1, s2, s3, s4⟩ := m_fix_L15 (B := B) (n := n) (I := I') (Q := Q) (R := R) (due := dueT (stN s)) (ld := (stF (stN s) 2 (rowsN (stN s))).1.1) h.1 hs.1 w1.1 (fun q _ => by have := w3.le q; omega) (fun r => rfl) (fun (y24 : Int32) (g25 : AH) => some (y24, g25)) (nM (stN s)) lf 0 L (by omega) (by show _ < 1000; omega) (fun _ _ => rfl) (fun _ _ => rfl) (fun r hr => absurd hr (Nat.not_lt_zero r))
    rw [if_neg (show ¬ bz true = 0 by decide), if_pos rfl]
    have h2 : IsM I' L s := (F4.fm (L := L) r2).is h
    exact ⟨I', L', s1, h2.setNow (h.1.tolls s3 s4 (by omega)) s2, fun a ha => ⟨r2.1 a (by omega) (by omega), s2 a (by omega)⟩⟩
