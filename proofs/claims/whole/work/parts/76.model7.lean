/-- a road's toll becomes another -/
theorem m_becomes {B n : Nat} {I : Nat → Nat → Int32} {L : Nat → Nat → Int64} {Q : Nat → Nat → Option Nat} {R : Nat → RDt} {N : NET} {r w : Nat} (h : MNet L 109 N) (hO : NetOK N) (hr : r < nM N) (hw : w ≤ 1000000000) : fX10_becomes (B + 108) (nI r) (lN w) (MK B n I L Q R) = some (nI (if nTl N r = w then 0 else 1), MK B n I (u2 L 109 (2 + 8 * r + 7) (lN w)) Q R) := by
  have h13 := hO.2.2.1
  have ht := (hO.2.2.2.1 r hr).2.2.2.2
  have hof : fX10_ofRoad (B + 108) (nI r) 7 (MK B n I L Q R) = some (lN (nTl N r)) := m_ofRoad h h13 hr (show 7 < 8 by decide)
  have z : (lN (nTl N r) = lN w) = (nTl N r = w) := propext (pk_lEQ (by omega) (by omega))
  unfold fX10_becomes
  rw [hof, ob1_some, bnd_eq]
  dsimp only
  rw [g_Mnow, ob1_some, show (2 : Int32) = nI 2 from rfl, show (8 : Int32) = nI 8 from rfl, show (7 : Int32) = nI 7 from rfl, nI_mulx, nI_add, nI_add, s_Mnow (by omega), ob1_some]
  by_cases e : nTl N r = w
  · rw [if_pos e, if_pos (by rw [e])]; rfl
  · rw [if_neg e, if_neg (by rw [z]; exact e), ob1_some, s_Mnow (by omega), ob1_some]; rfl
theorem MNet.tolls {L L' : Nat → Nat → Int64} {N : NET} {f : Nat → Nat} (h : MNet L 109 N) (h1 : ∀ i, (∀ r, r < nM N → i ≠ 2 + 8 * r + 7) → L' 109 i = L 109 i) (h2 : ∀ r, r < nM N → L' 109 (2 + 8 * r + 7) = lN (f r)) (hm : nM N ≤ 13) : MNet L' 109 (newTolls N f) := by
  refine ⟨?_, ?_, fun r j (hr : r < nM N) hj => ?_, fun c j hc hj => ?_⟩
  · rw [h1 0 (fun r hr => by omega)]; exact h.1
  · rw [h1 1 (fun r hr => by omega)]; exact h.2.1
  · show _ = lN (fld (nRd N r) (f r) j)
    by_cases e : j = 7
    · subst e; rw [h2 r hr]; rfl
    · rw [h1 _ (fun q hq => by omega), h.2.2.1 r j hr hj]
      have : j < 7 := by omega
      unfold fld
      split <;> (try rfl) <;> split <;> (try rfl) <;> split <;> (try rfl) <;> split <;> (try rfl) <;> split <;> (try rfl) <;> split <;> (try rfl) <;> split <;> (try rfl)
      omega
  · rw [h1 _ (fun r hr => by omega)]; exact h.2.2.2 c j hc hj
theorem m_free_L4 {B n : Nat} {I : Nat → Nat → Int32} {La : Nat → Nat → Int64} {Q : Nat → Nat → Option Nat} {R : Nat → RDt} {N : NET} (h : MNet La 109 N) (hO : NetOK N) (k : Int32 → AH → Option (Int32 × AH)) :
    ∀ (f n' c : Nat) (L : Nat → Nat → Int64), c + f = nM N → f < n' → (∀ a, a ≠ 109 → L a = La a) → (∀ i, (∀ r, r < c → i ≠ 2 + 8 * r + 7) → L 109 i = La 109 i) → (∀ r, r < c → L 109 (2 + 8 * r + 7) = lN 0) →
    ∃ L' : Nat → Nat → Int64, fX10_free_L4 (B + 108) k n' (nI (difN (nTl N) (fun _ => 0) c)) (nI c) (MK B n I L Q R) = k (nI (difN (nTl N) (fun _ => 0) (nM N))) (MK B n I L' Q R) ∧ (∀ a, a ≠ 109 → L' a = La a) ∧ (∀ i, (∀ r, r < nM N → i ≠ 2 + 8 * r + 7) → L' 109 i = La 109 i) ∧ (∀ r, r < nM N → L' 109 (2 + 8 * r + 7) = lN 0) := by
  have h13 := hO.2.2.1
  intro f
  induction f with
  | zero =>
    intro n' c L hc hn hF hV hW
    obtain ⟨n1, rfl⟩ := suc_of hn
    rw [show c = nM N by omega] at hV hW ⊢
    refine ⟨L, ?_, hF, hV, hW⟩
    have hN : fX10_roadMany (B + 108) (MK B n I L Q R) = some (nI (nM N)) := by
      unfold fX10_roadMany
      rw [g_Mnow, ob1_some, l1, a_Mnow (by decide), ob1_some, hV 1 (fun r hr => by omega), h.2.1, l_toI (by omega)]
    rw [fX10_free_L4, hN, ob1_some, if_pos (by rw [nI_leI (by omega) (by omega)]; omega)]
  | succ f ih =>
    intro n' c L hc hn hF hV hW
    obtain ⟨n1, rfl⟩ := suc_of hn
    have hM : MNet L 109 (newTolls N (mixT (nTl N) (fun _ => 0) c)) := by
      refine h.tolls (fun i hi => hV i fun r hr => hi r (by omega)) (fun r hr => ?_) h13
      unfold mixT
      by_cases e : r < c
      · rw [if_pos e]; exact hW r e
      · rw [if_neg e, hV _ (fun q hq => by omega), h.2.2.1 r 7 hr (by decide)]
        rfl
    have hOm : NetOK (newTolls N (mixT (nTl N) (fun _ => 0) c)) := newTolls_ok hO fun r hr => by
      unfold mixT
      split
      · exact Nat.zero_le _
      · exact (hO.2.2.2.1 r hr).2.2.2.2
    have hb := m_becomes (B := B) (n := n) (I := I) (Q := Q) (R := R) (w := 0) hM hOm (show c < nM N by omega) (Nat.zero_le _)
    have ht : nTl (newTolls N (mixT (nTl N) (fun _ => 0) c)) c = nTl N c := by
      show mixT (nTl N) (fun _ => 0) c c = _
      unfold mixT
      rw [if_neg (by omega)]
    rw [ht] at hb
    have hb : fX10_becomes (B + 108) (nI c) 0 (MK B n I L Q R) = _ := hb
    obtain ⟨L', r1, r2⟩ := ih n1 (c + 1) (u2 L 109 (2 + 8 * c + 7) (lN 0)) (by omega) (by omega) (fun a ha => by rw [u2_nk ha]; exact hF a ha) (fun i hi => by
      rw [u2_ne (Or.inr (hi c (by omega)))]
      exact hV i fun r hr => hi r (by omega)) (fun r hr => by
      rw [mu2]
      by_cases e : r = c
      · rw [if_pos (by omega)]
      · rw [if_neg (by omega)]; exact hW r (by omega))
    refine ⟨L', ?_, r2⟩
    have hd : difN (nTl N) (fun _ => 0) (c + 1) = difN (nTl N) (fun _ => 0) c + (if nTl N c = 0 then 0 else 1) := rfl
    have hN0 := m_roadMany (B := B) (n := n) (I := I) (Q := Q) (R := R) hM h13
    have hN : fX10_roadMany (B + 108) (MK B n I L Q R) = some (nI (nM N)) := hN0
    rw [← r1, hd, fX10_free_L4, hN, ob1_some, if_neg (by rw [nI_leI (by omega) (by omega)]; omega), hb, ob2_some, nI_add, bnd_eq, bnd_eq, nI_1]
theorem d_free {B n : Nat} {I : Nat → Nat → Int32} {L : Nat → Nat → Int64} {Q : Nat → Nat → Option Nat} {R : Nat → RDt} {s : STT} (h : IsM I L s) (hs : OkS s) : RunM B n I L Q R (fX10_free (B + 108) (MK B n I L Q R)) (A_free s) := by
  obtain ⟨L', r1, r2, r3, r4⟩ := m_free_L4 (B := B) (n := n) (I := I) (Q := Q) (R := R) h.1 hs.1 (fun (y9 : Int32) (g10 : AH) => some (y9, g10)) (nM (stN s)) lf 0 L (by omega) (by have := hs.2.1; show _ < 1000; omega) (fun _ _ => rfl) (fun _ _ => rfl) (fun r hr => absurd hr (Nat.not_lt_zero r))
  exact ⟨I, L', r1, h.setNow (h.1.tolls r3 r4 (by have := hs.2.1; omega)) r2, fun a ha => ⟨rfl, r2 a (by omega)⟩⟩
