theorem m_takes_L5 {B n : Nat} {I : Nat → Nat → Int32} {La : Nat → Nat → Int64} {Q : Nat → Nat → Option Nat} {R : Nat → RDt} {N : NET} {g : Nat} (h : MNet La 109 N) (hm : nM N ≤ 13) (hg : g < nM N) (k : AH → Option AH) :
    ∀ (f n' c : Nat) (L : Nat → Nat → Int64), c + f = 8 * (nM N - 1) → f < n' → (∀ a, a ≠ 109 → L a = La a) → (∀ i, L 109 i = if 2 + 8 * g ≤ i ∧ i < 2 + c then La 109 (i + 8) else La 109 i) → 8 * g ≤ c →
    ∃ L' : Nat → Nat → Int64, fX10_takesOut_L5 (B + 108) k n' (nI c) (MK B n I L Q R) = k (MK B n I L' Q R) ∧ (∀ a, a ≠ 109 → L' a = La a) ∧ (∀ i, L' 109 i = if 2 + 8 * g ≤ i ∧ i < 2 + 8 * (nM N - 1) then La 109 (i + 8) else La 109 i) := by
  have h8 : (8 : Int32) = nI 8 := rfl
  have h2 : (2 : Int32) = nI 2 := rfl
  have hrm : ∀ L : Nat → Nat → Int64, (L 109 1 = La 109 1) → fX10_roadMany (B + 108) (MK B n I L Q R) = some (nI (nM N)) := fun L e => by
    unfold fX10_roadMany
    rw [g_Mnow, ob1_some, show (1 : Int32) = nI 1 from rfl, a_Mnow (by decide), ob1_some, e, h.2.1, l_toI (by omega)]
  intro f
  induction f with
  | zero =>
    intro n' c L hc hn hF hV hgc
    obtain ⟨n1, rfl⟩ := suc_of hn
    refine ⟨L, ?_, hF, by rw [← show c = 8 * (nM N - 1) by omega]; exact hV⟩
    rw [fX10_takesOut_L5, hrm L (by rw [hV, if_neg (by omega)]), ob1_some, l1, pk_sub (by omega), h8, nI_mulx, if_pos (by rw [nI_leI (by omega) (by omega)]; omega)]
  | succ f ih =>
    intro n' c L hc hn hF hV hgc
    obtain ⟨n1, rfl⟩ := suc_of hn
    have hv : L 109 (2 + c + 8) = La 109 (2 + c + 8) := by rw [hV, if_neg (by omega)]
    obtain ⟨L', r1, r2⟩ := ih n1 (c + 1) (u2 L 109 (2 + c) (La 109 (2 + c + 8))) (by omega) (by omega) (fun a ha => by rw [u2_nk ha]; exact hF a ha) (fun i => by
      rw [mu2]
      by_cases e : i = 2 + c
      · rw [if_pos e, if_pos (by omega), e]
      · rw [if_neg e, hV i]
        by_cases q : 2 + 8 * g ≤ i ∧ i < 2 + c
        · rw [if_pos q, if_pos (by omega)]
        · rw [if_neg q, if_neg (by omega)]) (by omega)
    refine ⟨L', ?_, r2⟩
    rw [← r1, fX10_takesOut_L5, hrm L (by rw [hV, if_neg (by omega)]), ob1_some, l1, pk_sub (by omega), h8, nI_mulx, if_neg (by rw [nI_leI (by omega) (by omega)]; omega), g_Mnow, ob1_some, ob1_some, h2, nI_add, nI_add, a_Mnow (by omega), ob1_some, s_Mnow (by omega), ob1_some, nI_add, bnd_eq, hv]
theorem m_takesOut {B n : Nat} {I : Nat → Nat → Int32} {L : Nat → Nat → Int64} {Q : Nat → Nat → Option Nat} {R : Nat → RDt} {N : NET} {g : Nat} (h : MNet L 109 N) (hm : nM N ≤ 13) (hg : g < nM N) : ∃ L' : Nat → Nat → Int64, fX10_takesOut (B + 108) (nI g) (MK B n I L Q R) = some (MK B n I L' Q R) ∧ MNet L' 109 (dropRd N g) ∧ (∀ a, a ≠ 109 → L' a = L a) := by
  obtain ⟨L', r1, r2, r3⟩ := m_takes_L5 (B := B) (n := n) (I := I) (Q := Q) (R := R) h hm hg (fun (g14 : AH) =>
    ob1 (gR g14 (B + 108) 10 0) fun b15 =>
    ob1 (aL g14 b15 (1 : Int32)) fun v17 =>
    ob1 (sL g14 b15 (1 : Int32) (v17 - (1 : Int64))) fun g19 =>
    some g19) (8 * (nM N - 1) - 8 * g) lf (8 * g) L (by omega) (by show _ < 1000; omega) (fun _ _ => rfl) (fun i => by rw [if_neg (by omega)]) (Nat.le_refl _)
  refine ⟨u2 L' 109 1 (lN (nM N - 1)), ?_, ⟨?_, u2_eq, fun r j hr hj => ?_, fun c j hc hj => ?_⟩, fun a ha => by rw [u2_nk ha]; exact r2 a ha⟩
  · unfold fX10_takesOut
    rw [show (8 : Int32) = nI 8 from rfl, nI_mulx, bnd_eq]
    refine r1.trans ?_
    rw [g_Mnow, ob1_some, l1, a_Mnow (by decide), ob1_some, r3, if_neg (by omega), h.2.1, L1, lN_sub (by omega), s_Mnow (by decide), ob1_some]
  · rw [u2_ne (by omega), r3, if_neg (by omega)]; exact h.1
  · have hr : r < nM N - 1 := hr
    show _ = lN (fld (if r < g then nRd N r else nRd N (r + 1)) (if r < g then nTl N r else nTl N (r + 1)) j)
    rw [u2_ne (by omega), r3]
    by_cases c : r < g
    · rw [if_pos c, if_pos c, if_neg (by omega)]; exact h.2.2.1 r j (by omega) hj
    · rw [if_neg c, if_neg c, if_pos (by omega), show 2 + 8 * r + j + 8 = 2 + 8 * (r + 1) + j by omega]; exact h.2.2.1 (r + 1) j (by omega) hj
  · rw [u2_ne (by omega), r3, if_neg (by omega)]; exact h.2.2.2 c j hc hj
theorem d_close {B n : Nat} {I : Nat → Nat → Int32} {L : Nat → Nat → Int64} {Q : Nat → Nat → Option Nat} {R : Nat → RDt} {s : STT} (h : IsM I L s) (hs : OkS s) (x : Int32) : RunM B n I L Q R (fX10_close (B + 108) x (MK B n I L Q R)) (A_close s x) := by
  have hm := hs.2.1
  unfold fX10_close A_close
  rw [m_isRoad h.1 (by omega), ob1_some]
  rcases ix_cases x (m := nM (stN s)) (by omega) with ⟨r, h1, rfl, h3⟩ | ⟨h1, h2⟩
  · obtain ⟨L', r1, r2, r3⟩ := m_takesOut (B := B) (n := n) (I := I) (Q := Q) (R := R) h.1 (by omega) h1
    have hm' : nM (dropRd (stN s) r) = nM (stN s) - 1 := rfl
    rw [h3, if_neg (bS r), r1, ob1_some, m_roadMany r2 (by omega), ob1_some, hm']
    exact ⟨I, L', rfl, h.setNow r2 r3, fun a ha => ⟨rfl, r3 a (by omega)⟩⟩
  · rw [h1, if_pos bN]
    exact RunM.same h rfl
theorem m_told_L82 {B n : Nat} {I : Nat → Nat → Int32} {L : Nat → Nat → Int64} {Q : Nat → Nat → Option Nat} {R : Nat → RDt} {N : NET} (h : MNet L 109 N) (hm : nM N ≤ 13) (k : Int64 → Option Int64) : ∀ (f n' c : Nat), c + f = nM N → f < n' → fX10_told_L82 (B + 108) (MK B n I L Q R) k n' (lN (sumN c fun r => nTl N r)) (nI c) = k (lN (nSum N)) := by
  intro f
  induction f with
  | zero =>
    intro n' c hc hn
    obtain ⟨n1, rfl⟩ := suc_of hn
    rw [fX10_told_L82, m_roadMany h hm, ob1_some, if_pos (by rw [nI_leI (by omega) (by omega)]; omega), show c = nM N by omega]
    rfl
  | succ f ih =>
    intro n' c hc hn
    obtain ⟨n1, rfl⟩ := suc_of hn
    have := ih n1 (c + 1) (by omega) (by omega)
    rw [sumN] at this
    rw [fX10_told_L82, m_roadMany h hm, ob1_some, if_neg (by rw [nI_leI (by omega) (by omega)]; omega), show (7 : Int32) = nI 7 from rfl, m_ofRoad h hm (by omega) (by decide), ob1_some, lN_add, bnd_eq, bnd_eq, nI_1]
    exact this
theorem d_told {B n : Nat} {I : Nat → Nat → Int32} {L : Nat → Nat → Int64} {Q : Nat → Nat → Option Nat} {R : Nat → RDt} {s : STT} (h : IsM I L s) (hs : OkS s) (x : Int32) : fX10_told (B + 108) x (MK B n I L Q R) = some (A_told s x) := by
  have hm := hs.2.1
  have h100 := hs.2.2.2.1.1
  have c0 : fX10_ofClass (B + 108) 0 1 (MK B n I L Q R) = some (lN (nC (stN s) 0 1)) := m_ofClass h.1 (show 0 < 3 by decide) (show 1 < 4 by decide)
  have c1 : fX10_ofClass (B + 108) 1 1 (MK B n I L Q R) = some (lN (nC (stN s) 1 1)) := m_ofClass h.1 (show 1 < 3 by decide) (show 1 < 4 by decide)
  have c2 : fX10_ofClass (B + 108) 2 1 (MK B n I L Q R) = some (lN (nC (stN s) 2 1)) := m_ofClass h.1 (show 2 < 3 by decide) (show 1 < 4 by decide)
  have hall : nAll (stN s) = nC (stN s) 0 1 + nC (stN s) 1 1 + nC (stN s) 2 1 := by
    show 0 + nC (stN s) 0 1 + nC (stN s) 1 1 + nC (stN s) 2 1 = _
    omega
  unfold A_told fX10_told
  by_cases e0 : x = 0
  · rw [if_pos e0, if_pos e0, g_Mnow, ob1_some, l0, a_Mnow (by decide), ob1_some, h.1.1]
  rw [if_neg e0, if_neg e0]
  by_cases e1 : x = 1
  · rw [if_pos e1, if_pos e1, g_Mnow, ob1_some, l1, a_Mnow (by decide), ob1_some, h.1.2.1]
  rw [if_neg e1, if_neg e1]
  by_cases e2 : x = 2
  · rw [if_pos e2, if_pos e2, c0, ob1_some, c1, ob1_some, c2, ob1_some, lN_add, lN_add, hall]
  rw [if_neg e2, if_neg e2]
  by_cases e3 : x = 3
  · rw [if_pos e3, if_pos e3, g_Msize, ob1_some, h.2.2.1.1, nI_l (by omega)]
  rw [if_neg e3, if_neg e3]
  by_cases e4 : x = 4
  · rw [if_pos e4, if_pos e4]
    exact m_told_L82 h.1 (by omega) _ (nM (stN s)) lf 0 (by omega) (by show _ < 1000; omega)
  rw [if_neg e4, if_neg e4, NO_lit]
