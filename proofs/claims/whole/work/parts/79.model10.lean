/-! laying a road into a tray -/
theorem m_lays_L106 {B n : Nat} {I : Nat → Nat → Int32} {La : Nat → Nat → Int64} {Q : Nat → Nat → Option Nat} {R : Nat → RDt} {N : NET} {q y : Nat} (h : MNet La 109 N) (hm : nM N ≤ 13) (hq : q < nM N) (hy : y < 60) (k : AH → Option (Int32 × AH)) :
    ∀ (m n' j : Nat) (L : Nat → Nat → Int64), j + m = 5 → m < n' → (∀ a, a ≠ 131 → L a = La a) → (∀ i, L 131 i = if 5 * y ≤ i ∧ i < 5 * y + j then lN (fld (nRd N q) (nTl N q) (2 + (i - 5 * y))) else La 131 i) →
    ∃ L' : Nat → Nat → Int64, fX10_lays_L106 (B + 108) (nI q) (nI y) k n' (nI j) (MK B n I L Q R) = k (MK B n I L' Q R) ∧ (∀ a, a ≠ 131 → L' a = La a) ∧ (∀ i, L' 131 i = if 5 * y ≤ i ∧ i < 5 * y + 5 then lN (fld (nRd N q) (nTl N q) (2 + (i - 5 * y))) else La 131 i) := by
  intro m
  induction m with
  | zero =>
    intro n' j L hj hn hF hV
    obtain ⟨n1, rfl⟩ := suc_of hn
    rw [show j = 5 by omega] at hV ⊢
    refine ⟨L, ?_, hF, hV⟩
    rw [fX10_lays_L106, if_pos (by decide)]
  | succ m ih =>
    intro n' j L hj hn hF hV
    obtain ⟨n1, rfl⟩ := suc_of hn
    have hN : MNet L 109 N := by unfold MNet at *; rw [hF 109 (by decide)]; exact h
    obtain ⟨L', r1, r2⟩ := ih n1 (j + 1) (u2 L 131 (5 * y + j) (lN (fld (nRd N q) (nTl N q) (2 + j)))) (by omega) (by omega) (fun a ha => by rw [u2_nk ha]; exact hF a ha) (fun i => by
      rw [mu2]
      by_cases e : i = 5 * y + j
      · rw [if_pos e, if_pos (by omega), e, show 5 * y + j - 5 * y = j by omega]
      · rw [if_neg e, hV i]
        by_cases g : 5 * y ≤ i ∧ i < 5 * y + j
        · rw [if_pos g, if_pos (by omega)]
        · rw [if_neg g, if_neg (by omega)])
    refine ⟨L', ?_, r2⟩
    rw [← r1, fX10_lays_L106, if_neg (by rw [l5, nI_leI (by omega) (by omega)]; omega), if_neg (nI_pos (by omega)), g_Mtrays, ob1_some, l2, nI_add, m_ofRoad hN hm hq (by omega), ob1_some, l5, nI_mulx, nI_add, s_Mtrays (by omega), ob1_some, bnd_eq, nI_1]
