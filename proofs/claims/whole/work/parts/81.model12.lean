/-! one tray like another -/
theorem m_like_L54 {B n : Nat} {Ia : Nat → Nat → Int32} {L : Nat → Nat → Int64} {Q : Nat → Nat → Option Nat} {R : Nat → RDt} {t u : Nat} (ht : t < 3) (hu : u < 3) (h01 : ∀ j, j < 20 → Ia 130 (20 * u + j) = 0 ∨ Ia 130 (20 * u + j) = 1) (k : AH → Option (Int32 × AH)) :
    ∀ (m n' j : Nat) (I : Nat → Nat → Int32), j + m = 20 → m < n' → (∀ a, a ≠ 130 → I a = Ia a) → (∀ i, I 130 i = if 20 * t ≤ i ∧ i < 20 * t + j then Ia 130 (20 * u + (i - 20 * t)) else Ia 130 i) →
    ∃ I' : Nat → Nat → Int32, fX10_like_L54 (B + 108) (nI t) (nI u) k n' (nI j) (MK B n I L Q R) = k (MK B n I' L Q R) ∧ (∀ a, a ≠ 130 → I' a = Ia a) ∧ (∀ i, I' 130 i = if 20 * t ≤ i ∧ i < 20 * t + 20 then Ia 130 (20 * u + (i - 20 * t)) else Ia 130 i) := by
  have h20 : (20 : Int32) = nI 20 := rfl
  intro m
  induction m with
  | zero =>
    intro n' j I hj hn hF hV
    obtain ⟨n1, rfl⟩ := suc_of hn
    rw [show j = 20 by omega] at hV ⊢
    refine ⟨I, ?_, hF, hV⟩
    rw [fX10_like_L54, if_pos (by decide)]
  | succ m ih =>
    intro n' j I hj hn hF hV
    obtain ⟨n1, rfl⟩ := suc_of hn
    have hs : I 130 (20 * u + j) = Ia 130 (20 * u + j) := by
      rw [hV]
      by_cases g : 20 * t ≤ 20 * u + j ∧ 20 * u + j < 20 * t + j
      · omega
      · rw [if_neg g]
    obtain ⟨I', r1, r2⟩ := ih n1 (j + 1) (u2 I 130 (20 * t + j) (Ia 130 (20 * u + j))) (by omega) (by omega) (fun a ha => by rw [u2_nk ha]; exact hF a ha) (fun i => by
      rw [mu2]
      by_cases e : i = 20 * t + j
      · rw [if_pos e, if_pos (by omega), e, show 20 * t + j - 20 * t = j by omega]
      · rw [if_neg e, hV i]
        by_cases g : 20 * t ≤ i ∧ i < 20 * t + j
        · rw [if_pos g, if_pos (by omega)]
        · rw [if_neg g, if_neg (by omega)])
    refine ⟨I', ?_, r2⟩
    rw [← r1, fX10_like_L54, if_neg (by rw [h20, nI_leI (by omega) (by omega)]; omega), g_MisLaid, ob1_some, ob1_some, h20, nI_mulx, nI_add, nI_mulx, nI_add, a_MisLaid (by omega), ob1_some, hs, s_MisLaid (by omega) (h01 j (by omega)), ob1_some, bnd_eq, nI_1]
theorem m_like_L90 {B n : Nat} {I : Nat → Nat → Int32} {La : Nat → Nat → Int64} {Q : Nat → Nat → Option Nat} {R : Nat → RDt} {t u : Nat} (ht : t < 3) (hu : u < 3) (k : AH → Option (Int32 × AH)) :
    ∀ (m n' j : Nat) (L : Nat → Nat → Int64), j + m = 100 → m < n' → (∀ a, a ≠ 131 → L a = La a) → (∀ i, L 131 i = if 100 * t ≤ i ∧ i < 100 * t + j then La 131 (100 * u + (i - 100 * t)) else La 131 i) →
    ∃ L' : Nat → Nat → Int64, fX10_like_L90 (B + 108) (nI t) (nI u) k n' (nI j) (MK B n I L Q R) = k (MK B n I L' Q R) ∧ (∀ a, a ≠ 131 → L' a = La a) ∧ (∀ i, L' 131 i = if 100 * t ≤ i ∧ i < 100 * t + 100 then La 131 (100 * u + (i - 100 * t)) else La 131 i) := by
  intro m
  induction m with
  | zero =>
    intro n' j L hj hn hF hV
    obtain ⟨n1, rfl⟩ := suc_of hn
    rw [show j = 100 by omega] at hV ⊢
    refine ⟨L, ?_, hF, hV⟩
    rw [fX10_like_L90, if_pos (by decide)]
  | succ m ih =>
    intro n' j L hj hn hF hV
    obtain ⟨n1, rfl⟩ := suc_of hn
    have hs : L 131 (100 * u + j) = La 131 (100 * u + j) := by
      rw [hV]
      by_cases g : 100 * t ≤ 100 * u + j ∧ 100 * u + j < 100 * t + j
      · omega
      · rw [if_neg g]
    obtain ⟨L', r1, r2⟩ := ih n1 (j + 1) (u2 L 131 (100 * t + j) (La 131 (100 * u + j))) (by omega) (by omega) (fun a ha => by rw [u2_nk ha]; exact hF a ha) (fun i => by
      rw [mu2]
      by_cases e : i = 100 * t + j
      · rw [if_pos e, if_pos (by omega), e, show 100 * t + j - 100 * t = j by omega]
      · rw [if_neg e, hV i]
        by_cases g : 100 * t ≤ i ∧ i < 100 * t + j
        · rw [if_pos g, if_pos (by omega)]
        · rw [if_neg g, if_neg (by omega)])
    refine ⟨L', ?_, r2⟩
    rw [← r1, fX10_like_L90, if_neg (by rw [l100, nI_leI (by omega) (by omega)]; omega), g_Mtrays, ob1_some, ob1_some, l100, nI_mulx, nI_add, nI_mulx, nI_add, a_Mtrays (by omega), ob1_some, hs, s_Mtrays (by omega), ob1_some, bnd_eq, nI_1]
