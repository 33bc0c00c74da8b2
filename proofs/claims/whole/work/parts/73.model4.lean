theorem d_feed {B n : Nat} {I : Nat → Nat → Int32} {L : Nat → Nat → Int64} {Q : Nat → Nat → Option Nat} {R : Nat → RDt} {s : STT} (h : IsM I L s) (hs : OkS s) (x : Int32) : RunM B n I L Q R (fX10_feed (B + 108) x (MK B n I L Q R)) (A_feed s x) := by
  obtain ⟨t1, t2⟩ := id h.2.2.1
  have h100 := hs.2.2.2.1.1
  unfold A_feed fX10_feed
  rcases in_rng x (lo := 1) (hi := 127) (by decide) (l := 1) (v := 127) rfl rfl with ⟨b, b1, b2, rfl, b4⟩ | ⟨b1, b2⟩
  · have hix : ix (nI b) 128 = some b := by
      rcases ix_cases (nI b) (m := 128) (by decide) with ⟨i, i1, i2, i3⟩ | ⟨i1, i2⟩
      · rw [nI_eq (by omega) (by omega)] at i2
        rw [i3, i2]
      · exact absurd rfl (i2 b (by omega))
    rw [b4, hix, ob1_some, if_neg (by decide), g_Msize, ob1_some, t1]
    show RunM B n I L Q R _ (if b = 0 then (-2, s) else if (stT s).1 < 100 then (nI ((stT s).1 + 1), setT s ((stT s).1 + 1, fun j => if j = (stT s).1 then b else (stT s).2 j)) else (-4, s))
    rw [if_neg (show ¬ b = 0 by omega)]
    by_cases c : (stT s).1 < 100
    · have z : ¬ nI (stT s).1 = 100 := by rw [l100, nI_eq (by omega) (by omega)]; omega
      rw [if_pos c, if_neg z, g_Mtape, ob1_some, ob1_some, s_Mtape c, ob1_some, g_Msize, ob1_some, u2_nk (by decide), t1, nI_1, p_Msize, ob1_some, g_Msize, ob1_some, u2_eq]
      refine ⟨_, L, rfl, ⟨h.1, ⟨by rw [u2_ne (by omega), u2_nk (by decide)]; exact h.2.1.1, h.2.1.2⟩, ⟨u2_eq, fun j hj => ?_⟩, fun l hl => ?_, fun t ht => ?_⟩, fun a ha => ⟨by rw [u2_nk (by omega), u2_nk (by omega)], rfl⟩⟩
      · have hj : j < (stT s).1 + 1 := hj
        rw [u2_nk (by decide), mu2]
        show _ = nI (if j = (stT s).1 then b else (stT s).2 j)
        by_cases e : j = (stT s).1
        · rw [if_pos e, if_pos e]
        · rw [if_neg e, if_neg e]; exact t2 j (by omega)
      · have := h.2.2.2.1 l hl
        show MList _ _ l (stL s l)
        unfold MList at *
        rw [u2_nk (by decide), u2_nk (by decide)]
        exact this
      · have := h.2.2.2.2 t ht
        show MTray _ _ t (stY s t)
        unfold MTray MPlace at *
        rw [u2_nk (by decide), u2_nk (by decide), u2_nk (by decide), u2_nk (by decide), u2_nk (by decide), u2_nk (by decide)]
        exact this
    · have z : nI (stT s).1 = 100 := by rw [l100, show (stT s).1 = 100 by omega]
      rw [if_neg c, if_pos z]
      exact RunM.same h rfl
  · rw [b2, ob1_some, if_pos rfl]
    rcases ix_cases x (m := 128) (by decide) with ⟨i, i1, rfl, i3⟩ | ⟨i1, i2⟩
    · rw [i3]
      have : i = 0 := Nat.eq_zero_of_not_pos fun q => b1 i q (by omega) rfl
      show RunM B n I L Q R _ (if i = 0 then (-2, s) else if (stT s).1 < 100 then (nI ((stT s).1 + 1), setT s ((stT s).1 + 1, fun j => if j = (stT s).1 then i else (stT s).2 j)) else (-4, s))
      rw [if_pos this]
      exact RunM.same h rfl
    · rw [i1]
      exact RunM.same h rfl
/-! lists -/
theorem m_list_L40 {B n : Nat} {I : Nat → Nat → Int32} {La : Nat → Nat → Int64} {Q : Nat → Nat → Option Nat} {R : Nat → RDt} {l : Nat} (hl : l < 4) (k : AH → Option (Int32 × AH)) :
    ∀ (m n' j : Nat) (L : Nat → Nat → Int64), j + m = 24 → m < n' → (∀ a, a ≠ 127 → L a = La a) → (∀ i, L 127 i = if 24 * l ≤ i ∧ i < 24 * l + j then lN 0 else La 127 i) →
    ∃ L' : Nat → Nat → Int64, fX10_list_L40 (B + 108) (nI l) k n' (nI j) (MK B n I L Q R) = k (MK B n I L' Q R) ∧ (∀ a, a ≠ 127 → L' a = La a) ∧ (∀ i, L' 127 i = if 24 * l ≤ i ∧ i < 24 * l + 24 then lN 0 else La 127 i) := by
  intro m
  induction m with
  | zero =>
    intro n' j L hj hn hF hV
    obtain ⟨n1, rfl⟩ := suc_of hn
    rw [show j = 24 by omega] at hV ⊢
    refine ⟨L, ?_, hF, hV⟩
    rw [fX10_list_L40, if_pos (by decide)]
  | succ m ih =>
    intro n' j L hj hn hF hV
    obtain ⟨n1, rfl⟩ := suc_of hn
    obtain ⟨L', r1, r2⟩ := ih n1 (j + 1) (u2 L 127 (24 * l + j) 0) (by omega) (by omega) (fun a ha => by rw [u2_nk ha]; exact hF a ha) (fun i => by
      rw [mu2]
      by_cases e : i = 24 * l + j
      · rw [if_pos e, if_pos (by omega)]; rfl
      · rw [if_neg e, hV i]
        by_cases g : 24 * l ≤ i ∧ i < 24 * l + j
        · rw [if_pos g, if_pos (by omega)]
        · rw [if_neg g, if_neg (by omega)])
    refine ⟨L', ?_, r2⟩
    rw [← r1, fX10_list_L40, if_neg (by rw [show (24 : Int32) = nI 24 from rfl, nI_leI (by omega) (by omega)]; omega), g_Mlists, ob1_some, show (24 : Int32) = nI 24 from rfl, nI_mulx, nI_add, s_Mlists (by omega), ob1_some, bnd_eq, nI_1]
theorem le_iff_not {a b : Int32} : (a ≤ b) = ¬ (b < a) := by
  rw [Int32.le_iff_toInt_le, Int32.lt_iff_toInt_lt]
  exact propext ⟨fun h => by omega, fun h => by omega⟩
theorem d_list {B n : Nat} {I : Nat → Nat → Int32} {L : Nat → Nat → Int64} {Q : Nat → Nat → Option Nat} {R : Nat → RDt} {s : STT} (h : IsM I L s) (x v : Int32) : RunM B n I L Q R (fX10_list (B + 108) x v (MK B n I L Q R)) (A_list s x v) := by
  unfold A_list fX10_list
  rw [m_isList, ob1_some]
  rcases ix_cases x (m := 4) (by decide) with ⟨l, h1, rfl, h3⟩ | ⟨h1, h2⟩
  · rw [h3, if_neg (bS l)]
    dsimp only
    by_cases c : 24 < v
    · have c2 : ¬ v ≤ 24 := by rw [le_iff_not]; exact fun q => q c
      have c3 : (0 : Int32) ≤ v := by
        have := Int32.lt_iff_toInt_lt.mp c
        have z : (24 : Int32).toInt = 24 := rfl
        have z0 : (0 : Int32).toInt = 0 := rfl
        rw [Int32.le_iff_toInt_le]
        omega
      rw [if_pos c, if_pos c3, if_neg c2]
      exact RunM.same h rfl
    · have c2 : v ≤ 24 := by rw [le_iff_not]; exact c
      rw [if_neg c, if_pos c2]
      rcases ix_cases v (m := 25) (by decide) with ⟨k, k1, rfl, k3⟩ | ⟨k1, k2⟩
      · rw [k3, if_pos (nI_pos' (by omega)), g_MlistMany, ob1_some, s_MlistMany h1, ob1_some]
        dsimp only
        obtain ⟨L', r1, r2, r3⟩ := m_list_L40 (B := B) (n := n) (I := u2 I 126 l (nI k)) (Q := Q) (R := R) h1 (fun (g14 : AH) => some ((1 : Int32), g14)) 24 lf 0 L (by omega) (by decide) (fun _ _ => rfl) (fun i => by rw [if_neg (by omega)])
        refine ⟨u2 I 126 l (nI k), L', r1, h.setList (fun a ha => u2_nk ha) r2 ⟨u2_eq, fun j hj => by rw [r3, if_pos (by omega)]; rfl⟩ (fun q hq h4 => ⟨u2_ne (Or.inr hq), fun j hj => by rw [r3, if_neg (by omega)]⟩), fun a ha => ⟨u2_nk (by omega), r2 a (by omega)⟩⟩
      · rw [k1, if_neg (neg_of (m := 24) (by decide) c2 k2), if_neg (neg_of (m := 24) (by decide) c2 k2)]
        exact RunM.same h rfl
  · rw [h1, if_pos bN]
    exact RunM.same h rfl
/-! the image -/
theorem m_copies_L2 {B n x y : Nat} {I : Nat → Nat → Int32} {La : Nat → Nat → Int64} {Q : Nat → Nat → Option Nat} {R : Nat → RDt} (hxy : x ≠ y) (ha : ∀ (L : Nat → Nat → Int64) (i : Nat), i < 118 → aL (MK B n I L Q R) (B + x) (nI i) = some (L x i)) (hs : ∀ (L : Nat → Nat → Int64) (i : Nat) (v : Int64), i < 118 → sL (MK B n I L Q R) (B + y) (nI i) v = some (MK B n I (u2 L y i v) Q R)) (k : AH → Option AH) :
    ∀ (m n' j : Nat) (L : Nat → Nat → Int64), j + m = 118 → m < n' → (∀ a, a ≠ y → L a = La a) → (∀ i, i < j → L y i = La x i) →
    ∃ L' : Nat → Nat → Int64, fX10_copies_L2 (B + x) (B + y) k n' (nI j) (MK B n I L Q R) = k (MK B n I L' Q R) ∧ (∀ a, a ≠ y → L' a = La a) ∧ (∀ i, i < 118 → L' y i = La x i) := by
  intro m
  induction m with
  | zero =>
    intro n' j L hj hn hF hV
    obtain ⟨n1, rfl⟩ := suc_of hn
    rw [show j = 118 by omega] at hV ⊢
    refine ⟨L, ?_, hF, hV⟩
    rw [fX10_copies_L2, if_pos (by decide)]
  | succ m ih =>
    intro n' j L hj hn hF hV
    obtain ⟨n1, rfl⟩ := suc_of hn
    obtain ⟨L', r1, r2⟩ := ih n1 (j + 1) (u2 L y j (La x j)) (by omega) (by omega) (fun a ha => by rw [u2_nk ha]; exact hF a ha) (fun i hi => by
      rw [mu2]
      by_cases e : i = j
      · rw [if_pos e, e]
      · rw [if_neg e]; exact hV i (by omega))
    refine ⟨L', ?_, r2⟩
    rw [← r1, fX10_copies_L2, if_neg (by rw [l118, nI_leI (by omega) (by omega)]; omega), ha L j (by omega), ob1_some, hF x hxy, hs L j _ (by omega), ob1_some, bnd_eq, nI_1]
theorem MNet.copy {L L' : Nat → Nat → Int64} {x y : Nat} {N : NET} (h : MNet L x N) (hm : nM N ≤ 13) (hc : ∀ i, i < 118 → L' y i = L x i) : MNet L' y N := by
  obtain ⟨h1, h2, h3, h4⟩ := h
  exact ⟨by rw [hc 0 (by decide)]; exact h1, by rw [hc 1 (by decide)]; exact h2, fun r j hr hj => by rw [hc _ (by omega)]; exact h3 r j hr hj, fun c j h5 hj => by rw [hc _ (by omega)]; exact h4 c j h5 hj⟩
theorem d_image {B n : Nat} {I : Nat → Nat → Int32} {L : Nat → Nat → Int64} {Q : Nat → Nat → Option Nat} {R : Nat → RDt} {s : STT} (h : IsM I L s) (hs : OkS s) : RunM B n I L Q R (fX10_image (B + 108) (MK B n I L Q R)) (A_image s) := by
  have hm := hs.2.1
  obtain ⟨L', r1, r2, r3⟩ := m_copies_L2 (x := 109) (y := 110) (B := B) (n := n) (I := u2 I 108 3 1) (Q := Q) (R := R) (by decide) (fun L i hi => a_Mnow hi) (fun L i v hi => s_Mimaged hi) (fun (g7 : AH) => some g7) 118 lf 0 L (by omega) (by decide) (fun _ _ => rfl) (fun i hi => absurd hi (Nat.not_lt_zero i))
  have hN : MNet L' 109 (stN s) := by
    have := h.1
    unfold MNet at *
    rw [r2 109 (by decide)]
    exact this
  refine ⟨u2 I 108 3 1, L', ?_, ⟨hN, ⟨u2_eq, fun M hM => ?_⟩, ?_, fun l hl => ?_, fun t ht => ?_⟩, fun a ha => ⟨u2_nk (by omega), r2 a (by omega)⟩⟩
  · unfold fX10_image A_image fX10_copies
    have r1' : fX10_copies_L2 (B + 109) (B + 110) (fun g7 => some g7) lf 0 (MK B n (u2 I 108 3 1) L Q R) = some (MK B n (u2 I 108 3 1) L' Q R) := r1
    rw [p_MhasImage, ob1_some, g_Mnow, ob1_some, g_Mimaged, ob1_some, r1', ob1_some, m_roadMany hN (by omega), ob1_some]
  · have e : stN s = M := Option.some.inj hM
    rw [← e]
    exact h.1.copy (by omega) r3
  · have h3 := h.2.2.1
    show MTape _ (stT s)
    unfold MTape at *
    rw [u2_ne (by omega), u2_nk (by decide)]
    exact h3
  · have := h.2.2.2.1 l hl
    show MList _ _ l (stL s l)
    unfold MList at *
    rw [u2_nk (by decide), r2 127 (by decide)]
    exact this
  · have := h.2.2.2.2 t ht
    show MTray _ _ t (stY s t)
    unfold MTray MPlace at *
    rw [u2_nk (by decide), u2_nk (by decide), u2_nk (by decide), r2 131 (by decide)]
    exact this
theorem d_undo {B n : Nat} {I : Nat → Nat → Int32} {L : Nat → Nat → Int64} {Q : Nat → Nat → Option Nat} {R : Nat → RDt} {s : STT} (h : IsM I L s) (hs : OkS s) : RunM B n I L Q R (fX10_undo (B + 108) (MK B n I L Q R)) (A_undo s) := by
  obtain ⟨k1, k2⟩ := id h.2.1
  unfold A_undo fX10_undo
  rw [g_MhasImage, ob1_some, k1]
  cases hk : stK s with
  | none => exact RunM.same h rfl
  | some M =>
    obtain ⟨m1, m2⟩ := hs.2.2.1 M hk
    obtain ⟨L', r1, r2, r3⟩ := m_copies_L2 (x := 110) (y := 109) (B := B) (n := n) (I := I) (Q := Q) (R := R) (by decide) (fun L i hi => a_Mimaged hi) (fun L i v hi => s_Mnow hi) (fun (g7 : AH) => some g7) 118 lf 0 L (by omega) (by decide) (fun _ _ => rfl) (fun i hi => absurd hi (Nat.not_lt_zero i))
    have hN : MNet L' 109 M := (k2 M hk).copy (by omega) r3
    refine ⟨I, L', ?_, h.setNow hN r2, fun a ha => ⟨rfl, r2 a (by omega)⟩⟩
    unfold fX10_copies
    have r1' : fX10_copies_L2 (B + 110) (B + 109) (fun g7 => some g7) lf 0 (MK B n I L Q R) = some (MK B n I L' Q R) := r1
    rw [if_neg (show ¬ bz (some M).isSome = 0 from (show ¬ bz true = 0 by decide)), g_Mimaged, ob1_some, g_Mnow, ob1_some, r1', ob1_some, m_roadMany hN (by omega), ob1_some]
