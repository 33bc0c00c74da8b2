/-! the image, lists and trays -/
def setK (s : STT) (K : Option NET) : STT := (stN s, K, stT s, stY s, stL s)
def setLs (s : STT) (l : Nat) (v : LST) : STT := (stN s, stK s, stT s, stY s, fun q => if q = l then v else stL s q)
def setTr (s : STT) (t : Nat) (v : TRAY) : STT := (stN s, stK s, stT s, (fun q => if q = t then v else stY s q), stL s)
theorem Core.setKept {B n : Nat} {I : Nat → Nat → Int32} {L : Nat → Nat → Int64} {Q : Nat → Nat → Option Nat} {R : Nat → RDt} {I' : Nat → Nat → Int32} {L' : Nat → Nat → Int64} {Q' : Nat → Nat → Option Nat} {s : STT} {K : Option NET} (h : Core B n I L Q R s) (hK : KeptIs B n I' L' Q' R K) (hI : ∀ a, (1 ≤ a ∧ a < 9) ∨ 16 ≤ a → I' a = I a) (hL : ∀ a, a ≠ 11 → L' a = L a) (hQ : ∀ a, a ≠ 10 → Q' a = Q a) : Core B n I' L' Q' R (setK s K) := by
  obtain ⟨h0, h1, h2, h3, h4, h5, h6, h7⟩ := h
  refine ⟨h0, ?_, h2, h3, hK, h5.same (by rw [hI 58 (by omega)]) (hI 59 (by omega)), fun t ht => (h6 t ht).same (hI _ (by omega)) (hQ _ (by omega)), fun l hl => (h7 l hl).same (hI _ (by omega)) (hL _ (by omega))⟩
  obtain ⟨g1, g2, g3, g4, g5, g6⟩ := h1
  have hq : Q' 2 = Q 2 := hQ 2 (by decide)
  have had : ∀ r, adr Q' 1 r = adr Q 1 r := fun r => by unfold adr; rw [hq]
  exact ⟨by rw [hI 1 (by omega)]; exact g1, by rw [hI 1 (by omega)]; exact g2, fun r hr => by rw [had, hq]; exact g3 r hr, fun r hr => by rw [had]; exact g4 r hr, fun r hr => by rw [hL 3 (by decide)]; exact g5 r hr, fun c j hc hj => by rw [hI _ (by omega)]; exact g6 c j hc hj⟩
theorem Core.setList {B n : Nat} {I : Nat → Nat → Int32} {L : Nat → Nat → Int64} {Q : Nat → Nat → Option Nat} {R : Nat → RDt} {I' : Nat → Nat → Int32} {L' : Nat → Nat → Int64} {s : STT} {l : Nat} {v : LST} (h : Core B n I L Q R s) (hl : l < 4) (hV : ListIs I' L' (100 + 2 * l) v) (hI : ∀ a, a ≠ 100 + 2 * l → I' a = I a) (hL : ∀ a, a ≠ 100 + 2 * l + 1 → L' a = L a) : Core B n I' L' Q R (setLs s l v) := by
  obtain ⟨h0, h1, h2, h3, h4, h5, h6, h7⟩ := h
  refine ⟨h0, h1.same (fun k a b => hI k (by omega)) (hL 3 (by omega)), h2, h3, h4.same (by rw [hI 0 (by omega)]) (fun a g1 g2 => hI a (by omega)) (hL 11 (by omega)), h5.same (by rw [hI 58 (by omega)]) (hI 59 (by omega)), fun t ht => (h6 t ht).same (hI _ (by omega)) rfl, fun q hq => ?_⟩
  show ListIs I' L' (100 + 2 * q) (if q = l then v else stL s q)
  by_cases e : q = l
  · rw [if_pos e, e]; exact hV
  · rw [if_neg e]; exact (h7 q hq).same (hI _ (by omega)) (hL _ (by omega))
theorem Core.setTray {B n : Nat} {I : Nat → Nat → Int32} {L : Nat → Nat → Int64} {Q : Nat → Nat → Option Nat} {R : Nat → RDt} {I' : Nat → Nat → Int32} {Q' : Nat → Nat → Option Nat} {s : STT} {t : Nat} {v : TRAY} (h : Core B n I L Q R s) (hl : t < 3) (hV : TrayIs B n I' Q' R (94 + 2 * t) v) (hI : ∀ a, a ≠ 94 + 2 * t → I' a = I a) (hQ : ∀ a, a ≠ 94 + 2 * t + 1 → Q' a = Q a) : Core B n I' L Q' R (setTr s t v) := by
  obtain ⟨h0, h1, h2, h3, h4, h5, h6, h7⟩ := h
  have net : ∀ x N, x + 7 ≤ 93 → NetIs B n I L Q R x N → NetIs B n I' L Q' R x N := fun x N hx g => by
    obtain ⟨g1, g2, g3, g4, g5, g6⟩ := g
    have hq : Q' (x + 1) = Q (x + 1) := hQ _ (by omega)
    have had : ∀ r, adr Q' x r = adr Q x r := fun r => by unfold adr; rw [hq]
    exact ⟨by rw [hI x (by omega)]; exact g1, by rw [hI x (by omega)]; exact g2, fun r hr => by rw [had, hq]; exact g3 r hr, fun r hr => by rw [had]; exact g4 r hr, g5, fun c j hc hj => by rw [hI _ (by omega)]; exact g6 c j hc hj⟩
  refine ⟨h0, net 1 _ (by decide) h1, h2, h3, ⟨by rw [hI 0 (by omega)]; exact h4.1, fun M hM => ⟨net 9 _ (by decide) (h4.2 M hM).1, (h4.2 M hM).2⟩⟩, h5.same (by rw [hI 58 (by omega)]) (hI 59 (by omega)), fun q hq => ?_, fun l hl => (h7 l hl).same (hI _ (by omega)) rfl⟩
  show TrayIs B n I' Q' R (94 + 2 * q) (if q = t then v else stY s q)
  by_cases e : q = t
  · rw [if_pos e, e]; exact hV
  · rw [if_neg e]; exact (h6 q hq).same (hI _ (by omega)) (hQ _ (by omega))
/-- caches and fixed cells stay, when cells from 94 on change -/
theorem RepC.core {B n : Nat} {I : Nat → Nat → Int32} {L : Nat → Nat → Int64} {Q : Nat → Nat → Option Nat} {R : Nat → RDt} {n' : Nat} {I' : Nat → Nat → Int32} {L' : Nat → Nat → Int64} {Q' : Nat → Nat → Option Nat} {R' : Nat → RDt} {s s' : STT} {fp : Bool} {fs : Nat → Bool} {fc : Bool} (h : RepC B n I L Q R s fp fs fc) (hC : Core B n' I' L' Q' R' s') (hN : stN s' = stN s) (hI : ∀ a, (17 ≤ a ∧ a < 58) ∨ (64 ≤ a ∧ a < 94) → I' a = I a) (h4 : I' 0 4 = I 0 4) (h8 : I' 0 8 = I 0 8) (hL : ∀ a, (17 ≤ a ∧ a < 58) ∨ (64 ≤ a ∧ a < 94) → L' a = L a) : RepC B n' I' L' Q' R' s' fp fs fc :=
  ⟨hC, by rw [hN]; exact h.2.1.same h4 h8 (fun a ha => hI a (by omega)) (fun a ha => hL a (by omega)), h.2.2.same (fun a b1 b2 => hI a (by omega)) (fun x hx => hL _ (by unfold isS at hx; omega))⟩
def A_image (s : STT) : Int32 × STT := (nI (nM (stN s)), setK s (some (stN s)))
theorem c_image {B n : Nat} {I : Nat → Nat → Int32} {L : Nat → Nat → Int64} {Q : Nat → Nat → Option Nat} {R : Nat → RDt} {s : STT} (h : IsC B n I L Q R s) : RunC B I L (fX9_image B (MK B n I L Q R)) (A_image s) := by
  obtain ⟨fp, fs, fc, h0⟩ := id h
  have hC := h0.1
  have hN := hC.2.1
  have hO := hC.2.2.1
  have hm := hC.2.2.2.1
  obtain ⟨I', L', Q', r1, r2, r3, r4, r5⟩ := e_copyFrom isN9 isN1 (by decide) hN (by omega)
  have hK : KeptIs B n (u2 I' 0 2 1) L' Q' R (some (stN s)) := ⟨u2_eq, fun M hM => by
    have e : stN s = M := Option.some.inj hM
    rw [← e]
    exact ⟨r2.same (fun k _ _ => u2_nk (by omega)) rfl, hO, hm⟩⟩
  have hC1 := hC.setKept hK (fun a ha => by rw [u2_nk (by omega), r3 a (by omega)]) (fun a ha => r4 a ha) (fun a ha => r5 a ha)
  have hR := h0.core hC1 rfl (fun a ha => by rw [u2_nk (by omega), r3 a (by omega)]) (by rw [u2_ne (by omega), r3 0 (by omega)]) (by rw [u2_ne (by omega), r3 0 (by omega)]) (fun a ha => r4 a (by omega))
  refine ⟨n, u2 I' 0 2 1, L', Q', R, ?_, ⟨fp, fs, fc, hR⟩, fun a ha => ⟨by rw [u2_nk (by omega), r3 a (by omega)], r4 a (by omega)⟩⟩
  unfold fX9_image
  rw [g_Wkept, ob1_some, g_Wnow, ob1_some, k_Net isN9, gd_true, r1, ob1_some, p_WisKept, ob1_some, g_Wkept, ob1_some, g_size isN9, ob1_some, u2_nk (by decide), r2.2.1]
  rfl
def A_undo (s : STT) : Int32 × STT := match stK s with
  | none => (-3, s)
  | some M => (nI (nM M), setN s M)
theorem c_undo {B n : Nat} {I : Nat → Nat → Int32} {L : Nat → Nat → Int64} {Q : Nat → Nat → Option Nat} {R : Nat → RDt} {s : STT} (h : IsC B n I L Q R s) : RunC B I L (fX9_undo B (MK B n I L Q R)) (A_undo s) := by
  obtain ⟨fp, fs, fc, h0⟩ := id h
  have hC := h0.1
  obtain ⟨k1, k2⟩ := hC.2.2.2.2.1
  unfold A_undo fX9_undo
  rw [g_WisKept, ob1_some, k1]
  cases hk : stK s with
  | none => exact RunC.same h rfl
  | some M =>
    obtain ⟨m1, m2, m3⟩ := k2 M hk
    obtain ⟨I', L', Q', r1, r2, r3, r4, r5⟩ := e_copyFrom isN1 isN9 (by decide) m1 (by omega)
    have hC1 := hC.setNow r2 m2 m3 (fun a ha => r3 a (by omega)) (fun a ha => r4 a ha) (fun a ha => r5 a ha)
    obtain ⟨I2, t1, t2, t3⟩ := done_changed hC1 (h0.2.2.same (fun a b1 b2 => r3 a (by omega)) (fun x hx => r4 _ (by unfold isS at hx; omega)))
    refine ⟨n, I2, L', Q', R, ?_, t2, fun a ha => ⟨by rw [t3 a (by omega) (by omega), r3 a (by omega)], r4 a (by omega)⟩⟩
    rw [if_neg (show ¬ bz (some M).isSome = 0 from (show ¬ bz true = 0 by decide)), g_Wnow, ob1_some, g_Wkept, ob1_some, k_Net isN1, gd_true, r1, ob1_some, t1, ob1_some, g_Wnow, ob1_some, g_size isN1, ob1_some, t3 1 (by decide) (by decide), r2.2.1]
/-! lists -/
theorem e_fillL_L6 {B n : Nat} {I : Nat → Nat → Int32} {La : Nat → Nat → Int64} {Q : Nat → Nat → Option Nat} {R : Nat → RDt} {x : Nat} (hx : isR x) (k : AH → Option AH) :
    ∀ (m n' j : Nat) (L : Nat → Nat → Int64), j + m = 24 → m < n' → (∀ a, a ≠ x + 1 → L a = La a) → (∀ i, i < j → L (x + 1) i = lN 0) →
    ∃ L' : Nat → Nat → Int64, fJ7_fill_d0a16_L6 (B + (x + 1)) 0 (nI 24) k n' (nI j) (MK B n I L Q R) = k (MK B n I L' Q R) ∧ (∀ a, a ≠ x + 1 → L' a = La a) ∧ (∀ i, i < 24 → L' (x + 1) i = lN 0) := by
  intro m
  induction m with
  | zero =>
    intro n' j L hj hn hF hV
    obtain ⟨n1, rfl⟩ := suc_of hn
    rw [show j = 24 by omega] at hV ⊢
    refine ⟨L, ?_, hF, hV⟩
    rw [fJ7_fill_d0a16_L6, if_pos (by decide)]
  | succ m ih =>
    intro n' j L hj hn hF hV
    obtain ⟨n1, rfl⟩ := suc_of hn
    obtain ⟨L', r1, r2⟩ := ih n1 (j + 1) (u2 L (x + 1) j 0) (by omega) (by omega) (fun a ha => by rw [u2_nk ha]; exact hF a ha) (fun i hi => by
      by_cases e : i = j
      · rw [e, u2_eq]; rfl
      · rw [u2_ne (Or.inr e)]; exact hV i (by omega))
    refine ⟨L', ?_, r2⟩
    rw [← r1, fJ7_fill_d0a16_L6, if_neg (by rw [nI_leI (by omega) (by omega)]; omega), s_longs hx (by omega), ob1_some, bnd_eq, nI_1]
theorem e_lmiss {B n : Nat} {I : Nat → Nat → Int32} {L : Nat → Nat → Int64} {Q : Nat → Nat → Option Nat} {R : Nat → RDt} {l : Nat} {v : LST} (hl : l < 4) (h : ListIs I L (100 + 2 * l) v) : fX4_isMissing (B + (100 + 2 * l)) (MK B n I L Q R) = some (bz v.isNone) := by
  unfold fX4_isMissing
  rw [g_rowsize (isRl hl), ob1_some]
  cases v with
  | none =>
    have h : I (100 + 2 * l) 0 = -1 := h
    rw [h, if_neg (by decide)]
    rfl
  | some v =>
    rw [h.1, if_pos (nI_pos' (by have := h.2.1; omega))]
    rfl
def A_list (s : STT) (x v : Int32) : Int32 × STT := match ix x 4 with
  | some l => if v ≤ 24 then (match ix v 25 with
    | some k => (1, setLs s l (some (k, fun _ => 0)))
    | none => (-14, s)) else (-2, s)
  | none => (-1, s)
theorem neg_of {v : Int32} {m : Nat} (hm : m < 2147483647) (h : v ≤ nI m) (hn : ∀ j, j < m + 1 → v ≠ nI j) : ¬ (0 : Int32) ≤ v := fun e => by
  have h0 : ¬ v < 0 := fun g => by
    have e1 := Int32.le_iff_toInt_le.mp e
    have e2 := Int32.lt_iff_toInt_lt.mp g
    omega
  obtain ⟨u, hu, rfl⟩ := nI_of h0
  rw [nI_leI (by omega) (by omega)] at h
  exact hn u (by omega) rfl
theorem c_list {B n : Nat} {I : Nat → Nat → Int32} {L : Nat → Nat → Int64} {Q : Nat → Nat → Option Nat} {R : Nat → RDt} {s : STT} (h : IsC B n I L Q R s) (x v : Int32) : RunC B I L (fX9_list B x v (MK B n I L Q R)) (A_list s x v) := by
  obtain ⟨fp, fs, fc, h0⟩ := id h
  unfold A_list fX9_list
  rw [ix4, ob1_some]
  rcases ix_cases x (m := 4) (by decide) with ⟨l, h1, rfl, h3⟩ | ⟨h1, h2⟩
  · rw [h3, if_neg (bS l)]
    dsimp only
    by_cases c : v ≤ 24
    · rw [if_pos c, if_pos c]
      rcases ix_cases v (m := 25) (by decide) with ⟨k, k1, rfl, k3⟩ | ⟨k1, k2⟩
      · rw [k3, if_pos (nI_pos' (by omega))]
        dsimp only
        have hx := isRl h1
        obtain ⟨L', r1, r2, r3⟩ := e_fillL_L6 (B := B) (n := n) (I := u2 I (100 + 2 * l) 0 (nI k)) (Q := Q) (R := R) hx (fun (g7 : AH) => some g7) 24 lf 0 L (by omega) (by decide) (fun _ _ => rfl) (fun i hi => absurd hi (Nat.not_lt_zero i))
        have hC1 := h0.1.setList (v := some (k, fun _ => 0)) h1 ⟨u2_eq, by show k ≤ 24; omega, fun j hj => r3 j hj⟩ (fun a ha => u2_nk ha) r2
        refine ⟨n, u2 I (100 + 2 * l) 0 (nI k), L', Q, R, ?_, ⟨fp, fs, fc, h0.core hC1 rfl (fun a ha => u2_nk (by omega)) (by rw [u2_nk (by omega)]) (by rw [u2_nk (by omega)]) (fun a ha => r2 a (by omega))⟩, fun a ha => ⟨u2_nk (by omega), r2 a (by omega)⟩⟩
        rw [g_Wrows, ob1_some, r_rows h1, ob1_some, k_Row hx, gd_true]
        unfold fX4_become fJ7_fill_d0a16
        rw [p_rowsize hx, ob1_some, g_longs hx, ob1_some, n_longs hx, ob1_some]
        have r1' : fJ7_fill_d0a16_L6 (B + (100 + 2 * l + 1)) 0 (nI 24) (fun g7 => some g7) lf 0 (MK B n (u2 I (100 + 2 * l) 0 (nI k)) L Q R) = some (MK B n (u2 I (100 + 2 * l) 0 (nI k)) L' Q R) := r1
        rw [r1', ob1_some, ob1_some]
      · rw [k1, if_neg (neg_of (m := 24) (by decide) c k2)]
        exact RunC.same h rfl
    · rw [if_neg c, if_neg c]
      exact RunC.same h rfl
  · rw [h1, if_pos bN]
    exact RunC.same h rfl
def A_set (s : STT) (x i : Int32) (v : Int64) : Int32 × STT := match ix x 4 with
  | some l => (match stL s l with
    | some q => (match ix i q.1 with
      | some k => (1, setLs s l (some (q.1, fun j => if j = k then v else q.2 j)))
      | none => (-13, s))
    | none => (-11, s))
  | none => (-1, s)
theorem c_set {B n : Nat} {I : Nat → Nat → Int32} {L : Nat → Nat → Int64} {Q : Nat → Nat → Option Nat} {R : Nat → RDt} {s : STT} (h : IsC B n I L Q R s) (x i : Int32) (v : Int64) : RunC B I L (fX9_set B x i v (MK B n I L Q R)) (A_set s x i v) := by
  obtain ⟨fp, fs, fc, h0⟩ := id h
  unfold A_set fX9_set
  rw [ix4, ob1_some]
  rcases ix_cases x (m := 4) (by decide) with ⟨l, h1, rfl, h3⟩ | ⟨h1, h2⟩
  · rw [h3, if_neg (bS l)]
    dsimp only
    have hx := isRl h1
    have hL := h0.1.2.2.2.2.2.2.2 l h1
    rw [g_Wrows, ob1_some, r_rows h1, ob1_some, k_Row hx, gd_true, e_lmiss h1 hL, ob1_some]
    cases hq : stL s l with
    | none => exact RunC.same h rfl
    | some q =>
      rw [hq] at hL
      obtain ⟨l1, l2, l3⟩ := id hL
      rw [if_pos (by rfl), ob1_some, r_rows h1, ob1_some, g_rowsize hx, ob1_some, l1, e_isOneOf_ix, ob1_some]
      dsimp only
      rcases ix_cases i (m := q.1) (by omega) with ⟨k, k1, rfl, k3⟩ | ⟨k1, k2⟩
      · rw [k3, if_neg (bS k), ob1_some, r_rows h1, ob1_some, g_longs hx, ob1_some, s_longs hx (by omega), ob1_some]
        have hC1 := h0.1.setList (I' := I) (L' := u2 L (100 + 2 * l + 1) k v) (v := some (q.1, fun j => if j = k then v else q.2 j)) h1 ⟨l1, l2, fun j hj => by
          show _ = if j = k then v else q.2 j
          by_cases e : j = k
          · rw [if_pos e, e, u2_eq]
          · rw [if_neg e, u2_ne (Or.inr e)]; exact l3 j hj⟩ (fun _ _ => rfl) (fun a ha => u2_nk ha)
        exact ⟨n, I, u2 L (100 + 2 * l + 1) k v, Q, R, rfl, ⟨fp, fs, fc, h0.core hC1 rfl (fun _ _ => rfl) rfl rfl (fun a ha => u2_nk (by omega))⟩, fun a ha => ⟨rfl, u2_nk (by omega)⟩⟩
      · rw [k1, if_pos bN]
        exact RunC.same h rfl
  · rw [h1, if_pos bN]
    exact RunC.same h rfl
def A_get (s : STT) (x i : Int32) : Int64 := match ix x 4 with
  | some l => (match stL s l with
    | some q => (match ix i q.1 with
      | some k => q.2 k
      | none => NOv)
    | none => NOv)
  | none => NOv
theorem c_get {B n : Nat} {I : Nat → Nat → Int32} {L : Nat → Nat → Int64} {Q : Nat → Nat → Option Nat} {R : Nat → RDt} {s : STT} (h : IsC B n I L Q R s) (x i : Int32) : fX9_get B x i (MK B n I L Q R) = some (A_get s x i) := by
  obtain ⟨fp, fs, fc, h0⟩ := id h
  unfold A_get fX9_get
  rw [ix4, ob1_some, NO_lit]
  rcases ix_cases x (m := 4) (by decide) with ⟨l, h1, rfl, h3⟩ | ⟨h1, h2⟩
  · rw [h3, if_neg (bS l)]
    dsimp only
    have hx := isRl h1
    have hL := h0.1.2.2.2.2.2.2.2 l h1
    rw [g_Wrows, ob1_some, r_rows h1, ob1_some, g_rowsize hx, ob1_some]
    cases hq : stL s l with
    | none =>
      rw [hq] at hL
      have hL : I (100 + 2 * l) 0 = -1 := hL
      rw [hL]
      have e : fX9_isOneOf i (-1) = some 0 := by
        unfold fX9_isOneOf
        by_cases c : i < 0
        · rw [if_pos c]
        · rw [if_neg c, if_pos]
          obtain ⟨u, hu, rfl⟩ := nI_of c
          have e2 : (-1 : Int32) < nI u := by rw [show (-1 : Int32) = m1 from rfl, m1_lt (by omega)]; trivial
          have e3 := Int32.lt_iff_toInt_lt.mp e2
          rw [Int32.le_iff_toInt_le]
          omega
      rw [e, ob1_some, if_pos rfl]
    | some q =>
      rw [hq] at hL
      obtain ⟨l1, l2, l3⟩ := id hL
      rw [l1, e_isOneOf_ix, ob1_some]
      dsimp only
      rcases ix_cases i (m := q.1) (by omega) with ⟨k, k1, rfl, k3⟩ | ⟨k1, k2⟩
      · rw [k3, if_neg (bS k), ob1_some, r_rows h1, ob1_some, g_longs hx, ob1_some, a_longs hx (by omega), ob1_some, l3 k (by omega)]
      · rw [k1, if_pos bN]
  · rw [h1, if_pos bN]
