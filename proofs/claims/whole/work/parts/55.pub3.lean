def leastT (k : Nat) : Nat := if k = 0 then 1 else if k = 2 then 1 else 0
def mostT (k : Nat) : Nat := if k = 0 then 5 else if k = 1 then 12 else 9
theorem CrN_iff {N : NET} {c : Nat} : CrN N c ↔ ∀ k, k < 4 → leastT k ≤ nC N c k ∧ nC N c k ≤ mostT k := by
  constructor
  · intro ⟨h1, h2, h3, h4, h5, h6⟩ k hk
    obtain e | e | e | e : k = 0 ∨ k = 1 ∨ k = 2 ∨ k = 3 := by omega
    · subst e; exact ⟨h1, h2⟩
    · subst e; exact ⟨Nat.zero_le _, h3⟩
    · subst e; exact ⟨h4, h5⟩
    · subst e; exact ⟨Nat.zero_le _, h6⟩
  · intro h
    exact ⟨(h 0 (by decide)).1, (h 0 (by decide)).2, (h 1 (by decide)).2, (h 2 (by decide)).1, (h 2 (by decide)).2, (h 3 (by decide)).2⟩
theorem tTL_is {k : Nat} (h : k < 4) : tTL (nI k) = some (nI (leastT k)) := by
  obtain e | e | e | e : k = 0 ∨ k = 1 ∨ k = 2 ∨ k = 3 := by omega
  all_goals subst e; rfl
theorem tTM_is {k : Nat} (h : k < 4) : tTM (nI k) = some (nI (mostT k)) := by
  obtain e | e | e | e : k = 0 ∨ k = 1 ∨ k = 2 ∨ k = 3 := by omega
  all_goals subst e; rfl
def setCr (N : NET) (c k w : Nat) : NET := (nT N, nM N, nRd N, nTl N, fun a b => if a = c ∧ b = k then w else nC N a b)
def A_drivers (s : STT) (c k v : Int32) : Int32 × STT := match ix c 3 with
  | some cl => (match ix k 4 with
    | some w => (match ix v (mostT w + 1) with
      | some u => if u < leastT w then (-2, s) else (nI (nC (stN s) cl w), setN s (setCr (stN s) cl w u))
      | none => (-2, s))
    | none => (-1, s))
  | none => (-1, s)
theorem ix3 (x : Int32) : fX9_isOneOf x 3 = some (bz (ix x 3).isSome) := e_isOneOf_ix x 3
theorem ix4 (x : Int32) : fX9_isOneOf x 4 = some (bz (ix x 4).isSome) := e_isOneOf_ix x 4
theorem ix2 (x : Int32) : fX9_isOneOf x 2 = some (bz (ix x 2).isSome) := e_isOneOf_ix x 2
theorem bS (j : Nat) : ¬ bz (some j).isSome = (0 : Int32) := by show ¬ bz true = 0; decide
theorem bN : bz (none : Option Nat).isSome = (0 : Int32) := by decide
theorem c_drivers {B n : Nat} {I : Nat → Nat → Int32} {L : Nat → Nat → Int64} {Q : Nat → Nat → Option Nat} {R : Nat → RDt} {s : STT} (h : IsC B n I L Q R s) (c k v : Int32) : RunC B I L (fX9_drivers B c k v (MK B n I L Q R)) (A_drivers s c k v) := by
  obtain ⟨fp, fs, fc, hC, hK, hF⟩ := id h
  have hN := hC.2.1
  have hO := hC.2.2.1
  have hm := hC.2.2.2.1
  have hx := isN1
  unfold A_drivers fX9_drivers
  rw [ix3, ob1_some]
  rcases ix_cases c (m := 3) (by decide) with ⟨cl, h1, rfl, h3⟩ | ⟨h1, h2⟩
  · rw [h3, if_neg (bS cl), ix4, ob1_some]
    rcases ix_cases k (m := 4) (by decide) with ⟨w, j1, rfl, j3⟩ | ⟨j1, j2⟩
    · rw [j3, if_neg (bS w), tTL_is j1, ob1_some]
      have hl : leastT w ≤ 1 := by unfold leastT; split <;> (try split) <;> omega
      have hmo : mostT w ≤ 12 := by unfold mostT; split <;> (try split) <;> omega
      have hlm : leastT w ≤ mostT w := by unfold leastT mostT; split <;> (try split) <;> (try split) <;> omega
      dsimp only
      rcases ix_cases v (m := mostT w + 1) (by omega) with ⟨u, i1, rfl, i3⟩ | ⟨i1, i2⟩
      · rw [i3]
        show RunC B I L _ (if u < leastT w then (-2, s) else (nI (nC (stN s) cl w), setN s (setCr (stN s) cl w u)))
        by_cases e : u < leastT w
        · rw [if_pos e, if_pos (by rw [nI_ltI (by omega) (by omega)]; exact e)]
          exact RunC.same h rfl
        · rw [if_neg e, if_neg (by rw [nI_ltI (by omega) (by omega)]; exact e), tTM_is j1, ob1_some, if_pos (by rw [nI_leI (by omega) (by omega)]; omega)]
          have hN' : NetIs B n (u2 I (1 + (4 + cl)) w (nI u)) L Q R 1 (setCr (stN s) cl w u) := ⟨by rw [u2_ne (by omega)]; exact hN.1, by rw [u2_ne (by omega)]; exact hN.2.1, hN.2.2.1, hN.2.2.2.1, hN.2.2.2.2.1, fun a b ha hb => by
            show _ = nI (if a = cl ∧ b = w then u else nC (stN s) a b)
            by_cases g : a = cl ∧ b = w
            · rw [if_pos g, g.1, g.2, u2_eq]
            · rw [if_neg g, u2_ne (by omega)]; exact hN.2.2.2.2.2 a b ha hb⟩
          have hO' : NetOK (setCr (stN s) cl w u) := ⟨hO.1, hO.2.1, hO.2.2.1, hO.2.2.2.1, fun a ha => by
            have g := CrN_iff.mp (hO.2.2.2.2 a ha)
            refine CrN_iff.mpr fun b hb => ?_
            show leastT b ≤ (if a = cl ∧ b = w then u else nC (stN s) a b) ∧ (if a = cl ∧ b = w then u else nC (stN s) a b) ≤ mostT b
            by_cases q : a = cl ∧ b = w
            · rw [if_pos q, q.2]
              omega
            · rw [if_neg q]
              exact g b hb⟩
          have hC1 := hC.setNow hN' hO' hm (fun a ha => u2_nk (by omega)) (fun _ _ => rfl) (fun _ _ => rfl)
          obtain ⟨I', t1, t2, t3⟩ := done_changed hC1 (hF.same (fun a b1 b2 => u2_nk (by omega)) (fun _ _ => rfl))
          refine ⟨n, I', L, Q, R, ?_, t2, fun a ha => ⟨by rw [t3 a (by omega) (by omega), u2_nk (by omega)], rfl⟩⟩
          have hcr := hN.2.2.2.2.2 cl w h1 j1
          simp (disch := first | assumption | omega) only [ob1_some, ob2_some, bnd_eq, gd_true, oc_none, oc_some, ↓reduceIte, g_Wnow, g_Wkept, g_Wpaths, g_Wsteadies, g_Wsfresh, g_Wcheapest, g_WthoughtNet, g_WthoughtPaths, g_WthoughtSteady, g_Wtape, g_Wtrays, g_Wrows, g_WtoldLoads, g_Wsum, g_WisKept, p_WisKept, g_Wpfresh, p_Wpfresh, g_Wcfresh, p_Wcfresh, k_W, a_sfresh, s_sfresh, a_told, s_told, r_steadies, r_trays, r_rows, k_Net, g_towns, p_towns, g_size, p_size, g_roads, g_tolls, g_crowds, a_tolls, s_tolls, r_crowds, a_crowd, s_crowd, q_roads, w_roads, hcr, t1]
      · rw [i1]
        refine RunC.same h ?_
        by_cases e : v < nI (leastT w)
        · rw [if_pos e]
        · rw [if_neg e, tTM_is j1, ob1_some]
          refine if_neg fun g => ?_
          have h0 : ¬ v < 0 := fun q => e (by
            have e1 := Int32.lt_iff_toInt_lt.mp q
            rw [Int32.lt_iff_toInt_lt, nI_toInt (by omega)]
            have : (0 : Int32).toInt = 0 := rfl
            omega)
          obtain ⟨u, hu, rfl⟩ := nI_of h0
          rw [nI_leI (by omega) (by omega)] at g
          exact i2 u (by omega) rfl
    · rw [j1, if_pos bN]
      exact RunC.same h rfl
  · rw [h1, if_pos bN]
    exact RunC.same h rfl
def A_driversOf (s : STT) (c k : Int32) : Int32 := match ix c 3 with
  | some cl => (match ix k 4 with
    | some w => nI (nC (stN s) cl w)
    | none => -1)
  | none => -1
theorem c_driversOf {B n : Nat} {I : Nat → Nat → Int32} {L : Nat → Nat → Int64} {Q : Nat → Nat → Option Nat} {R : Nat → RDt} {s : STT} (h : IsC B n I L Q R s) (c k : Int32) : fX9_driversOf B c k (MK B n I L Q R) = some (A_driversOf s c k) := by
  obtain ⟨fp, fs, fc, hC, hK, hF⟩ := id h
  have hN := hC.2.1
  have hx := isN1
  unfold A_driversOf fX9_driversOf
  rw [ix3, ob1_some]
  rcases ix_cases c (m := 3) (by decide) with ⟨cl, h1, rfl, h3⟩ | ⟨h1, h2⟩
  · rw [h3, if_neg (bS cl), ix4, ob1_some]
    rcases ix_cases k (m := 4) (by decide) with ⟨w, j1, rfl, j3⟩ | ⟨j1, j2⟩
    · rw [j3, if_neg (bS w)]
      have hcr := hN.2.2.2.2.2 cl w h1 j1
      simp (disch := first | assumption | omega) only [ob1_some, ob2_some, bnd_eq, gd_true, oc_none, oc_some, ↓reduceIte, g_Wnow, g_Wkept, g_Wpaths, g_Wsteadies, g_Wsfresh, g_Wcheapest, g_WthoughtNet, g_WthoughtPaths, g_WthoughtSteady, g_Wtape, g_Wtrays, g_Wrows, g_WtoldLoads, g_Wsum, g_WisKept, p_WisKept, g_Wpfresh, p_Wpfresh, g_Wcfresh, p_Wcfresh, k_W, a_sfresh, s_sfresh, a_told, s_told, r_steadies, r_trays, r_rows, k_Net, g_towns, p_towns, g_size, p_size, g_roads, g_tolls, g_crowds, a_tolls, s_tolls, r_crowds, a_crowd, s_crowd, q_roads, w_roads, hcr]
    · rw [j1, if_pos bN]
  · rw [h1, if_pos bN]
def setT (s : STT) (t : TAPE) : STT := (stN s, stK s, t, stY s, stL s)
theorem Core.setTape {B n : Nat} {I : Nat → Nat → Int32} {L : Nat → Nat → Int64} {Q : Nat → Nat → Option Nat} {R : Nat → RDt} {I' : Nat → Nat → Int32} {s : STT} {t : TAPE} (h : Core B n I L Q R s) (hT : TapeIs I' t) (hI : ∀ a, a < 58 ∨ 60 ≤ a → I' a = I a) : Core B n I' L Q R (setT s t) := by
  obtain ⟨h0, h1, h2, h3, h4, h5, h6, h7⟩ := h
  exact ⟨h0, h1.same (fun k a b => hI k (by omega)) rfl, h2, h3, h4.same (by rw [hI 0 (by omega)]) (fun a g1 g2 => hI a (by omega)) rfl, hT, fun t ht => (h6 t ht).same (hI _ (by omega)) rfl, fun l hl => (h7 l hl).same (hI _ (by omega)) rfl⟩
theorem Caches.same {I I' : Nat → Nat → Int32} {L L' : Nat → Nat → Int64} {N : NET} {fp : Bool} {fs : Nat → Bool} {fc : Bool} (h : Caches I L N fp fs fc) (h4 : I' 0 4 = I 0 4) (h8 : I' 0 8 = I 0 8) (hI : ∀ a, (17 ≤ a ∧ a < 28) ∨ (64 ≤ a ∧ a < 94) → I' a = I a) (hL : ∀ a, a = 27 ∨ (64 ≤ a ∧ a < 94) → L' a = L a) : Caches I' L' N fp fs fc := by
  obtain ⟨c1, c2, c3, c4, c5, c6⟩ := h
  exact ⟨by rw [h4]; exact c1, fun m hm => by rw [hI 25 (by omega)]; exact c2 m hm, by rw [h8]; exact c3, fun hf => (c4 hf).same (fun k a b => hI k (by omega)), fun m hm hf => ⟨(c5 m hm hf).1, (c5 m hm hf).2.same (fun a b1 b2 => hI a (by omega)) (hL _ (by omega))⟩, fun hf => by
    obtain ⟨s1, s2, s3⟩ := c6 hf
    exact ⟨by rw [hL 27 (by omega)]; exact s1, by rw [hI 27 (by omega)]; exact s2, s3⟩⟩
def A_feed (s : STT) (x : Int32) : Int32 × STT := match ix x 128 with
  | some b => if b = 0 then (-2, s) else if (stT s).1 < 100 then (nI ((stT s).1 + 1), setT s ((stT s).1 + 1, fun j => if j = (stT s).1 then b else (stT s).2 j)) else (-4, s)
  | none => (-2, s)
theorem c_feed {B n : Nat} {I : Nat → Nat → Int32} {L : Nat → Nat → Int64} {Q : Nat → Nat → Option Nat} {R : Nat → RDt} {s : STT} (h : IsC B n I L Q R s) (x : Int32) : RunC B I L (fX9_feed B x (MK B n I L Q R)) (A_feed s x) := by
  obtain ⟨fp, fs, fc, hC, hK, hF⟩ := id h
  have hT := hC.2.2.2.2.2.1
  obtain ⟨t1, t2, t3⟩ := id hT
  have h127 : (127 : Int32) = nI 127 := rfl
  unfold A_feed fX9_feed
  rcases ix_cases x (m := 128) (by decide) with ⟨b, h1, rfl, h3⟩ | ⟨h1, h2⟩
  · rw [h3]
    show RunC B I L _ (if b = 0 then (-2, s) else if (stT s).1 < 100 then (nI ((stT s).1 + 1), setT s ((stT s).1 + 1, fun j => if j = (stT s).1 then b else (stT s).2 j)) else (-4, s))
    by_cases e : b = 0
    · subst e
      rw [if_pos rfl, if_pos (show nI 0 < 1 by decide)]
      exact RunC.same h rfl
    · rw [if_neg e, if_neg (by rw [show (1 : Int32) = nI 1 from rfl, nI_ltI (by omega) (by omega)]; omega), if_pos (by rw [h127, nI_leI (by omega) (by omega)]; omega)]
      rw [g_Wtape, ob1_some, k_Tape, gd_true]
      unfold fX7_push
      rw [g_tlen, ob1_some, t1]
      by_cases g : (stT s).1 < 100
      · rw [if_pos g, if_pos (by rw [l100, nI_ltI (by omega) (by omega)]; exact g)]
        have hT' : TapeIs (u2 (u2 I 59 (stT s).1 (nI b)) 58 0 (nI ((stT s).1 + 1))) ((stT s).1 + 1, fun j => if j = (stT s).1 then b else (stT s).2 j) := ⟨u2_eq, by show (stT s).1 + 1 ≤ 100; omega, fun j hj => by
          have hj : j < (stT s).1 + 1 := hj
          show _ = nI (if j = (stT s).1 then b else (stT s).2 j) ∧ 1 ≤ (if j = (stT s).1 then b else (stT s).2 j) ∧ (if j = (stT s).1 then b else (stT s).2 j) ≤ 127
          by_cases q : j = (stT s).1
          · rw [if_pos q, u2_ne (by omega), q, u2_eq]; exact ⟨rfl, by omega, by omega⟩
          · rw [if_neg q, u2_ne (by omega), u2_ne (Or.inr q)]; exact t3 j (by omega)⟩
        have hI' : ∀ a, a < 58 ∨ 60 ≤ a → u2 (u2 I 59 (stT s).1 (nI b)) 58 0 (nI ((stT s).1 + 1)) a = I a := fun a ha => by rw [u2_nk (by omega), u2_nk (by omega)]
        refine ⟨n, u2 (u2 I 59 (stT s).1 (nI b)) 58 0 (nI ((stT s).1 + 1)), L, Q, R, ?_, ⟨fp, fs, fc, hC.setTape hT' hI', hK.same (by rw [hI' 0 (by omega)]) (by rw [hI' 0 (by omega)]) (fun a ha => hI' a (by omega)) (fun _ _ => rfl), hF.same (fun a b1 b2 => hI' a (by omega)) (fun _ _ => rfl)⟩, fun a ha => ⟨hI' a (by omega), rfl⟩⟩
        have z : ((1 : Int32) = 0) = False := eq_false (by decide)
        simp (disch := first | assumption | omega) only [ob1_some, ob2_some, bnd_eq, gd_true, oc_none, oc_some, ↓reduceIte, g_Wnow, g_Wkept, g_Wpaths, g_Wsteadies, g_Wsfresh, g_Wcheapest, g_WthoughtNet, g_WthoughtPaths, g_WthoughtSteady, g_Wtape, g_Wtrays, g_Wrows, g_WtoldLoads, g_Wsum, g_WisKept, p_WisKept, g_Wpfresh, p_Wpfresh, g_Wcfresh, p_Wcfresh, k_W, a_sfresh, s_sfresh, a_told, s_told, r_steadies, r_trays, r_rows, k_Tape, g_tlen, p_tlen, g_bytes, g_at, p_at, g_fault, p_fault, a_bytes, s_bytes, t1, u2_ne, u2_eq, nI_1, z, if_false]
      · rw [if_neg g, if_neg (by rw [l100, nI_ltI (by omega) (by omega)]; exact g)]
        exact RunC.same h rfl
  · rw [h1]
    refine RunC.same h ?_
    by_cases e : x < 1
    · rw [if_pos e]
    · rw [if_neg e]
      refine if_neg fun g => ?_
      have h0 : ¬ x < 0 := fun q => e (by
        have e1 := Int32.lt_iff_toInt_lt.mp q
        rw [Int32.lt_iff_toInt_lt]
        have : (0 : Int32).toInt = 0 := rfl
        have : (1 : Int32).toInt = 1 := rfl
        omega)
      obtain ⟨u, hu, rfl⟩ := nI_of h0
      rw [h127, nI_leI (by omega) (by omega)] at g
      exact h2 u (by omega) rfl
def A_clear (s : STT) : Int32 × STT := (nI (stT s).1, setT s (0, (stT s).2))
theorem tape_clear {B n : Nat} {I : Nat → Nat → Int32} {L : Nat → Nat → Int64} {Q : Nat → Nat → Option Nat} {R : Nat → RDt} {s : STT} (h : IsC B n I L Q R s) : IsC B n (u2 I 58 0 0) L Q R (setT s (0, (stT s).2)) := by
  obtain ⟨fp, fs, fc, hC, hK, hF⟩ := id h
  have hT' : TapeIs (u2 I 58 0 0) (0, (stT s).2) := ⟨u2_eq, Nat.zero_le _, fun j hj => absurd hj (Nat.not_lt_zero j)⟩
  exact ⟨fp, fs, fc, hC.setTape hT' (fun a ha => u2_nk (by omega)), hK.same (by rw [u2_nk (by omega)]) (by rw [u2_nk (by omega)]) (fun a ha => u2_nk (by omega)) (fun _ _ => rfl), hF.same (fun a b1 b2 => u2_nk (by omega)) (fun _ _ => rfl)⟩
theorem c_clear {B n : Nat} {I : Nat → Nat → Int32} {L : Nat → Nat → Int64} {Q : Nat → Nat → Option Nat} {R : Nat → RDt} {s : STT} (h : IsC B n I L Q R s) : RunC B I L (fX9_clear B (MK B n I L Q R)) (A_clear s) := by
  obtain ⟨fp, fs, fc, hC, hK, hF⟩ := id h
  have t1 := hC.2.2.2.2.2.1.1
  refine ⟨n, u2 I 58 0 0, L, Q, R, ?_, tape_clear h, fun a ha => ⟨u2_nk (by omega), rfl⟩⟩
  unfold fX9_clear A_clear
  simp (disch := first | assumption | omega) only [ob1_some, ob2_some, bnd_eq, gd_true, oc_none, oc_some, ↓reduceIte, g_Wnow, g_Wkept, g_Wpaths, g_Wsteadies, g_Wsfresh, g_Wcheapest, g_WthoughtNet, g_WthoughtPaths, g_WthoughtSteady, g_Wtape, g_Wtrays, g_Wrows, g_WtoldLoads, g_Wsum, g_WisKept, p_WisKept, g_Wpfresh, p_Wpfresh, g_Wcfresh, p_Wcfresh, k_W, a_sfresh, s_sfresh, a_told, s_told, r_steadies, r_trays, r_rows, k_Tape, g_tlen, p_tlen, g_bytes, g_at, p_at, g_fault, p_fault, a_bytes, s_bytes, t1]
