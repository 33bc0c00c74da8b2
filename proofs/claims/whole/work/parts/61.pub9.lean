/-! trays -/
theorem e_isKind (x : Int32) : fX9_isKind x = some (bz (ix x 3).isSome) := by
  unfold fX9_isKind
  rw [ix3, ob1_some, bz_zb, gd_true]
theorem e_tmiss {B n : Nat} {I : Nat → Nat → Int32} {L : Nat → Nat → Int64} {Q : Nat → Nat → Option Nat} {R : Nat → RDt} {t : Nat} {v : TRAY} (ht : t < 3) (h : TrayIs B n I Q R (94 + 2 * t) v) : fX8_isMissing (B + (94 + 2 * t)) (MK B n I L Q R) = some (bz v.isNone) := by
  unfold fX8_isMissing
  rw [g_traysize (isTm ht), ob1_some]
  cases v with
  | none =>
    have h : I (94 + 2 * t) 0 = -1 := h
    rw [h, if_neg (by decide)]
    rfl
  | some v =>
    rw [h.1, if_pos (nI_pos' (by have := h.2.1; omega))]
    rfl
theorem one_m1 (i : Int32) : fX9_isOneOf i (-1) = some 0 := by
  unfold fX9_isOneOf
  by_cases c : i < 0
  · rw [if_pos c]
  · rw [if_neg c, if_pos]
    obtain ⟨u, hu, rfl⟩ := nI_of c
    have e2 : (-1 : Int32) < nI u := by rw [show (-1 : Int32) = m1 from rfl, m1_lt (by omega)]; trivial
    have e3 := Int32.lt_iff_toInt_lt.mp e2
    rw [Int32.le_iff_toInt_le]
    omega
theorem e_tbecome_L12 {B n : Nat} {I : Nat → Nat → Int32} {L : Nat → Nat → Int64} {Qa : Nat → Nat → Option Nat} {R : Nat → RDt} {x : Nat} (hx : isT x) (k : AH → Option AH) :
    ∀ (m n' j : Nat) (Q : Nat → Nat → Option Nat), j + m = 20 → m < n' → (∀ a, a ≠ x + 1 → Q a = Qa a) → (∀ i, i < j → Q (x + 1) i = none) →
    ∃ Q' : Nat → Nat → Option Nat, fX8_become_L12 (B + x) k n' (nI j) (MK B n I L Q R) = k (MK B n I L Q' R) ∧ (∀ a, a ≠ x + 1 → Q' a = Qa a) ∧ (∀ i, i < 20 → Q' (x + 1) i = none) := by
  intro m
  induction m with
  | zero =>
    intro n' j Q hj hn hF hV
    obtain ⟨n1, rfl⟩ := suc_of hn
    rw [show j = 20 by omega] at hV ⊢
    refine ⟨Q, ?_, hF, hV⟩
    rw [fX8_become_L12, if_pos (by decide)]
  | succ m ih =>
    intro n' j Q hj hn hF hV
    obtain ⟨n1, rfl⟩ := suc_of hn
    obtain ⟨Q', r1, r2⟩ := ih n1 (j + 1) (u2 Q (x + 1) j none) (by omega) (by omega) (fun a ha => by rw [u2_nk ha]; exact hF a ha) (fun i hi => by
      by_cases e : i = j
      · rw [e, u2_eq]
      · rw [u2_ne (Or.inr e)]; exact hV i (by omega))
    refine ⟨Q', ?_, r2⟩
    rw [← r1, fX8_become_L12, if_neg (by rw [show (20 : Int32) = nI 20 from rfl, nI_leI (by omega) (by omega)]; omega), g_places hx, ob1_some, w_places hx (by omega) (fun a h => by cases h), ob1_some, bnd_eq, nI_1]
def A_tray (s : STT) (x k v : Int32) : Int32 × STT := match ix x 3 with
  | some t => (match ix k 3 with
    | some kd => if v ≤ 20 then (match ix v 21 with
      | some mn => (1, setTr s t (some (kd, mn, fun _ => none)))
      | none => (-14, s)) else (-2, s)
    | none => (-1, s))
  | none => (-1, s)
theorem c_tray {B n : Nat} {I : Nat → Nat → Int32} {L : Nat → Nat → Int64} {Q : Nat → Nat → Option Nat} {R : Nat → RDt} {s : STT} (h : IsC B n I L Q R s) (x k v : Int32) : RunC B I L (fX9_tray B x k v (MK B n I L Q R)) (A_tray s x k v) := by
  obtain ⟨fp, fs, fc, h0⟩ := id h
  unfold A_tray fX9_tray
  rw [ix3, ob1_some]
  rcases ix_cases x (m := 3) (by decide) with ⟨t, h1, rfl, h3⟩ | ⟨h1, h2⟩
  · rw [h3, if_neg (bS t), e_isKind, ob1_some]
    dsimp only
    rcases ix_cases k (m := 3) (by decide) with ⟨kd, k1, rfl, k3⟩ | ⟨k1, k2⟩
    · rw [k3, if_neg (bS kd)]
      dsimp only
      by_cases c : v ≤ 20
      · rw [if_pos c, if_pos c]
        rcases ix_cases v (m := 21) (by decide) with ⟨mn, m1, rfl, m3⟩ | ⟨m1, m2⟩
        · rw [m3, if_pos (nI_pos' (by omega))]
          dsimp only
          have hx := isTm h1
          obtain ⟨Q', r1, r2, r3⟩ := e_tbecome_L12 (B := B) (n := n) (I := u2 (u2 I (94 + 2 * t) 1 (nI kd)) (94 + 2 * t) 0 (nI mn)) (L := L) (R := R) hx (fun (g11 : AH) => some g11) 20 lf 0 Q (by omega) (by decide) (fun _ _ => rfl) (fun i hi => absurd hi (Nat.not_lt_zero i))
          have hI : ∀ a, a ≠ 94 + 2 * t → u2 (u2 I (94 + 2 * t) 1 (nI kd)) (94 + 2 * t) 0 (nI mn) a = I a := fun a ha => by rw [u2_nk ha, u2_nk ha]
          have hC1 := h0.1.setTray (v := some (kd, mn, fun _ => none)) h1 ⟨u2_eq, by show mn ≤ 20; omega, by rw [u2_ne (by omega), u2_eq], by show kd ≤ 2; omega, fun j hj => r3 j hj⟩ hI r2
          refine ⟨n, u2 (u2 I (94 + 2 * t) 1 (nI kd)) (94 + 2 * t) 0 (nI mn), L, Q', R, ?_, ⟨fp, fs, fc, h0.core hC1 rfl (fun a ha => hI a (by omega)) (by rw [hI 0 (by omega)]) (by rw [hI 0 (by omega)]) (fun _ _ => rfl)⟩, fun a ha => ⟨hI a (by omega), rfl⟩⟩
          rw [g_Wtrays, ob1_some, r_trays h1, ob1_some, k_Tray hx, gd_true]
          unfold fX8_become
          rw [p_traykind hx, ob1_some, p_traysize hx, ob1_some]
          have r1' : fX8_become_L12 (B + (94 + 2 * t)) (fun g11 => some g11) lf 0 (MK B n (u2 (u2 I (94 + 2 * t) 1 (nI kd)) (94 + 2 * t) 0 (nI mn)) L Q R) = some (MK B n (u2 (u2 I (94 + 2 * t) 1 (nI kd)) (94 + 2 * t) 0 (nI mn)) L Q' R) := r1
          rw [r1', ob1_some]
        · rw [m1, if_neg (neg_of (m := 20) (by decide) c m2)]
          exact RunC.same h rfl
      · rw [if_neg c, if_neg c]
        exact RunC.same h rfl
    · rw [k1, if_pos bN]
      exact RunC.same h rfl
  · rw [h1, if_pos bN]
    exact RunC.same h rfl
def putP (s : STT) (t : Nat) (v : Nat × Nat × (Nat → Option RD)) (i : Nat) (d : Option RD) : STT := setTr s t (some (v.1, v.2.1, fun j => if j = i then d else v.2.2 j))
def A_lays (s : STT) (x i r : Int32) : Int32 × STT := match ix x 3 with
  | some t => if r = -1 ∨ (ix r (nM (stN s))).isSome = true then (match stY s t with
    | some v => (match ix i v.2.1 with
      | some k => (match ix r (nM (stN s)) with
        | some q => if v.1 ≤ dKind (nRd (stN s) q) then (1, putP s t v k (some (nRd (stN s) q))) else (-16, s)
        | none => (1, putP s t v k none))
      | none => (-13, s))
    | none => (-11, s)) else (-1, s)
  | none => (-1, s)
theorem tray_put {B n : Nat} {I : Nat → Nat → Int32} {L : Nat → Nat → Int64} {Q : Nat → Nat → Option Nat} {R : Nat → RDt} {s : STT} (h : IsC B n I L Q R s) {t k : Nat} {v : Nat × Nat × (Nat → Option RD)} {d : Option RD} {a : Option Nat} (ht : t < 3) (hv : stY s t = some v) (hk : k < v.2.1) (hd : PlIs B n (u2 Q (94 + 2 * t + 1) k a) R (94 + 2 * t + 1) k d) : IsC B n I L (u2 Q (94 + 2 * t + 1) k a) R (putP s t v k d) := by
  obtain ⟨fp, fs, fc, h0⟩ := id h
  have hT := h0.1.2.2.2.2.2.2.1 t ht
  rw [hv] at hT
  obtain ⟨t1, t2, t3, t4, t5⟩ := id hT
  have hC1 := h0.1.setTray (I' := I) (Q' := u2 Q (94 + 2 * t + 1) k a) (v := some (v.1, v.2.1, fun j => if j = k then d else v.2.2 j)) ht ⟨t1, t2, t3, t4, fun j hj => by
    show PlIs B n (u2 Q (94 + 2 * t + 1) k a) R (94 + 2 * t + 1) j (if j = k then d else v.2.2 j)
    by_cases e : j = k
    · rw [if_pos e, e]; exact hd
    · rw [if_neg e]
      have := t5 j hj
      unfold PlIs at this ⊢
      rw [u2_ne (Or.inr e)]
      exact this⟩ (fun _ _ => rfl) (fun a ha => u2_nk ha)
  exact ⟨fp, fs, fc, h0.core hC1 rfl (fun _ _ => rfl) rfl rfl (fun _ _ => rfl)⟩
theorem c_lays {B n : Nat} {I : Nat → Nat → Int32} {L : Nat → Nat → Int64} {Q : Nat → Nat → Option Nat} {R : Nat → RDt} {s : STT} (h : IsC B n I L Q R s) (x i r : Int32) : RunC B I L (fX9_lays B x i r (MK B n I L Q R)) (A_lays s x i r) := by
  obtain ⟨fp, fs, fc, h0⟩ := id h
  have hN := h0.1.2.1
  have hO := h0.1.2.2.1
  have hm := h0.1.2.2.2.1
  have hh := hasRoad_ix (r := r) isN1 hN (by omega)
  unfold A_lays fX9_lays
  rw [ix3, ob1_some]
  rcases ix_cases x (m := 3) (by decide) with ⟨t, h1, rfl, h3⟩ | ⟨h1, h2⟩
  · rw [h3, if_neg (bS t), bnd_eq]
    dsimp only
    have hx := isTm h1
    have hT := h0.1.2.2.2.2.2.2.1 t h1
    have hj3 : RunC B I L (
      ob1 (gR (MK B n I L Q R) B 9 13) fun b4 =>
      ob1 (aR (MK B n I L Q R) b4 6 (nI t)) fun b6 =>
      gd (ckO (MK B n I L Q R) b6 8) <|
      ob1 (fX8_isMissing b6 (MK B n I L Q R)) fun r9 =>
      if r9 = (0 : Int32) then
        ob1 (gI (MK B n I L Q R) b6 8 0) fun v11 =>
        ob1 (fX9_isOneOf i v11) fun r13 =>
        if r13 = (0 : Int32) then
          some ((-13 : Int32), (MK B n I L Q R))
        else
          ob1 (gR (MK B n I L Q R) B 9 0) fun b15 =>
          gd (ckO (MK B n I L Q R) b15 1) <|
          ob1 (fX1_hasRoad b15 r (MK B n I L Q R)) fun r18 =>
          bnd (fun (v21 : Option Nat) =>
            bnd (
              ob1 (gR (MK B n I L Q R) b6 8 2) fun b23 =>
              ob1 (sQ (MK B n I L Q R) b23 4 i v21) fun g25 =>
              some ((1 : Int32), g25)
            ) fun j22 =>
            oc v21 (
              j22
            ) fun b27 =>
            ob1 (gI (MK B n I L Q R) b27 3 2) fun v28 =>
            ob1 (gI (MK B n I L Q R) b6 8 1) fun v30 =>
            if v30 ≤ v28 then
              j22
            else
              some ((-16 : Int32), (MK B n I L Q R))
          ) fun j20 =>
          if r18 = (0 : Int32) then
            j20 none
          else
            ob1 (gR (MK B n I L Q R) B 9 0) fun b33 =>
            ob1 (gR (MK B n I L Q R) b33 1 2) fun b35 =>
            ob1 (aR (MK B n I L Q R) b35 4 r) fun b37 =>
            j20 (some b37)
      else
        some ((-11 : Int32), (MK B n I L Q R))) (match stY s t with
    | some v => (match ix i v.2.1 with
      | some k => (match ix r (nM (stN s)) with
        | some q => if v.1 ≤ dKind (nRd (stN s) q) then (1, putP s t v k (some (nRd (stN s) q))) else (-16, s)
        | none => (1, putP s t v k none))
      | none => (-13, s))
    | none => (-11, s)) := by
      rw [g_Wtrays, ob1_some, r_trays h1, ob1_some, k_Tray hx, gd_true, e_tmiss h1 hT, ob1_some]
      cases hq : stY s t with
      | none => exact RunC.same h rfl
      | some v =>
        rw [hq] at hT
        obtain ⟨t1, t2, t3, t4, t5⟩ := id hT
        rw [if_pos (by rfl), g_traysize hx, ob1_some, t1, e_isOneOf_ix, ob1_some]
        dsimp only
        rcases ix_cases i (m := v.2.1) (by omega) with ⟨k, k1, rfl, k3⟩ | ⟨k1, k2⟩
        · rw [k3, if_neg (bS k), g_Wnow, ob1_some, k_Net isN1, gd_true, hh, ob1_some, bnd_eq]
          dsimp only
          rcases ix_cases r (m := nM (stN s)) (by omega) with ⟨q, q1, rfl, q3⟩ | ⟨q1, q2⟩
          · have hv := hN.2.2.1 q (by omega)
            have hd := hN.2.2.2.1 q q1
            have hq1 := q_roads (B := B) (n := n) (I := I) (L := L) (R := R) isN1 (show q < 13 by omega) hv.1
            have hrk := (hO.2.2.2.1 q q1).1
            rw [q3, if_neg (bS q), ob1_some, g_roads isN1, ob1_some, hq1, ob1_some, bnd_eq, oc_some, rd_kind hv.2, ob1_some, g_traykind hx, ob1_some, t3, hd]
            dsimp only
            show RunC B I L (if nI v.1 ≤ nI (dKind (nRd (stN s) q)) then _ else _) _
            by_cases c : v.1 ≤ dKind (nRd (stN s) q)
            · rw [if_pos c, if_pos (by rw [nI_leI (by omega) (by have := hrk.1; omega)]; exact c), g_places hx, ob1_some, w_places hx (by omega) (fun a ha => by rw [← Option.some.inj ha]; exact hv.2), ob1_some]
              exact ⟨n, I, L, _, R, rfl, tray_put h h1 hq k1 ⟨⟨_, u2_eq, hv.2, hd⟩, hrk⟩, fun _ _ => ⟨rfl, rfl⟩⟩
            · rw [if_neg c, if_neg (by rw [nI_leI (by omega) (by have := hrk.1; omega)]; exact c)]
              exact RunC.same h rfl
          · rw [q1, if_pos bN, bnd_eq, oc_none, g_places hx, ob1_some, w_places hx (by omega) (fun a ha => by cases ha), ob1_some]
            exact ⟨n, I, L, _, R, rfl, tray_put h h1 hq k1 (show u2 Q (94 + 2 * t + 1) k none (94 + 2 * t + 1) k = none from u2_eq), fun _ _ => ⟨rfl, rfl⟩⟩
        · rw [k1, if_pos bN]
          exact RunC.same h rfl
    by_cases e : r = -1
    · rw [if_pos e, if_pos (Or.inl e)]
      exact hj3
    · rw [if_neg e, g_Wnow, ob1_some, k_Net isN1, gd_true, hh, ob1_some]
      rw [g_Wnow] at hj3
      cases hs : (ix r (nM (stN s))).isSome with
      | true =>
        rw [if_pos (Or.inr rfl), if_neg (by decide)]
        exact hj3
      | false =>
        rw [if_pos (show bz false = 0 from by decide), if_neg (fun g : r = -1 ∨ false = true => g.elim e (fun q => by cases q))]
        exact RunC.same h rfl
  · rw [h1, if_pos bN]
    exact RunC.same h rfl
def A_laid (s : STT) (x i y : Int32) : Int64 := match ix x 3 with
  | some t => (match ixL y with
    | some k => (match stY s t with
      | some v => (match ix i v.2.1 with
        | some j => (match v.2.2 j with
          | some d => lN (rCost d k)
          | none => NOv)
        | none => NOv)
      | none => NOv)
    | none => NOv)
  | none => NOv
theorem c_laid {B n : Nat} {I : Nat → Nat → Int32} {L : Nat → Nat → Int64} {Q : Nat → Nat → Option Nat} {R : Nat → RDt} {s : STT} (h : IsC B n I L Q R s) (x i y : Int32) : fX9_laid B x i y (MK B n I L Q R) = some (A_laid s x i y) := by
  obtain ⟨fp, fs, fc, h0⟩ := id h
  unfold A_laid fX9_laid
  rw [ix3, ob1_some, NO_lit]
  rcases ix_cases x (m := 3) (by decide) with ⟨t, h1, rfl, h3⟩ | ⟨h1, h2⟩
  · rw [h3, if_neg (bS t)]
    dsimp only
    have hx := isTm h1
    have hT := h0.1.2.2.2.2.2.2.1 t h1
    rcases ixL_cases y with ⟨k, a1, a2, rfl, a3, a4⟩ | ⟨a3, a4⟩
    · rw [a3, a4, ob1_some, if_neg (by decide), g_Wtrays, ob1_some, r_trays h1, ob1_some, g_traysize hx, ob1_some]
      dsimp only
      cases hq : stY s t with
      | none =>
        rw [hq] at hT
        have hT : I (94 + 2 * t) 0 = -1 := hT
        rw [hT, one_m1, ob1_some, if_pos rfl]
      | some v =>
        rw [hq] at hT
        obtain ⟨t1, t2, t3, t4, t5⟩ := id hT
        rw [t1, e_isOneOf_ix, ob1_some]
        dsimp only
        rcases ix_cases i (m := v.2.1) (by omega) with ⟨j, j1, rfl, j3⟩ | ⟨j1, j2⟩
        · rw [j3, if_neg (bS j), ob1_some, r_trays h1, ob1_some, g_places hx, ob1_some, q_places hx (by omega), ob1_some]
          dsimp only
          have hp := t5 j (by omega)
          unfold PlIs at hp
          cases hd : v.2.2 j with
          | none =>
            rw [hd] at hp
            rw [hp, oc_none]
          | some d =>
            rw [hd] at hp
            obtain ⟨⟨a, p1, p2, p3⟩, p4⟩ := hp
            rw [p1, oc_some, rd_ck p2, gd_true, e_costAt p2 p3 p4 (by omega), ob1_some]
        · rw [j1, if_pos bN]
    · rw [a3, a4, ob1_some, if_pos rfl]
  · rw [h1, if_pos bN]
def A_like (s : STT) (x y : Int32) : Int32 × STT := match ix x 3 with
  | some t => (match ix y 3 with
    | some u => (match stY s u with
      | some v => (nI v.2.1, setTr s t (some v))
      | none => (-11, s))
    | none => (-1, s))
  | none => (-1, s)
theorem e_tcopy_L18 {B n : Nat} {I : Nat → Nat → Int32} {L : Nat → Nat → Int64} {Qa : Nat → Nat → Option Nat} {R : Nat → RDt} {x y : Nat} (hx : isT x) (hy : isT y) (hV : ∀ j, j < 20 → ∀ a, Qa (y + 1) j = some a → VA B n a) (k : AH → Option AH) :
    ∀ (m n' j : Nat) (Q : Nat → Nat → Option Nat), j + m = 20 → m < n' → (∀ a, a ≠ x + 1 → Q a = Qa a) → (∀ i, i < j → Q (x + 1) i = Qa (y + 1) i) → (∀ i, j ≤ i → Q (x + 1) i = Qa (x + 1) i) →
    ∃ Q' : Nat → Nat → Option Nat, fX8_copyFrom_L18 (B + x) (B + y) k n' (nI j) (MK B n I L Q R) = k (MK B n I L Q' R) ∧ (∀ a, a ≠ x + 1 → Q' a = Qa a) ∧ (∀ i, i < 20 → Q' (x + 1) i = Qa (y + 1) i) := by
  have hap : x = y ∨ (x + 1 ≠ y + 1) := by omega
  intro m
  induction m with
  | zero =>
    intro n' j Q hj hn hF hG hH
    obtain ⟨n1, rfl⟩ := suc_of hn
    rw [show j = 20 by omega] at hG ⊢
    refine ⟨Q, ?_, hF, hG⟩
    rw [fX8_copyFrom_L18, if_pos (by decide)]
  | succ m ih =>
    intro n' j Q hj hn hF hG hH
    obtain ⟨n1, rfl⟩ := suc_of hn
    have hv : Q (y + 1) j = Qa (y + 1) j := by
      rcases hap with e | e
      · rw [← e]; exact hH j (Nat.le_refl _)
      · rw [hF _ (by omega)]
    obtain ⟨Q', r1, r2⟩ := ih n1 (j + 1) (u2 Q (x + 1) j (Qa (y + 1) j)) (by omega) (by omega) (fun a ha => by rw [u2_nk ha]; exact hF a ha) (fun i hi => by
      by_cases e : i = j
      · rw [e, u2_eq]
      · rw [u2_ne (Or.inr e)]; exact hG i (by omega)) (fun i hi => by rw [u2_ne (by omega)]; exact hH i (by omega))
    refine ⟨Q', ?_, r2⟩
    rw [← r1, fX8_copyFrom_L18, if_neg (by rw [show (20 : Int32) = nI 20 from rfl, nI_leI (by omega) (by omega)]; omega), g_places hx, ob1_some, g_places hy, ob1_some, q_places hy (by omega), ob1_some, hv, w_places hx (by omega) (hV j (by omega)), ob1_some, bnd_eq, nI_1]
theorem c_like {B n : Nat} {I : Nat → Nat → Int32} {L : Nat → Nat → Int64} {Q : Nat → Nat → Option Nat} {R : Nat → RDt} {s : STT} (h : IsC B n I L Q R s) (x y : Int32) : RunC B I L (fX9_like B x y (MK B n I L Q R)) (A_like s x y) := by
  obtain ⟨fp, fs, fc, h0⟩ := id h
  unfold A_like fX9_like
  rw [ix3, ob1_some]
  rcases ix_cases x (m := 3) (by decide) with ⟨t, h1, rfl, h3⟩ | ⟨h1, h2⟩
  · rw [h3, if_neg (bS t), ix3, ob1_some]
    dsimp only
    rcases ix_cases y (m := 3) (by decide) with ⟨u, u1, rfl, u3⟩ | ⟨u1, u2'⟩
    · rw [u3, if_neg (bS u)]
      dsimp only
      have hx := isTm h1
      have hy := isTm u1
      have hT := h0.1.2.2.2.2.2.2.1 u u1
      rw [g_Wtrays, ob1_some, r_trays u1, ob1_some, k_Tray hy, gd_true, e_tmiss u1 hT, ob1_some]
      cases hq : stY s u with
      | none => exact RunC.same h rfl
      | some v =>
        rw [hq] at hT
        obtain ⟨t1, t2, t3, t4, t5⟩ := id hT
        have hV : ∀ j, j < 20 → ∀ a, Q (94 + 2 * u + 1) j = some a → VA B n a := fun j hj a ha => by
          have hp := t5 j hj
          unfold PlIs at hp
          cases hd : v.2.2 j with
          | none =>
            rw [hd] at hp
            rw [hp] at ha
            cases ha
          | some d =>
            rw [hd] at hp
            obtain ⟨⟨b, p1, p2, p3⟩, p4⟩ := hp
            rw [p1] at ha
            rw [← Option.some.inj ha]
            exact p2
        obtain ⟨Q', r1, r2, r3⟩ := e_tcopy_L18 (B := B) (n := n) (I := u2 (u2 I (94 + 2 * t) 1 (nI v.1)) (94 + 2 * t) 0 (nI v.2.1)) (L := L) (R := R) hx hy hV (fun (g19 : AH) => some g19) 20 lf 0 Q (by omega) (by decide) (fun _ _ => rfl) (fun i hi => absurd hi (Nat.not_lt_zero i)) (fun _ _ => rfl)
        have hI : ∀ a, a ≠ 94 + 2 * t → u2 (u2 I (94 + 2 * t) 1 (nI v.1)) (94 + 2 * t) 0 (nI v.2.1) a = I a := fun a ha => by rw [u2_nk ha, u2_nk ha]
        have hC1 := h0.1.setTray (v := some v) h1 ⟨u2_eq, t2, by rw [u2_ne (by omega), u2_eq], t4, fun j hj => by
          have hp := t5 j hj
          unfold PlIs at hp ⊢
          rw [r3 j hj]
          exact hp⟩ hI r2
        refine ⟨n, u2 (u2 I (94 + 2 * t) 1 (nI v.1)) (94 + 2 * t) 0 (nI v.2.1), L, Q', R, ?_, ⟨fp, fs, fc, h0.core hC1 rfl (fun a ha => hI a (by omega)) (by rw [hI 0 (by omega)]) (by rw [hI 0 (by omega)]) (fun _ _ => rfl)⟩, fun a ha => ⟨hI a (by omega), rfl⟩⟩
        have r1' : fX8_copyFrom_L18 (B + (94 + 2 * t)) (B + (94 + 2 * u)) (fun g19 => some g19) lf 0 (MK B n (u2 (u2 I (94 + 2 * t) 1 (nI v.1)) (94 + 2 * t) 0 (nI v.2.1)) L Q R) = some (MK B n (u2 (u2 I (94 + 2 * t) 1 (nI v.1)) (94 + 2 * t) 0 (nI v.2.1)) L Q' R) := r1
        have hs : u2 I (94 + 2 * t) 1 (nI v.1) (94 + 2 * u) 0 = nI v.2.1 := by rw [u2_ne (by omega)]; exact t1
        rw [if_pos (by rfl), ob1_some, r_trays h1, ob1_some, ob1_some, r_trays u1, ob1_some, k_Tray hx, gd_true]
        unfold fX8_copyFrom
        rw [g_traykind hy, ob1_some, t3, p_traykind hx, ob1_some, g_traysize hy, ob1_some, hs, p_traysize hx, ob1_some, r1', ob1_some, g_Wtrays, ob1_some, r_trays h1, ob1_some, g_traysize hx, ob1_some, u2_eq]
    · rw [u1, if_pos bN]
      exact RunC.same h rfl
  · rw [h1, if_pos bN]
    exact RunC.same h rfl
/-! what was told -/
def A_told (s : STT) (x : Int32) : Int64 := if x = 0 then lN (nT (stN s)) else if x = 1 then lN (nM (stN s)) else if x = 2 then lN (nAll (stN s)) else if x = 3 then lN (stT s).1 else if x = 4 then lN (nSum (stN s)) else NOv
theorem c_told {B n : Nat} {I : Nat → Nat → Int32} {L : Nat → Nat → Int64} {Q : Nat → Nat → Option Nat} {R : Nat → RDt} {s : STT} (h : IsC B n I L Q R s) (x : Int32) : fX9_told B x (MK B n I L Q R) = some (A_told s x) := by
  obtain ⟨fp, fs, fc, h0⟩ := id h
  have hN := h0.1.2.1
  have hO := h0.1.2.2.1
  have hm := h0.1.2.2.2.1
  have hT := h0.1.2.2.2.2.2.1
  have h6 := hO.2.1
  have hall : nAll (stN s) ≤ 36 := nD_le hO 3 (by omega)
  unfold A_told fX9_told
  by_cases e0 : x = 0
  · rw [if_pos e0, if_pos e0, g_Wnow, ob1_some, g_towns isN1, ob1_some, hN.1, nI_l (by omega)]
  rw [if_neg e0, if_neg e0]
  by_cases e1 : x = 1
  · rw [if_pos e1, if_pos e1, g_Wnow, ob1_some, g_size isN1, ob1_some, hN.2.1, nI_l (by omega)]
  rw [if_neg e1, if_neg e1]
  by_cases e2 : x = 2
  · rw [if_pos e2, if_pos e2, g_Wnow, ob1_some, k_Net isN1, gd_true, e_countDrivers isN1 hN, ob1_some, nI_l (by omega)]
  rw [if_neg e2, if_neg e2]
  by_cases e3 : x = 3
  · rw [if_pos e3, if_pos e3, g_Wtape, ob1_some, g_tlen, ob1_some, hT.1, nI_l (by have := hT.2.1; omega)]
  rw [if_neg e3, if_neg e3]
  by_cases e4 : x = 4
  · rw [if_pos e4, if_pos e4, g_Wnow, ob1_some, k_Net isN1, gd_true, e_sumOfTolls isN1 hN (by omega), ob1_some]
  rw [if_neg e4, if_neg e4, NO_lit]
