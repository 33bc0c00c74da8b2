/-- what a Steady's calls write: loads and riders, three rows of prices; fares begin with 0 -/
def SFr (x : Nat) (I I' : Nat → Nat → Int32) (L L' : Nat → Nat → Int64) : Prop := (∀ a, a < x + 1 ∨ x + 6 ≤ a → I' a = I a) ∧ (∀ a, a ≠ x + 7 → a ≠ x + 8 → a ≠ x + 9 → L' a = L a) ∧ L' (x + 9) 0 = lN 0
theorem SFr.tr {x : Nat} {I I1 I2 : Nat → Nat → Int32} {L La Lb : Nat → Nat → Int64} (h : SFr x I I1 L La) (g : SFr x I1 I2 La Lb) : SFr x I I2 L Lb := ⟨fun a ha => by rw [g.1 a ha, h.1 a ha], fun a h1 h2 h3 => by rw [g.2.1 a h1 h2 h3, h.2.1 a h1 h2 h3], g.2.2⟩
/-- the setting of a Steady's calls -/
def Env5 (B n : Nat) (I : Nat → Nat → Int32) (L : Nat → Nat → Int64) (Q : Nat → Nat → Option Nat) (R : Nat → RDt) (x y p : Nat) (N : NET) (A : Nat → Bool) (rows : List ROW) : Prop := isS x ∧ isN y ∧ isP p ∧ NetIs B n I L Q R y N ∧ NetOK N ∧ PathsIs I p rows ∧ WFr N A rows ∧ rows.length ≤ 211 ∧ 1 ≤ rows.length
theorem Env5.fr {B n : Nat} {I : Nat → Nat → Int32} {L : Nat → Nat → Int64} {Q : Nat → Nat → Option Nat} {R : Nat → RDt} {I' : Nat → Nat → Int32} {L' : Nat → Nat → Int64} {x y p : Nat} {N : NET} {A : Nat → Bool} {rows : List ROW} (h : Env5 B n I L Q R x y p N A rows) (hf : SFr x I I' L L') : Env5 B n I' L' Q R x y p N A rows := by
  obtain ⟨h1, h2, h3, h4, h5, h6, h7⟩ := h
  have a1 : y + 7 ≤ x ∨ x + 10 ≤ y := by unfold isS at h1; unfold isN at h2; omega
  have a2 : p + 7 ≤ x ∨ x + 10 ≤ p := by unfold isS at h1; unfold isP at h3; omega
  exact ⟨h1, h2, h3, h4.same (fun k g1 g2 => hf.1 k (by omega)) (hf.2.1 _ (by omega) (by omega) (by omega)), h5, h6.same (fun k g1 g2 => hf.1 k (by omega)), h7⟩
theorem e_least {B n : Nat} {I : Nat → Nat → Int32} {L : Nat → Nat → Int64} {Q : Nat → Nat → Option Nat} {R : Nat → RDt} {x y p t bits : Nat} {N : NET} {A : Nat → Bool} {rows : List ROW} {hf mf g : Nat → Nat} (hE : Env5 B n I L Q R x y p N A rows) (ht : t < 2147483648) (hbits : bits < 8192) (hh : ∀ q, q < nM N → L (x + 7) q = lN (hf q) ∧ L (x + 8) q = lN (mf q)) (hg : ∀ q, g q = if bits.testBit q = true then hf q else mf q) (hb : ∀ q, q < nM N → g q ≤ PB) (h9 : L (x + 9) 0 = lN 0) :
    ∃ L' : Nat → Nat → Int64, fX5_leastRow (B + x) (B + p) (nI t) (nI bits) (MK B n I L Q R) = some (oI (lrow rows (fareR rows g) t rows.length), MK B n I L' Q R) ∧ (∀ a, a ≠ x + 9 → L' a = L a) ∧ (∀ j, j < rows.length → L' (x + 9) j = lN (fareR rows g j)) := by
  obtain ⟨h1, h2, h3, h4, h5, h6, h7, h8, h10⟩ := hE
  unfold fX5_leastRow
  have := e_least_L6 (B := B) (n := n) (Q := Q) (R := R) (fr := fareR rows g) h1 h3 h6 (h7.all h5 h8) ht hbits (fun q ⟨j, j1, j2, j3⟩ => by rw [j3]; exact hh _ (h7.par j2 j1).2.2.1) hg (fun j j1 j2 => h7.fare g j1 j2) (fun j hj => Nat.lt_of_le_of_lt (h7.fare_le h5 hb hj) (by decide)) (fun (y50 : Int32) (g51 : AH) => some (y50, g51)) (rows.length - 1) lf 1 L (by omega) (by omega) (by show _ < 1000; omega) (fun _ _ => rfl) (fun j hj => by rw [show j = 0 by omega, h9, h7.fare0 g (by omega)])
  rw [lrow_1] at this
  exact this
/-- drivers of a class come -/
def arrv (N : NET) (mode : Nat) (rows : List ROW) (c : Nat) : Nat → SST → SST
  | 0, s => s
  | k + 1, s => match lrow rows (fareR rows (moreP N mode c (arrv N mode rows c k s).1)) (nC N c 0) rows.length with
    | some b => addR rows (arrv N mode rows c k s) c b
    | none => arrv N mode rows c k s
theorem addR_ld {rows : List ROW} {s : SST} {c j q : Nat} : (addR rows s c j).1 q = if hasQ rows j q = true then s.1 q + 1 else s.1 q := rfl
theorem e_moveP {B n : Nat} {I : Nat → Nat → Int32} {L : Nat → Nat → Int64} {Q : Nat → Nat → Option Nat} {R : Nat → RDt} {x y p j c : Nat} {N : NET} {A : Nat → Bool} {rows : List ROW} {s : SST} (hE : Env5 B n I L Q R x y p N A rows) (hj : j < rows.length) (hc : c < 3) (hl : LoadsIs I x s.1 s.2) : ∃ I' : Nat → Nat → Int32, fX5_move (B + x) (B + p) (nI c) (nI j) (nI 1) (MK B n I L Q R) = some (MK B n I' L Q R) ∧ LoadsIs I' x (addR rows s c j).1 (addR rows s c j).2 ∧ (∀ a, a < x + 1 ∨ x + 6 ≤ a → I' a = I a) := by
  obtain ⟨h1, h2, h3, h4, h5, h6, h7, h8, h10⟩ := hE
  exact e_move h1 h3 h6 (h7.all h5 h8) hj hc hl (fun q hq => ⟨fun e => by rw [addR_ld, hasQ, if_pos e, nI_add], fun e => by rw [addR_ld, hasQ, if_neg (by rw [e]; decide)]⟩) (by rw [nI_add])
theorem e_moveM {B n : Nat} {I : Nat → Nat → Int32} {L : Nat → Nat → Int64} {Q : Nat → Nat → Option Nat} {R : Nat → RDt} {x y p j c : Nat} {N : NET} {A : Nat → Bool} {rows : List ROW} {s : SST} (hE : Env5 B n I L Q R x y p N A rows) (hj : j < rows.length) (hc : c < 3) (hl : LoadsIs I x s.1 s.2) (h0 : 0 < s.2 c j) (hq : ∀ q, hasQ rows j q = true → 0 < s.1 q) : ∃ I' : Nat → Nat → Int32, fX5_move (B + x) (B + p) (nI c) (nI j) (-1) (MK B n I L Q R) = some (MK B n I' L Q R) ∧ LoadsIs I' x (subR rows s c j).1 (subR rows s c j).2 ∧ (∀ a, a < x + 1 ∨ x + 6 ≤ a → I' a = I a) := by
  obtain ⟨h1, h2, h3, h4, h5, h6, h7, h8, h10⟩ := hE
  have pr : ∀ a : Nat, 0 < a → nI a + (-1) = nI (a - 1) := fun a ha => by
    obtain ⟨b, rfl⟩ := suc_of ha
    exact pk_m1 b
  exact e_move h1 h3 h6 (h7.all h5 h8) hj hc hl (fun q _ => ⟨fun e => by
    show _ = nI (if hasQ rows j q = true then s.1 q - 1 else s.1 q)
    rw [hasQ, if_pos e]
    exact pr _ (hq q e), fun e => by
    show (if hasQ rows j q = true then s.1 q - 1 else s.1 q) = _
    rw [hasQ, if_neg (by rw [e]; decide)]⟩) (pr _ h0)
theorem e_arrive_L3 {B n : Nat} {Ia : Nat → Nat → Int32} {La : Nat → Nat → Int64} {Q : Nat → Nat → Option Nat} {R : Nat → RDt} {x y p mode c D : Nat} {N : NET} {A : Nat → Bool} {rows : List ROW} {s : SST} (hm : mode < 3) (hc : c < 3) (hD : D + nC N c 1 ≤ 36) (hw : 0 < nC N c 1 → 0 < cntTo rows (nC N c 0) rows.length) (k : AH → Option AH) :
    ∀ (m n' q : Nat) (I : Nat → Nat → Int32) (L : Nat → Nat → Int64), q + m = nC N c 1 → m < n' → Env5 B n I L Q R x y p N A rows → L (x + 9) 0 = lN 0 → SFr x Ia I La L → LoadsIs I x (arrv N mode rows c q s).1 (arrv N mode rows c q s).2 → SInv N rows (arrv N mode rows c q s) (D + q) →
    ∃ (I' : Nat → Nat → Int32) (L' : Nat → Nat → Int64), fX5_arrive_L3 (B + x) (B + y) (B + p) (nI mode) (nI c) k n' (nI q) (MK B n I L Q R) = k (MK B n I' L' Q R) ∧ SFr x Ia I' La L' ∧ LoadsIs I' x (arrv N mode rows c (nC N c 1) s).1 (arrv N mode rows c (nC N c 1) s).2 ∧ SInv N rows (arrv N mode rows c (nC N c 1) s) (D + nC N c 1) := by
  intro m
  induction m with
  | zero =>
    intro n' q I L hq hn hE h9 hF hl hi
    obtain ⟨n1, rfl⟩ := suc_of hn
    obtain ⟨g1, g2, g3, g4, g5, g6⟩ := id hE
    have hC := g4.2.2.2.2.2
    rw [show q = nC N c 1 by omega] at hl hi ⊢
    refine ⟨I, L, ?_, hF, hl, hi⟩
    rw [fX5_arrive_L3]
    simp (disch := first | assumption | omega) only [ob1_some, ob2_some, bnd_eq, gd_true, oc_none, oc_some, ↓reduceIte, nI_add, nI_1, nI_leI, nI_ltI, nI_eq, l0, l1, l2, l3, L0, if_pos, if_neg, k_Net, g_towns, p_towns, g_size, p_size, g_roads, g_tolls, g_crowds, a_tolls, s_tolls, r_crowds, a_crowd, s_crowd, q_roads, w_roads, u2_eq, u2_ne, hC]
  | succ m ih =>
    intro n' q I L hq hn hE h9 hF hl hi
    obtain ⟨n1, rfl⟩ := suc_of hn
    obtain ⟨g1, g2, g3, g4, g5, g6, g7, g8, g10⟩ := id hE
    have hcb := g5.2.2.2.2 c hc
    unfold CrN at hcb
    have hld : ∀ r, (arrv N mode rows c q s).1 r ≤ 36 := fun r => Nat.le_trans (hi.le r) (by omega)
    obtain ⟨Lb, t1, t2, t3⟩ := e_tell g1 g2 g4 g5 hm hc hl (fun r _ => by have := hld r; omega)
    have hFb : SFr x I I L Lb := ⟨fun _ _ => rfl, fun a h1 h2 h3 => t2 a h1 h2, by rw [t2 _ (by omega) (by omega)]; exact h9⟩
    have hEb := hE.fr hFb
    obtain ⟨Lc, w1, w2, w3⟩ := e_least (t := nC N c 0) (bits := 0) (g := moreP N mode c (arrv N mode rows c q s).1) hEb (by omega) (by decide) t3 (fun r => by rw [Nat.zero_testBit, if_neg (by decide)]) (fun r hr => pAt_le g5 hc hr (by have := hld r; omega)) hFb.2.2
    have hFc : SFr x I I Lb Lc := ⟨fun _ _ => rfl, fun a h1 h2 h3 => w2 a h3, by rw [w3 0 (by omega), g7.fare0 _ (by omega)]⟩
    have hEc := hEb.fr hFc
    obtain ⟨b, hb⟩ := lrow_some (fr := fareR rows (moreP N mode c (arrv N mode rows c q s).1)) rows.length (hw (by omega))
    have hbi := lrow_is _ hb
    obtain ⟨Id, m1, m2, m3⟩ := e_moveP hEc hbi.2.1 hc hl
    have hFd : SFr x I Id Lc Lc := ⟨m3, fun _ _ _ _ => rfl, hFc.2.2⟩
    have hs : arrv N mode rows c (q + 1) s = addR rows (arrv N mode rows c q s) c b := by
      rw [arrv, hb]
    obtain ⟨I', L', r1, r2, r3, r4⟩ := ih n1 (q + 1) Id Lc (by omega) (by omega) (hEc.fr hFd) hFd.2.2 (((hF.tr hFb).tr hFc).tr hFd) (by rw [hs]; exact m2) (by rw [hs]; exact hi.add hc hbi.1 hbi.2.1 hbi.2.2)
    refine ⟨I', L', ?_, r2, r3, r4⟩
    have hC := g4.2.2.2.2.2
    have hCb := hEb.2.2.2.1.2.2.2.2.2
    rw [hb, oI_some] at w1
    rw [← r1, fX5_arrive_L3]
    simp (disch := first | assumption | omega) only [ob1_some, ob2_some, bnd_eq, gd_true, oc_none, oc_some, ↓reduceIte, nI_add, nI_1, nI_leI, nI_ltI, nI_eq, l0, l1, l2, l3, L0, if_pos, if_neg, k_Net, g_towns, p_towns, g_size, p_size, g_roads, g_tolls, g_crowds, a_tolls, s_tolls, r_crowds, a_crowd, s_crowd, q_roads, w_roads, u2_eq, u2_ne, hC, hCb, t1, w1, m1]
theorem e_arrive {B n : Nat} {I : Nat → Nat → Int32} {L : Nat → Nat → Int64} {Q : Nat → Nat → Option Nat} {R : Nat → RDt} {x y p mode c D : Nat} {N : NET} {A : Nat → Bool} {rows : List ROW} {s : SST} (hm : mode < 3) (hc : c < 3) (hD : D + nC N c 1 ≤ 36) (hw : 0 < nC N c 1 → 0 < cntTo rows (nC N c 0) rows.length) (hE : Env5 B n I L Q R x y p N A rows) (h9 : L (x + 9) 0 = lN 0) (hl : LoadsIs I x s.1 s.2) (hi : SInv N rows s D) :
    ∃ (I' : Nat → Nat → Int32) (L' : Nat → Nat → Int64), fX5_arrive (B + x) (B + y) (B + p) (nI mode) (nI c) (MK B n I L Q R) = some (MK B n I' L' Q R) ∧ SFr x I I' L L' ∧ LoadsIs I' x (arrv N mode rows c (nC N c 1) s).1 (arrv N mode rows c (nC N c 1) s).2 ∧ SInv N rows (arrv N mode rows c (nC N c 1) s) (D + nC N c 1) := by
  have hcb := hE.2.2.2.2.1.2.2.2.2 c hc
  unfold CrN at hcb
  unfold fX5_arrive
  exact e_arrive_L3 hm hc hD hw _ (nC N c 1) lf 0 I L (by omega) (by show _ < 1000; omega) hE h9 ⟨fun _ _ => rfl, fun _ _ _ _ => rfl, h9⟩ hl hi
