/-! the model's prices of ways -/
theorem m_priceBy {B n : Nat} {I : Nat → Nat → Int32} {L : Nat → Nat → Int64} {Q : Nat → Nat → Option Nat} {R : Nat → RDt} {N : NET} {mode c r x : Nat} (hM : MNet L 109 N) (hO : NetOK N) (hm : mode < 3) (hc : c < 3) (hr : r < nM N) (hx : x ≤ 37) : fX10_priceBy (B + 108) (nI mode) (nI c) (nI r) (nI x) (MK B n I L Q R) = some (lN (pAt N mode c r x)) := by
  have h13 := hO.2.2.1
  have f2 : fX10_ofClass (B + 108) (nI c) 2 (MK B n I L Q R) = some (lN (nC N c 2)) := m_ofClass hM hc (by decide : 2 < 4)
  have f3 : fX10_ofClass (B + 108) (nI c) 3 (MK B n I L Q R) = some (lN (nC N c 3)) := m_ofClass hM hc (by decide : 3 < 4)
  have f7 : fX10_ofRoad (B + 108) (nI r) 7 (MK B n I L Q R) = some (lN (nTl N r)) := m_ofRoad hM h13 hr (by decide : 7 < 8)
  have a0 : ∀ a : Int64, a + 0 = a := Int64.add_zero
  unfold fX10_priceBy pAt
  rw [f2, ob1_some, m_costBy hM hO hr (by omega), ob1_some, lN_mul, bnd_eq, bnd_eq]
  obtain h | h | h : mode = 0 ∨ mode = 1 ∨ mode = 2 := by omega
  · subst h
    rw [if_neg (by decide)]
    dsimp only
    rw [bnd_eq, if_neg (by decide), a0, a0]
    rfl
  · subst h
    rw [if_pos (by decide), f3, ob1_some, f7, ob1_some, lN_mul]
    dsimp only
    rw [bnd_eq, if_neg (by decide), a0, lN_add]
    rfl
  · subst h
    rw [if_neg (by decide)]
    dsimp only
    rw [bnd_eq, if_pos (by decide), a0, m_lossBy hM hO hr hx, ob1_some, lN_mul, lN_add]
    show some (lN _) = some (lN (_ * (_ + _) + 0))
    rw [Nat.mul_add, Nat.add_zero]
    rfl
/-- the setting of the model's calls -/
def EnvM (I : Nat → Nat → Int32) (L : Nat → Nat → Int64) (N : NET) (rows : List ROW) : Prop := MNet L 109 N ∧ NetOK N ∧ WFr N tA rows ∧ rows.length ≤ 211 ∧ 1 ≤ rows.length ∧ ∀ c, c < 3 → WaysR I c (nC N c 0) rows
def RidM (I : Nat → Nat → Int32) (N : NET) (rows : List ROW) (s : SST) : Prop := (∀ q, q < 13 → I 120 q = nI (s.1 q)) ∧ ∀ c, c < 3 → ∀ j, 1 ≤ j → j < rows.length → wEnd (rowAt rows j) = nC N c 0 → I 121 (256 * c + cntTo rows (nC N c 0) j) = nI (s.2 c j)
theorem EnvM.same {I I' : Nat → Nat → Int32} {L : Nat → Nat → Int64} {N : NET} {rows : List ROW} (h : EnvM I L N rows) (h4 : I' 114 = I 114) (h5 : I' 115 = I 115) (h6 : I' 116 = I 116) : EnvM I' L N rows := by
  obtain ⟨e1, e2, e3, e4, e5, e6⟩ := h
  refine ⟨e1, e2, e3, e4, e5, fun c hc => ?_⟩
  have := e6 c hc
  unfold WaysR at *
  rw [h4, h5, h6]
  exact this
/-- a valid row of a class -/
def ValR (N : NET) (rows : List ROW) (c j : Nat) : Prop := 1 ≤ j ∧ j < rows.length ∧ wEnd (rowAt rows j) = nC N c 0
theorem cntv_lt {rows : List ROW} {t j i : Nat} (h1 : 1 ≤ j) (he : wEnd (rowAt rows j) = t) (hi : j < i) : cntTo rows t j < cntTo rows t i := by
  have e : cntTo rows t (j + 1) = cntTo rows t j + 1 := by rw [cntTo, if_pos ⟨h1, he⟩]
  have := cntTo_mono rows t (i := j + 1) (i - (j + 1))
  rw [show j + 1 + (i - (j + 1)) = i by omega] at this
  omega
theorem cntv_inj {rows : List ROW} {t j i : Nat} (h1 : 1 ≤ j) (he : wEnd (rowAt rows j) = t) (g1 : 1 ≤ i) (ge : wEnd (rowAt rows i) = t) (h : cntTo rows t j = cntTo rows t i) : j = i := by
  obtain e | e | e : j < i ∨ j = i ∨ i < j := by omega
  · have := cntv_lt h1 he e; omega
  · exact e
  · have := cntv_lt g1 ge e; omega
theorem EnvM.way {I : Nat → Nat → Int32} {L : Nat → Nat → Int64} {N : NET} {rows : List ROW} {c j : Nat} (h : EnvM I L N rows) (hc : c < 3) (hv : ValR N rows c j) : cntTo rows (nC N c 0) j < 211 ∧ I 115 (256 * c + cntTo rows (nC N c 0) j) = nI (wLen (rowAt rows j)) ∧ wLen (rowAt rows j) ≤ 5 ∧ (wPath (rowAt rows j)).length = wLen (rowAt rows j) ∧ (∀ q, q ∈ wPath (rowAt rows j) → q < nM N) ∧ (wPath (rowAt rows j)).Nodup ∧ (∀ q, hasQ rows j q = true ↔ q ∈ wPath (rowAt rows j)) ∧ ∀ i, i < wLen (rowAt rows j) → I 116 (5 * (256 * c + cntTo rows (nC N c 0) j) + i) = nI ((wPath (rowAt rows j)).getD i 0) := by
  obtain ⟨e1, e2, e3, e4, e5, e6⟩ := h
  obtain ⟨v1, v2, v3⟩ := hv
  have hf := e3.fact e2 (j + 1) j _ (by omega) (rowAt_get v2)
  have hl := hf.len
  obtain ⟨f1, f2, f3, f4, f5⟩ := hf
  have hcl := cntTo_le rows (nC N c 0) j
  obtain ⟨w1, w2⟩ := (e6 c hc).2 j v1 v2 v3
  exact ⟨by omega, w1, hl, f5, fun q hq => (f3 q hq).1, f4, f2, w2⟩
theorem sum_take {g : Nat → Nat} {l : List Nat} {k : Nat} (h : k < l.length) : ((l.take (k + 1)).map g).sum = ((l.take k).map g).sum + g (l.getD k 0) := by
  rw [List.take_succ, List.getElem?_eq_getElem h, List.map_append, List.sum_append]
  have : l.getD k 0 = l[k] := by rw [List.getD_eq_getElem?_getD, List.getElem?_eq_getElem h]; rfl
  rw [this]
  simp
theorem m_priceMore {B n : Nat} {I : Nat → Nat → Int32} {L : Nat → Nat → Int64} {Q : Nat → Nat → Option Nat} {R : Nat → RDt} {N : NET} {rows : List ROW} {mode c j : Nat} {ld : Nat → Nat} (hE : EnvM I L N rows) (hm : mode < 3) (hc : c < 3) (hv : ValR N rows c j) (hl : ∀ q, q < 13 → I 120 q = nI (ld q)) (hb : ∀ q, q < 13 → ld q ≤ 36) : fX10_priceMore (B + 108) (nI mode) (nI c) (nI (cntTo rows (nC N c 0) j)) (MK B n I L Q R) = some (lN (fareR rows (moreP N mode c ld) j)) := by
  obtain ⟨w1, w2, w3, w4, w5, w6, w7, w8⟩ := hE.way hc hv
  obtain ⟨e1, e2, e3, e4, e5, e6⟩ := hE
  have h13 := e2.2.2.1
  have hloop : ∀ (m n' i : Nat), i + m = wLen (rowAt rows j) → m < n' → fX10_priceMore_L15 (B + 108) (nI mode) (nI c) (nI (256 * c + cntTo rows (nC N c 0) j)) (MK B n I L Q R) (fun (y19 : Int64) => some y19) n' (lN (((wPath (rowAt rows j)).take i).map (moreP N mode c ld)).sum) (nI i) = some (lN (fareR rows (moreP N mode c ld) j)) := by
    intro m
    induction m with
    | zero =>
      intro n' i hi hn
      obtain ⟨n1, rfl⟩ := suc_of hn
      rw [fX10_priceMore_L15, g_MwayLong, ob1_some, a_MwayLong (by omega), ob1_some, w2, if_pos (by rw [nI_leI (by omega) (by omega)]; omega), List.take_of_length_le (by omega)]
      rfl
    | succ m ih =>
      intro n' i hi hn
      obtain ⟨n1, rfl⟩ := suc_of hn
      have hq := w5 ((wPath (rowAt rows j)).getD i 0) (by
        rw [List.getD_eq_getElem?_getD, List.getElem?_eq_getElem (by omega)]
        exact List.getElem_mem _)
      have := ih n1 (i + 1) (by omega) (by omega)
      rw [sum_take (by omega)] at this
      have hq13 : (wPath (rowAt rows j)).getD i 0 < 13 := by omega
      have hb1 := hb _ hq13
      rw [fX10_priceMore_L15, g_MwayLong, ob1_some, a_MwayLong (by omega), ob1_some, w2, if_neg (by rw [nI_leI (by omega) (by omega)]; omega), g_MwayRoads, ob1_some, l5, nI_mulx, nI_add, a_MwayRoads (by omega), ob1_some, w8 i (by omega), g_Mloads, ob1_some, a_Mloads hq13, ob1_some, hl _ hq13, nI_1, m_priceBy e1 e2 hm hc hq (by omega), ob1_some, lN_add, bnd_eq, bnd_eq, nI_1]
      exact this
  unfold fX10_priceMore
  rw [show (256 : Int32) = nI 256 from rfl, nI_mulx, nI_add, bnd_eq]
  exact hloop (wLen (rowAt rows j)) lf 0 (by omega) (by show _ < 1000; omega)
theorem m_priceNow {B n : Nat} {I : Nat → Nat → Int32} {L : Nat → Nat → Int64} {Q : Nat → Nat → Option Nat} {R : Nat → RDt} {N : NET} {rows : List ROW} {mode c j : Nat} {ld : Nat → Nat} (hE : EnvM I L N rows) (hm : mode < 3) (hc : c < 3) (hv : ValR N rows c j) (hl : ∀ q, q < 13 → I 120 q = nI (ld q)) (hb : ∀ q, q < 13 → ld q ≤ 36) : fX10_priceNow (B + 108) (nI mode) (nI c) (nI (cntTo rows (nC N c 0) j)) (MK B n I L Q R) = some (lN (fareR rows (hereP N mode c ld) j)) := by
  obtain ⟨w1, w2, w3, w4, w5, w6, w7, w8⟩ := hE.way hc hv
  obtain ⟨e1, e2, e3, e4, e5, e6⟩ := hE
  have h13 := e2.2.2.1
  have hloop : ∀ (m n' i : Nat), i + m = wLen (rowAt rows j) → m < n' → fX10_priceNow_L15 (B + 108) (nI mode) (nI c) (nI (256 * c + cntTo rows (nC N c 0) j)) (MK B n I L Q R) (fun (y19 : Int64) => some y19) n' (lN (((wPath (rowAt rows j)).take i).map (hereP N mode c ld)).sum) (nI i) = some (lN (fareR rows (hereP N mode c ld) j)) := by
    intro m
    induction m with
    | zero =>
      intro n' i hi hn
      obtain ⟨n1, rfl⟩ := suc_of hn
      rw [fX10_priceNow_L15, g_MwayLong, ob1_some, a_MwayLong (by omega), ob1_some, w2, if_pos (by rw [nI_leI (by omega) (by omega)]; omega), List.take_of_length_le (by omega)]
      rfl
    | succ m ih =>
      intro n' i hi hn
      obtain ⟨n1, rfl⟩ := suc_of hn
      have hq := w5 ((wPath (rowAt rows j)).getD i 0) (by
        rw [List.getD_eq_getElem?_getD, List.getElem?_eq_getElem (by omega)]
        exact List.getElem_mem _)
      have := ih n1 (i + 1) (by omega) (by omega)
      rw [sum_take (by omega)] at this
      have hq13 : (wPath (rowAt rows j)).getD i 0 < 13 := by omega
      have hb1 := hb _ hq13
      rw [fX10_priceNow_L15, g_MwayLong, ob1_some, a_MwayLong (by omega), ob1_some, w2, if_neg (by rw [nI_leI (by omega) (by omega)]; omega), g_MwayRoads, ob1_some, l5, nI_mulx, nI_add, a_MwayRoads (by omega), ob1_some, w8 i (by omega), g_Mloads, ob1_some, a_Mloads hq13, ob1_some, hl _ hq13]
      unfold hereP at this ⊢
      by_cases c1 : 1 ≤ ld ((wPath (rowAt rows j)).getD i 0)
      · rw [Nat.max_eq_right c1] at this
        rw [if_pos (by rw [l1, nI_leI (by omega) (by omega)]; exact c1), ob1_some, a_Mloads hq13, ob1_some, hl _ hq13, m_priceBy e1 e2 hm hc hq (by omega), ob1_some, lN_add, bnd_eq, bnd_eq, nI_1]
        exact this
      · rw [Nat.max_eq_left (by omega)] at this
        rw [if_neg (by rw [l1, nI_leI (by omega) (by omega)]; exact c1), l1, m_priceBy e1 e2 hm hc hq (by omega), ob1_some, lN_add, bnd_eq, bnd_eq, nI_add]
        exact this
  unfold fX10_priceNow
  rw [show (256 : Int32) = nI 256 from rfl, nI_mulx, nI_add, bnd_eq]
  exact hloop (wLen (rowAt rows j)) lf 0 (by omega) (by show _ < 1000; omega)
/-! a driver comes to a way, or leaves it -/
theorem m_goes {B n : Nat} {I : Nat → Nat → Int32} {L : Nat → Nat → Int64} {Q : Nat → Nat → Option Nat} {R : Nat → RDt} {N : NET} {rows : List ROW} {c j : Nat} {x : Int32} (hE : EnvM I L N rows) (hc : c < 3) (hv : ValR N rows c j) : ∃ I' : Nat → Nat → Int32, fX10_goes (B + 108) (nI c) (nI (cntTo rows (nC N c 0) j)) x (MK B n I L Q R) = some (MK B n I' L Q R) ∧ (∀ a, a ≠ 120 → a ≠ 121 → I' a = I a) ∧ I' 121 = u2 I 121 (256 * c + cntTo rows (nC N c 0) j) (I 121 (256 * c + cntTo rows (nC N c 0) j) + x) 121 ∧ ∀ q, q < 13 → I' 120 q = if hasQ rows j q = true then I 120 q + x else I 120 q := by
  obtain ⟨w1, w2, w3, w4, w5, w6, w7, w8⟩ := hE.way hc hv
  obtain ⟨e1, e2, e3, e4, e5, e6⟩ := hE
  have h13 := e2.2.2.1
  have hloop : ∀ (m n' i : Nat) (J : Nat → Nat → Int32), i + m = wLen (rowAt rows j) → m < n' → (∀ a, a ≠ 120 → a ≠ 121 → J a = I a) → (∀ q, q < 13 → J 120 q = if q ∈ (wPath (rowAt rows j)).take i then I 120 q + x else I 120 q) → ∃ I' : Nat → Nat → Int32, fX10_goes_L23 (B + 108) x (nI (256 * c + cntTo rows (nC N c 0) j)) (fun (g24 : AH) => some g24) n' (nI i) (MK B n J L Q R) = some (MK B n I' L Q R) ∧ (∀ a, a ≠ 120 → I' a = J a) ∧ ∀ q, q < 13 → I' 120 q = if q ∈ wPath (rowAt rows j) then I 120 q + x else I 120 q := by
    intro m
    induction m with
    | zero =>
      intro n' i J hi hn hJ hq
      obtain ⟨n1, rfl⟩ := suc_of hn
      rw [List.take_of_length_le (by omega)] at hq
      refine ⟨J, ?_, fun _ _ => rfl, hq⟩
      rw [fX10_goes_L23, g_MwayLong, ob1_some, a_MwayLong (by omega), ob1_some, hJ 115 (by decide) (by decide), w2, if_pos (by rw [nI_leI (by omega) (by omega)]; omega)]
    | succ m ih =>
      intro n' i J hi hn hJ hq
      obtain ⟨n1, rfl⟩ := suc_of hn
      have hlt : i < (wPath (rowAt rows j)).length := by omega
      have hgd : (wPath (rowAt rows j)).getD i 0 = (wPath (rowAt rows j))[i] := by rw [List.getD_eq_getElem?_getD, List.getElem?_eq_getElem hlt]; rfl
      have hq1 := w5 ((wPath (rowAt rows j)).getD i 0) (by rw [hgd]; exact List.getElem_mem _)
      have hni : ¬ (wPath (rowAt rows j)).getD i 0 ∈ (wPath (rowAt rows j)).take i := fun hmem => by
        have hs : (wPath (rowAt rows j)) = (wPath (rowAt rows j)).take i ++ (wPath (rowAt rows j)).drop i := (List.take_append_drop i _).symm
        have hnd := w6
        rw [hs, List.nodup_append] at hnd
        have hd : (wPath (rowAt rows j)).getD i 0 ∈ (wPath (rowAt rows j)).drop i := by
          rw [List.drop_eq_getElem_cons hlt, hgd]
          exact List.mem_cons_self
        exact hnd.2.2 _ hmem _ hd rfl
      have htk : ∀ q, q ∈ (wPath (rowAt rows j)).take (i + 1) ↔ q ∈ (wPath (rowAt rows j)).take i ∨ q = (wPath (rowAt rows j)).getD i 0 := fun q => by
        rw [List.take_succ, List.getElem?_eq_getElem hlt, List.mem_append, hgd]
        simp
      have w8' := w8 i (by omega)
      generalize (wPath (rowAt rows j)).getD i 0 = p at *
      obtain ⟨I', r1, r2, r3⟩ := ih n1 (i + 1) (u2 J 120 p (J 120 p + x)) (by omega) (by omega) (fun a h1 h2 => by rw [u2_nk h1, hJ a h1 h2]) (fun q hq13 => by
        rw [mu2]
        by_cases e : q = p
        · rw [if_pos e, if_pos ((htk q).mpr (Or.inr e)), hq p (by omega), if_neg hni, e]
        · rw [if_neg e, hq q hq13]
          by_cases g : q ∈ (wPath (rowAt rows j)).take i
          · rw [if_pos g, if_pos ((htk q).mpr (Or.inl g))]
          · rw [if_neg g, if_neg (fun h => ((htk q).mp h).elim g e)])
      refine ⟨I', ?_, fun a ha => by rw [r2 a ha, u2_nk ha], r3⟩
      rw [fX10_goes_L23, g_MwayLong, ob1_some, a_MwayLong (by omega), ob1_some, hJ 115 (by decide) (by decide), w2, if_neg (by rw [nI_leI (by omega) (by omega)]; omega), g_Mloads, ob1_some, g_MwayRoads, ob1_some, l5, nI_mulx, nI_add, a_MwayRoads (by omega), ob1_some, hJ 116 (by decide) (by decide), w8', a_Mloads (by omega), ob1_some, s_Mloads (by omega), ob1_some, bnd_eq, nI_1]
      exact r1
  obtain ⟨I', r1, r2, r3⟩ := hloop (wLen (rowAt rows j)) lf 0 (u2 I 121 (256 * c + cntTo rows (nC N c 0) j) (I 121 (256 * c + cntTo rows (nC N c 0) j) + x)) (by omega) (by show _ < 1000; omega) (fun a h1 h2 => u2_nk h2) (fun q hq => by rw [List.take_zero, if_neg (by simp), u2_nk (by decide)])
  refine ⟨I', ?_, fun a h1 h2 => by rw [r2 a h1, u2_nk h2], r2 121 (by decide), fun q hq => ?_⟩
  · unfold fX10_goes
    rw [show (256 : Int32) = nI 256 from rfl, nI_mulx, nI_add, bnd_eq, g_MonWay, ob1_some, a_MonWay (by omega), ob1_some, s_MonWay (by omega), ob1_some]
    exact r1
  · rw [r3 q hq]
    by_cases g : q ∈ wPath (rowAt rows j)
    · rw [if_pos g, if_pos ((w7 q).mpr g)]
    · rw [if_neg g, if_neg (fun h => g ((w7 q).mp h))]
