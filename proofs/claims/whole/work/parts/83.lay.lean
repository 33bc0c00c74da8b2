/-! the model's ways -/
def tA : Nat → Bool := fun _ => true
theorem get_snoc {l : List ROW} {r s : ROW} {k : Nat} (h : (l ++ [r])[k]? = some s) : (l[k]? = some s ∧ k < l.length) ∨ (k = l.length ∧ s = r) := by
  have hk := (List.getElem?_eq_some_iff.mp h).1
  rw [List.length_append] at hk
  have hk : k < l.length + 1 := hk
  by_cases c : k < l.length
  · rw [List.getElem?_append_left c] at h
    exact Or.inl ⟨h, c⟩
  · have e : k = l.length := by omega
    rw [e, List.getElem?_append_right (Nat.le_refl _), Nat.sub_self] at h
    exact Or.inr ⟨e, (Option.some.inj h).symm⟩
theorem get_lt {l : List ROW} {s : ROW} {k : Nat} (h : l[k]? = some s) : k < l.length := (List.getElem?_eq_some_iff.mp h).1
def Half (I : Nat → Nat → Int32) (h d : Nat) (l : List ROW) : Prop := ∀ (k : Nat) (r : ROW), l[k]? = some r → I 118 (h + k) = nI (wTb r) ∧ I 119 (h + k) = nI (wEnd r) ∧ ∀ j, j < d → I 117 (5 * (h + k) + j) = nI ((wPath r).getD j 0)
def WaysM (I : Nat → Nat → Int32) (c : Nat) (l : List ROW) : Prop := I 114 c = nI l.length ∧ ∀ (k : Nat) (r : ROW), l[k]? = some r → I 115 (256 * c + k) = nI (wLen r) ∧ wLen r ≤ 5 ∧ ∀ j, j < wLen r → I 116 (5 * (256 * c + k) + j) = nI ((wPath r).getD j 0)
def LayF (c : Nat) (I I' : Nat → Nat → Int32) : Prop := (∀ a, a < 114 ∨ 119 < a → I' a = I a) ∧ ∀ b, b ≠ c → b < 3 → I' 114 b = I 114 b ∧ ∀ k, k < 256 → I' 115 (256 * b + k) = I 115 (256 * b + k) ∧ ∀ j, j < 5 → I' 116 (5 * (256 * b + k) + j) = I 116 (5 * (256 * b + k) + j)
theorem LayF.rf {c : Nat} {I : Nat → Nat → Int32} : LayF c I I := ⟨fun _ _ => rfl, fun _ _ _ => ⟨rfl, fun _ _ => ⟨rfl, fun _ _ => rfl⟩⟩⟩
theorem LayF.tr {c : Nat} {I I1 I2 : Nat → Nat → Int32} (h : LayF c I I1) (g : LayF c I1 I2) : LayF c I I2 := ⟨fun a ha => by rw [g.1 a ha, h.1 a ha], fun b h1 h2 => ⟨by rw [(g.2 b h1 h2).1, (h.2 b h1 h2).1], fun k hk => ⟨by rw [((g.2 b h1 h2).2 k hk).1, ((h.2 b h1 h2).2 k hk).1], fun j hj => by rw [((g.2 b h1 h2).2 k hk).2 j hj, ((h.2 b h1 h2).2 k hk).2 j hj]⟩⟩⟩
theorem LayF.scr {c : Nat} {I I' : Nat → Nat → Int32} (h : ∀ a, a < 117 ∨ 119 < a → I' a = I a) : LayF c I I' := ⟨fun a ha => h a (by omega), fun b _ _ => ⟨by rw [h 114 (by decide)], fun k _ => ⟨by rw [h 115 (by decide)], fun j _ => by rw [h 116 (by decide)]⟩⟩⟩
theorem WaysM.same {I I' : Nat → Nat → Int32} {c : Nat} {l : List ROW} (h : WaysM I c l) (h4 : I' 114 = I 114) (h5 : I' 115 = I 115) (h6 : I' 116 = I 116) : WaysM I' c l := by
  unfold WaysM at *
  rw [h4, h5, h6]
  exact h
theorem Half.same {I I' : Nat → Nat → Int32} {h d : Nat} {l : List ROW} (g : Half I h d l) (h7 : I' 117 = I 117) (h8 : I' 118 = I 118) (h9 : I' 119 = I 119) : Half I' h d l := by
  unfold Half at *
  rw [h7, h8, h9]
  exact g
theorem m_keeps_L25 {B n : Nat} {L : Nat → Nat → Int64} {Q : Nat → Nat → Option Nat} {R : Nat → RDt} {c y z len : Nat} (hy : 5 * y + len ≤ 2560) (hz : 5 * z + len ≤ 3840) (k : AH → Option AH) : ∀ (m n' j : Nat) (I : Nat → Nat → Int32), j + m = len → m < n' →
    ∃ I' : Nat → Nat → Int32, fX10_keepsWay_L25 (B + 108) (nI c) (nI y) (nI len) (nI z) k n' (nI j) (MK B n I L Q R) = k (MK B n I' L Q R) ∧ (∀ a, a ≠ 116 → I' a = I a) ∧ (∀ i, j ≤ i → i < len → I' 116 (5 * z + i) = I 117 (5 * y + i)) ∧ ∀ i, i < 5 * z + j ∨ 5 * z + len ≤ i → I' 116 i = I 116 i := by
  intro m
  induction m with
  | zero =>
    intro n' j I hj hn
    obtain ⟨n1, rfl⟩ := suc_of hn
    refine ⟨I, ?_, fun _ _ => rfl, fun i a b => by omega, fun _ _ => rfl⟩
    rw [fX10_keepsWay_L25, if_pos (by rw [nI_leI (by omega) (by omega)]; omega)]
  | succ m ih =>
    intro n' j I hj hn
    obtain ⟨n1, rfl⟩ := suc_of hn
    obtain ⟨I', r1, r2, r3, r4⟩ := ih n1 (j + 1) (u2 I 116 (5 * z + j) (I 117 (5 * y + j))) (by omega) (by omega)
    refine ⟨I', ?_, fun a ha => by rw [r2 a ha, u2_nk ha], fun i h1 h2 => ?_, fun i hi => by rw [r4 i (by omega), u2_ne (by omega)]⟩
    · rw [fX10_keepsWay_L25, if_neg (by rw [nI_leI (by omega) (by omega)]; omega), g_MwayRoads, ob1_some, g_MonRoads, ob1_some, show (5 : Int32) = nI 5 from rfl, nI_mulx, nI_add, a_MonRoads (by omega), ob1_some, nI_mulx, nI_add, s_MwayRoads (by omega), ob1_some, bnd_eq, nI_1]
      exact r1
    · by_cases e : i = j
      · rw [e, r4 _ (by omega), u2_eq]
      · rw [r3 i (by omega) h2, u2_nk (by decide)]
theorem m_keeps {B n : Nat} {I : Nat → Nat → Int32} {L : Nat → Nat → Int64} {Q : Nat → Nat → Option Nat} {R : Nat → RDt} {c y len : Nat} {W : List ROW} {r : ROW} (hc : c < 3) (hW : WaysM I c W) (hw : W.length < 256) (hy : y < 512) (hl : len ≤ 5) (hr : wLen r = len) (hp : ∀ j, j < len → I 117 (5 * y + j) = nI ((wPath r).getD j 0)) :
    ∃ I' : Nat → Nat → Int32, fX10_keepsWay (B + 108) (nI c) (nI y) (nI len) (MK B n I L Q R) = some (MK B n I' L Q R) ∧ (∀ a, a ≠ 114 → a ≠ 115 → a ≠ 116 → I' a = I a) ∧ WaysM I' c (W ++ [r]) ∧ LayF c I I' := by
  obtain ⟨w1, w2⟩ := hW
  obtain ⟨I', r1, r2, r3, r4⟩ := m_keeps_L25 (B := B) (n := n) (L := L) (Q := Q) (R := R) (c := c) (y := y) (z := 256 * c + W.length) (len := len) (by omega) (by omega) (fun (g20 : AH) =>
    ob1 (gR g20 (B + 108) 10 10) fun b21 =>
    ob1 (aI g20 b21 0 (nI c)) fun v23 =>
    ob1 (sI g20 b21 (nI c) (v23 + (1 : Int32))) fun g25 =>
    some g25) len lf 0 (u2 I 115 (256 * c + W.length) (nI len)) (by omega) (by show _ < 1000; omega)
  refine ⟨u2 I' 114 c (nI (W.length + 1)), ?_, fun a h4 h5 h6 => ?_, ⟨?_, fun k s hs => ?_⟩, ⟨fun a ha => ?_, fun b hb b3 => ⟨?_, fun k hk => ⟨?_, fun j hj => ?_⟩⟩⟩⟩
  · unfold fX10_keepsWay
    rw [g_MwayMany, ob1_some, a_MwayMany hc, ob1_some, w1, show (256 : Int32) = nI 256 from rfl, nI_mulx, nI_add, bnd_eq, g_MwayLong, ob1_some, s_MwayLong (by omega), ob1_some]
    refine r1.trans ?_
    rw [g_MwayMany, ob1_some, a_MwayMany hc, ob1_some, r2 114 (by decide), u2_nk (by decide), w1, nI_1, s_MwayMany hc, ob1_some]
  · rw [u2_nk h4, r2 a h6, u2_nk h5]
  · rw [u2_eq, List.length_append]; rfl
  · rw [u2_nk (show (115 : Nat) ≠ 114 by decide), u2_nk (show (116 : Nat) ≠ 114 by decide), r2 115 (by decide)]
    rcases get_snoc hs with ⟨h1, h2⟩ | ⟨rfl, rfl⟩
    · obtain ⟨v1, v3, v2⟩ := w2 k s h1
      refine ⟨by rw [u2_ne (by omega)]; exact v1, v3, fun j hj => ?_⟩
      rw [r4 _ (by omega), u2_nk (by decide)]
      exact v2 j hj
    · refine ⟨by rw [u2_eq, hr], by omega, fun j hj => ?_⟩
      rw [r3 j (Nat.zero_le _) (by omega), u2_nk (by decide), hp j (by omega)]
  · rw [u2_nk (by omega), r2 a (by omega), u2_nk (by omega)]
  · rw [u2_ne (Or.inr hb), r2 114 (by decide), u2_nk (by decide)]
  · rw [u2_nk (by decide), r2 115 (by decide), u2_ne (by omega)]
  · rw [u2_nk (by decide), r4 _ (by omega), u2_nk (by decide)]
theorem m_longer_L87 {B n : Nat} {L : Nat → Nat → Int64} {Q : Nat → Nat → Option Nat} {R : Nat → RDt} {x1 x2 x3 x5 x6 x8 x9 : Int32} {x y d : Nat} (hx : x < 512) (hy : y < 512) (hd : d < 5) (hxy : x ≠ y) (k : AH → Option (Int32 × AH)) : ∀ (m n' j : Nat) (I : Nat → Nat → Int32), j + m = d → m < n' →
    ∃ I' : Nat → Nat → Int32, fX10_longer_L87 (B + 108) x1 x2 x3 (nI d) x5 x6 (nI x) x8 x9 (nI y) k n' (nI j) (MK B n I L Q R) = k (MK B n I' L Q R) ∧ (∀ a, a ≠ 117 → I' a = I a) ∧ (∀ i, j ≤ i → i < d → I' 117 (5 * y + i) = I 117 (5 * x + i)) ∧ ∀ i, i < 5 * y + j ∨ 5 * y + d ≤ i → I' 117 i = I 117 i := by
  intro m
  induction m with
  | zero =>
    intro n' j I hj hn
    obtain ⟨n1, rfl⟩ := suc_of hn
    refine ⟨I, ?_, fun _ _ => rfl, fun i a b => by omega, fun _ _ => rfl⟩
    rw [fX10_longer_L87, if_pos (by rw [nI_leI (by omega) (by omega)]; omega)]
  | succ m ih =>
    intro n' j I hj hn
    obtain ⟨n1, rfl⟩ := suc_of hn
    obtain ⟨I', r1, r2, r3, r4⟩ := ih n1 (j + 1) (u2 I 117 (5 * y + j) (I 117 (5 * x + j))) (by omega) (by omega)
    refine ⟨I', ?_, fun a ha => by rw [r2 a ha, u2_nk ha], fun i h1 h2 => ?_, fun i hi => by rw [r4 i (by omega), u2_ne (by omega)]⟩
    · rw [fX10_longer_L87, if_neg (by rw [nI_leI (by omega) (by omega)]; omega), g_MonRoads, ob1_some, ob1_some, show (5 : Int32) = nI 5 from rfl, nI_mulx, nI_add, a_MonRoads (by omega), ob1_some, nI_mulx, nI_add, s_MonRoads (by omega), ob1_some, bnd_eq, nI_1]
      exact r1
    · by_cases e : i = j
      · rw [e, r4 _ (by omega), u2_eq]
      · rw [r3 i (by omega) h2, u2_ne (by omega)]
theorem ext_pre {N : NET} {A : Nat → Bool} {r : ROW} {q : Nat} : ∀ m, extTo N A 0 r q <+: extTo N A 0 r (q + m)
  | 0 => List.prefix_refl _
  | m + 1 => (ext_pre m).trans (List.prefix_append _ _)
theorem pre_len {p : ROW → Bool} {X Y Z : List ROW} (h : Y <+: Z) : ((X ++ Y).filter p).length ≤ ((X ++ Z).filter p).length := by
  obtain ⟨V, rfl⟩ := h
  rw [← List.append_assoc, List.filter_append (p := p) (X ++ Y) V, List.length_append]
  exact Nat.le_add_right _ _
theorem l_inj {a b : Nat} (h : a < 9223372036854775808) (g : b < 9223372036854775808) : (lN a = lN b) = (a = b) := propext (pk_lEQ (by omega) (by omega))
theorem lor1 {tb to : Nat} (h : to < 6) : nI tb ||| ((1 : Int32) <<< (nI to &&& 31)) = nI (tb ||| 2 ^ to) := by
  rw [show (1 : Int32) = nI 1 from rfl, shlI (by omega), nI_or]
theorem bit0' {b r : Nat} (hb : b < 2147483648) (hr : r < 31) : ((nI b >>> (nI r &&& 31)) &&& (1 : Int32) = 0) = (b.testBit r = false) := bit_0 hb hr
theorem m_longer_L24 {B n : Nat} {L : Nat → Nat → Int64} {Q : Nat → Nat → Option Nat} {R : Nat → RDt} {N : NET} {c t d h g i : Nat} {M W0 X : List ROW} {r : ROW} {x2 x3 : Int32} (hO : NetOK N) (hM : MNet L 109 N) (hc : c < 3) (ht : t = nC N c 0) (hd : d < 5) (hg : (h = 0 ∧ g = 256) ∨ (h = 256 ∧ g = 0)) (hi : M[i]? = some r) (hm : M.length ≤ 211) (hr : LvOK d r)
    (hb1 : ((X ++ ext N tA r).filter (noTo t)).length ≤ 211) (hb2 : W0.length + ((X ++ ext N tA r).filter (isTo t)).length ≤ 211) (k : Int32 → AH → Option (Int32 × AH)) : ∀ (m n' q : Nat) (I : Nat → Nat → Int32), q + m = nM N → m < n' → Half I h d M → Half I g (d + 1) ((X ++ extTo N tA 0 r q).filter (noTo t)) → WaysM I c (W0 ++ (X ++ extTo N tA 0 r q).filter (isTo t)) →
    ∃ I' : Nat → Nat → Int32, fX10_longer_L24 (B + 108) (nI c) x2 x3 (nI d) (nI g) (nI (h + i)) k n' (nI ((X ++ extTo N tA 0 r q).filter (noTo t)).length) (nI q) (MK B n I L Q R) = k (nI ((X ++ ext N tA r).filter (noTo t)).length) (MK B n I' L Q R) ∧ Half I' h d M ∧ Half I' g (d + 1) ((X ++ ext N tA r).filter (noTo t)) ∧ WaysM I' c (W0 ++ (X ++ ext N tA r).filter (isTo t)) ∧ LayF c I I' := by
  have h13 := hO.2.2.1
  have hil := get_lt hi
  obtain ⟨k1, k2, k3, k4, k5, k6, k7⟩ := hr
  intro m
  induction m with
  | zero =>
    intro n' q I hq hn h1 h2 h3
    obtain ⟨n1, rfl⟩ := suc_of hn
    have e : q = nM N := by omega
    subst e
    refine ⟨I, ?_, h1, h2, h3, LayF.rf⟩
    rw [fX10_longer_L24, m_roadMany hM (by omega), ob1_some, if_pos (by rw [nI_leI (by omega) (by omega)]; omega)]
    rfl
  | succ m ih =>
    intro n' q I hq hn h1 h2 h3
    obtain ⟨n1, rfl⟩ := suc_of hn
    have hq1 : q < nM N := by omega
    obtain ⟨⟨u1, u2', u3, u4, u5, u6, u7⟩, _, _, _, _⟩ := hO.2.2.2.1 q hq1
    have f0 : ∀ I : Nat → Nat → Int32, fX10_ofRoad (B + 108) (nI q) 0 (MK B n I L Q R) = some (lN (dFrom (nRd N q))) := fun I => m_ofRoad hM h13 hq1 (by decide : 0 < 8)
    have f1 : ∀ I : Nat → Nat → Int32, fX10_ofRoad (B + 108) (nI q) 1 (MK B n I L Q R) = some (lN (dTo (nRd N q))) := fun I => m_ofRoad hM h13 hq1 (by decide : 1 < 8)
    obtain ⟨v1, v2, v3⟩ := h1 i r hi
    have pl : ∀ p, ((X ++ extTo N tA 0 r q).filter p).length ≤ ((X ++ ext N tA r).filter p).length := fun p => pre_len (by
      have := ext_pre (N := N) (A := tA) (r := r) (q := q) (m + 1)
      rw [hq] at this
      exact this)
    have pl1 := pl (noTo t)
    have pl2 := pl (isTo t)
    have hcl : ∀ {z : Nat}, z = ((X ++ extTo N tA 0 r q).filter (noTo t)).length → z ≤ 211 := fun e => by omega
    have same : goesOn N tA r q = false → extTo N tA 0 r (q + 1) = extTo N tA 0 r q := fun e => by rw [extTo, if_neg (by rw [e]; decide), List.append_nil]
    have stay : goesOn N tA r q = false → ∃ I' : Nat → Nat → Int32, fX10_longer_L24 (B + 108) (nI c) x2 x3 (nI d) (nI g) (nI (h + i)) k n1 (nI ((X ++ extTo N tA 0 r q).filter (noTo t)).length) (nI (q + 1)) (MK B n I L Q R) = k (nI ((X ++ ext N tA r).filter (noTo t)).length) (MK B n I' L Q R) ∧ Half I' h d M ∧ Half I' g (d + 1) ((X ++ ext N tA r).filter (noTo t)) ∧ WaysM I' c (W0 ++ (X ++ ext N tA r).filter (isTo t)) ∧ LayF c I I' := fun e => by
      have := ih n1 (q + 1) I (by omega) (by omega) h1 (by rw [same e]; exact h2) (by rw [same e]; exact h3)
      rw [same e] at this
      exact this
    rw [fX10_longer_L24, m_roadMany hM (by omega), ob1_some, if_neg (by rw [nI_leI (by omega) (by omega)]; omega), f1, ob1_some, bnd_eq, f0, ob1_some, g_MonAt, ob1_some, a_MonAt (by omega), ob1_some, v2, nI_l (by omega), l_toI (by omega)]
    by_cases c1 : dFrom (nRd N q) = wEnd r
    · rw [if_pos (by rw [c1]), g_MonTowns, ob1_some, a_MonTowns (by omega), ob1_some, v1]
      by_cases c2 : (wTb r).testBit (dTo (nRd N q)) = false
      · have hgo : goesOn N tA r q = true := goesOn_iff.mpr ⟨rfl, c1, c2⟩
        have eX : X ++ extTo N tA 0 r (q + 1) = (X ++ extTo N tA 0 r q) ++ [newRow N 0 r q] := by rw [extTo, if_pos hgo, List.append_assoc]
        rw [if_pos (by rw [bit0' (by omega) (by omega)]; exact c2), nI_add, bnd_eq]
        have ih' := ih n1 (q + 1)
        rw [eX] at ih'
        have plq : ∀ p, ((X ++ extTo N tA 0 r q ++ [newRow N 0 r q]).filter p).length ≤ ((X ++ ext N tA r).filter p).length := fun p => by
          rw [← eX]
          exact pre_len (by
            have := ext_pre (N := N) (A := tA) (r := r) (q := q + 1) m
            rw [show q + 1 + m = nM N by omega] at this
            exact this)
        have plq1 := plq (noTo t)
        have plq2 := plq (isTo t)
        clear ih same stay pl plq
        generalize X ++ extTo N tA 0 r q = Y at *
        generalize hcn : (Y.filter (noTo t)).length = cn at *
        obtain ⟨I1, r1, r2, r3, r4⟩ := m_longer_L87 (B := B) (n := n) (L := L) (Q := Q) (R := R) (x1 := nI c) (x2 := x2) (x3 := x3) (x5 := nI g) (x6 := nI cn) (x8 := nI q) (x9 := nI (dTo (nRd N q))) (x := h + i) (y := g + cn) (d := d) (by omega) (by omega) hd (by omega) (fun (g30 : AH) =>
            ob1 (gR g30 (B + 108) 10 13) fun b31 =>
            ob1 (sI g30 b31 (((5 : Int32) * (nI (g + cn))) + (nI d)) (nI q)) fun g33 =>
            ob1 (gR g33 (B + 108) 10 14) fun b35 =>
            ob1 (gR g33 (B + 108) 10 14) fun b37 =>
            ob1 (aI g33 b37 0 (nI (h + i))) fun v39 =>
            ob1 (sI g33 b35 (nI (g + cn)) (v39 ||| ((1 : Int32) <<< ((nI (dTo (nRd N q))) &&& 31)))) fun g41 =>
            ob1 (gR g41 (B + 108) 10 15) fun b43 =>
            ob1 (sI g41 b43 (nI (g + cn)) (nI (dTo (nRd N q)))) fun g45 =>
            ob1 (fX10_ofClass (B + 108) (nI c) (0 : Int32) g45) fun r47 =>
            if (Int32.toInt64 (nI (dTo (nRd N q)))) = r47 then
              ob1 (fX10_keepsWay (B + 108) (nI c) (nI (g + cn)) ((nI d) + (1 : Int32)) g45) fun g51 =>
              bnd ((nI q) + (1 : Int32)) fun y53 =>
              fX10_longer_L24 (B + 108) (nI c) x2 x3 (nI d) (nI g) (nI (h + i)) k n1 (nI cn) y53 g51
            else
              bnd ((nI cn) + (1 : Int32)) fun y49 =>
              bnd ((nI q) + (1 : Int32)) fun y50 =>
              fX10_longer_L24 (B + 108) (nI c) x2 x3 (nI d) (nI g) (nI (h + i)) k n1 y49 y50 g45) d lf 0 I (by omega) (by show _ < 1000; omega)
        have r1 := r1
        have q8 : I1 118 (h + i) = nI (wTb r) := by rw [r2 118 (by decide)]; exact v1
        have hcl3 : fX10_ofClass (B + 108) (nI c) 0 (MK B n (u2 (u2 (u2 I1 117 (5 * (g + cn) + d) (nI q)) 118 (g + cn) (nI (wTb r ||| 2 ^ dTo (nRd N q)))) 119 (g + cn) (nI (dTo (nRd N q)))) L Q R) = some (lN (nC N c 0)) := m_ofClass hM hc (by decide : 0 < 4)
        have red : fX10_longer_L87 (B + 108) (nI c) x2 x3 (nI d) (nI g) (nI cn) (nI (h + i)) (nI q) (nI (dTo (nRd N q))) (nI (g + cn)) (fun (g30 : AH) =>
            ob1 (gR g30 (B + 108) 10 13) fun b31 =>
            ob1 (sI g30 b31 (((5 : Int32) * (nI (g + cn))) + (nI d)) (nI q)) fun g33 =>
            ob1 (gR g33 (B + 108) 10 14) fun b35 =>
            ob1 (gR g33 (B + 108) 10 14) fun b37 =>
            ob1 (aI g33 b37 0 (nI (h + i))) fun v39 =>
            ob1 (sI g33 b35 (nI (g + cn)) (v39 ||| ((1 : Int32) <<< ((nI (dTo (nRd N q))) &&& 31)))) fun g41 =>
            ob1 (gR g41 (B + 108) 10 15) fun b43 =>
            ob1 (sI g41 b43 (nI (g + cn)) (nI (dTo (nRd N q)))) fun g45 =>
            ob1 (fX10_ofClass (B + 108) (nI c) (0 : Int32) g45) fun r47 =>
            if (Int32.toInt64 (nI (dTo (nRd N q)))) = r47 then
              ob1 (fX10_keepsWay (B + 108) (nI c) (nI (g + cn)) ((nI d) + (1 : Int32)) g45) fun g51 =>
              bnd ((nI q) + (1 : Int32)) fun y53 =>
              fX10_longer_L24 (B + 108) (nI c) x2 x3 (nI d) (nI g) (nI (h + i)) k n1 (nI cn) y53 g51
            else
              bnd ((nI cn) + (1 : Int32)) fun y49 =>
              bnd ((nI q) + (1 : Int32)) fun y50 =>
              fX10_longer_L24 (B + 108) (nI c) x2 x3 (nI d) (nI g) (nI (h + i)) k n1 y49 y50 g45) lf 0 (MK B n I L Q R) = (if (lN (dTo (nRd N q))) = lN (nC N c 0) then
              ob1 (fX10_keepsWay (B + 108) (nI c) (nI (g + cn)) (nI (d + 1)) (MK B n (u2 (u2 (u2 I1 117 (5 * (g + cn) + d) (nI q)) 118 (g + cn) (nI (wTb r ||| 2 ^ dTo (nRd N q)))) 119 (g + cn) (nI (dTo (nRd N q)))) L Q R)) fun g51 =>
              fX10_longer_L24 (B + 108) (nI c) x2 x3 (nI d) (nI g) (nI (h + i)) k n1 (nI cn) (nI (q + 1)) g51
            else
              fX10_longer_L24 (B + 108) (nI c) x2 x3 (nI d) (nI g) (nI (h + i)) k n1 (nI (cn + 1)) (nI (q + 1)) (MK B n (u2 (u2 (u2 I1 117 (5 * (g + cn) + d) (nI q)) 118 (g + cn) (nI (wTb r ||| 2 ^ dTo (nRd N q)))) 119 (g + cn) (nI (dTo (nRd N q)))) L Q R)) := by
          refine r1.trans ?_
          rw [g_MonRoads, ob1_some, show (5 : Int32) = nI 5 from rfl, nI_mulx, nI_add, s_MonRoads (by omega), ob1_some, g_MonTowns, ob1_some, ob1_some, a_MonTowns (by omega), ob1_some, u2_nk (by decide), q8, lor1 (by omega), s_MonTowns (by omega), ob1_some, g_MonAt, ob1_some, s_MonAt (by omega), ob1_some, hcl3, ob1_some, nI_l (by omega)]
          simp only [bnd_eq, nI_1]
        rw [red]
        clear r1 red
        have hM1 : Half (u2 (u2 (u2 I1 117 (5 * (g + cn) + d) (nI q)) 118 (g + cn) (nI (wTb r ||| 2 ^ dTo (nRd N q)))) 119 (g + cn) (nI (dTo (nRd N q)))) h d M := fun a s hs => by
          have ha := get_lt hs
          obtain ⟨b1, b2, b3⟩ := h1 a s hs
          refine ⟨?_, ?_, fun j hj => ?_⟩
          · rw [u2_nk (by decide), u2_ne (by omega), u2_nk (by decide), r2 118 (by decide)]; exact b1
          · rw [u2_ne (by omega), u2_nk (by decide), u2_nk (by decide), r2 119 (by decide)]; exact b2
          · rw [u2_nk (by decide), u2_nk (by decide), u2_ne (by omega), r4 _ (by omega)]; exact b3 j hj
        have hP1 : Half (u2 (u2 (u2 I1 117 (5 * (g + cn) + d) (nI q)) 118 (g + cn) (nI (wTb r ||| 2 ^ dTo (nRd N q)))) 119 (g + cn) (nI (dTo (nRd N q)))) g (d + 1) (Y.filter (noTo t)) := fun a s hs => by
          have ha := get_lt hs
          obtain ⟨b1, b2, b3⟩ := h2 a s hs
          refine ⟨?_, ?_, fun j hj => ?_⟩
          · rw [u2_nk (by decide), u2_ne (by omega), u2_nk (by decide), r2 118 (by decide)]; exact b1
          · rw [u2_ne (by omega), u2_nk (by decide), u2_nk (by decide), r2 119 (by decide)]; exact b2
          · rw [u2_nk (by decide), u2_nk (by decide), u2_ne (by omega), r4 _ (by omega)]; exact b3 j hj
        have hnew : ∀ j, j < d + 1 → u2 (u2 (u2 I1 117 (5 * (g + cn) + d) (nI q)) 118 (g + cn) (nI (wTb r ||| 2 ^ dTo (nRd N q)))) 119 (g + cn) (nI (dTo (nRd N q))) 117 (5 * (g + cn) + j) = nI ((wPath (newRow N 0 r q)).getD j 0) := fun j hj => by
          have ep : wPath (newRow N 0 r q) = wPath r ++ [q] := rfl
          rw [u2_nk (by decide), u2_nk (by decide), ep]
          by_cases e : j = d
          · rw [e, u2_eq, List.getD_eq_getElem?_getD, List.getElem?_append_right (by omega), show d - (wPath r).length = 0 by omega]
            rfl
          · rw [u2_ne (by omega), r3 j (Nat.zero_le _) (by omega), v3 j (by omega), List.getD_eq_getElem?_getD, List.getD_eq_getElem?_getD, List.getElem?_append_left (by omega)]
        have hW1 : WaysM (u2 (u2 (u2 I1 117 (5 * (g + cn) + d) (nI q)) 118 (g + cn) (nI (wTb r ||| 2 ^ dTo (nRd N q)))) 119 (g + cn) (nI (dTo (nRd N q)))) c (W0 ++ Y.filter (isTo t)) := h3.same (by rw [u2_nk (by decide), u2_nk (by decide), u2_nk (by decide), r2 114 (by decide)]) (by rw [u2_nk (by decide), u2_nk (by decide), u2_nk (by decide), r2 115 (by decide)]) (by rw [u2_nk (by decide), u2_nk (by decide), u2_nk (by decide), r2 116 (by decide)])
        have hF1 : LayF c I (u2 (u2 (u2 I1 117 (5 * (g + cn) + d) (nI q)) 118 (g + cn) (nI (wTb r ||| 2 ^ dTo (nRd N q)))) 119 (g + cn) (nI (dTo (nRd N q)))) := LayF.scr fun a ha => by rw [u2_nk (by omega), u2_nk (by omega), u2_nk (by omega), r2 a (by omega)]
        have e8 : u2 (u2 (u2 I1 117 (5 * (g + cn) + d) (nI q)) 118 (g + cn) (nI (wTb r ||| 2 ^ dTo (nRd N q)))) 119 (g + cn) (nI (dTo (nRd N q))) 118 (g + cn) = nI (wTb (newRow N 0 r q)) := by rw [u2_nk (by decide), u2_eq]; rfl
        have e9 : u2 (u2 (u2 I1 117 (5 * (g + cn) + d) (nI q)) 118 (g + cn) (nI (wTb r ||| 2 ^ dTo (nRd N q)))) 119 (g + cn) (nI (dTo (nRd N q))) 119 (g + cn) = nI (wEnd (newRow N 0 r q)) := by rw [u2_eq]; rfl
        have ew : wEnd (newRow N 0 r q) = dTo (nRd N q) := rfl
        have hcr := (hO.2.2.2.2 c hc).2.1
        generalize u2 (u2 (u2 I1 117 (5 * (g + cn) + d) (nI q)) 118 (g + cn) (nI (wTb r ||| 2 ^ dTo (nRd N q)))) 119 (g + cn) (nI (dTo (nRd N q))) = I2 at *
        by_cases c3 : dTo (nRd N q) = t
        · have en : noTo t (newRow N 0 r q) = false := by unfold noTo; rw [ew, decide_eq_true c3]; rfl
          have ei : isTo t (newRow N 0 r q) = true := by unfold isTo; rw [ew]; exact decide_eq_true c3
          have eF : (Y ++ [newRow N 0 r q]).filter (noTo t) = Y.filter (noTo t) := by rw [List.filter_append, List.filter_cons, if_neg (by rw [en]; decide), List.filter_nil, List.append_nil]
          have eG : (Y ++ [newRow N 0 r q]).filter (isTo t) = Y.filter (isTo t) ++ [newRow N 0 r q] := by rw [List.filter_append, List.filter_cons, if_pos ei, List.filter_nil]
          rw [eF, eG, hcn] at ih'
          rw [eG, List.length_append] at plq2
          have plq2 : (Y.filter (isTo t)).length + 1 ≤ _ := plq2
          rw [if_pos (by rw [c3, ht])]
          obtain ⟨I3, s1, s2, s3, s4⟩ := m_keeps (B := B) (n := n) (L := L) (Q := Q) (R := R) (c := c) (y := g + cn) (len := d + 1) (r := newRow N 0 r q) hc hW1 (by rw [List.length_append]; omega) (by omega) (by omega) (by show wLen r + 1 = d + 1; omega) hnew
          rw [s1, ob1_some]
          obtain ⟨I4, t1, t2, t3, t4, t5⟩ := ih' I3 (by omega) (by omega) (hM1.same (s2 117 (by decide) (by decide) (by decide)) (s2 118 (by decide) (by decide) (by decide)) (s2 119 (by decide) (by decide) (by decide))) (hP1.same (s2 117 (by decide) (by decide) (by decide)) (s2 118 (by decide) (by decide) (by decide)) (s2 119 (by decide) (by decide) (by decide))) (by rw [← List.append_assoc]; exact s3)
          exact ⟨I4, t1, t2, t3, t4, (hF1.tr s4).tr t5⟩
        · have en : noTo t (newRow N 0 r q) = true := by unfold noTo; rw [ew, decide_eq_false c3]; rfl
          have ei : isTo t (newRow N 0 r q) = false := by unfold isTo; rw [ew]; exact decide_eq_false c3
          have eF : (Y ++ [newRow N 0 r q]).filter (noTo t) = Y.filter (noTo t) ++ [newRow N 0 r q] := by rw [List.filter_append, List.filter_cons, if_pos en, List.filter_nil]
          have eG : (Y ++ [newRow N 0 r q]).filter (isTo t) = Y.filter (isTo t) := by rw [List.filter_append, List.filter_cons, if_neg (by rw [ei]; decide), List.filter_nil, List.append_nil]
          have eL : (Y.filter (noTo t) ++ [newRow N 0 r q]).length = cn + 1 := by rw [List.length_append, hcn]; rfl
          rw [eF, eG, eL] at ih'
          rw [if_neg (by rw [← ht, l_inj (by omega) (by omega)]; exact c3)]
          obtain ⟨I4, t1, t2, t3, t4, t5⟩ := ih' I2 (by omega) (by omega) hM1 (fun a s hs => by
            rcases get_snoc hs with ⟨b1, b2⟩ | ⟨rfl, rfl⟩
            · exact hP1 a s b1
            · rw [hcn]; exact ⟨e8, e9, hnew⟩) hW1
          exact ⟨I4, t1, t2, t3, t4, hF1.tr t5⟩
      · have hgo : goesOn N tA r q = false := by
          refine Bool.eq_false_iff.mpr fun e => c2 (goesOn_iff.mp e).2.2
        rw [if_neg (by rw [bit0' (by omega) (by omega)]; exact c2), bnd_eq, nI_1]
        exact stay hgo
    · have hgo : goesOn N tA r q = false := by
        refine Bool.eq_false_iff.mpr fun e => c1 (goesOn_iff.mp e).2.1
      rw [if_neg (by rw [l_inj (by omega) (by omega)]; exact c1), bnd_eq, nI_1]
      exact stay hgo
