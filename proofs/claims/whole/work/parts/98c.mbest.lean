/-! the model sends them all -/
theorem m_near_L4 {B n : Nat} {I : Nat → Nat → Int32} {L : Nat → Nat → Int64} {Q : Nat → Nat → Option Nat} {R : Nat → RDt} {N : NET} {s : BFS} {du : Nat → Nat} (hF : FB I L N s) (hb : Bnd s) (hd : ∀ t, t < 6 → I 123 t = nI (du t)) (hdb : ∀ t, t < 6 → du t ≤ 36) (hm : ∀ t, 1 ≤ t → t < 6 → 0 < du t → s.1 t ≠ none) : ∀ (m n' i : Nat) (o : Option Nat), i + m = 6 → m < n' → 1 ≤ i → (∀ b, o = some b → 1 ≤ b ∧ b < i ∧ 0 < du b) → (o = none → ∀ t, 1 ≤ t → t < i → du t = 0) →
    ∃ o' : Option Nat, fX10_nearest_L4 (B + 108) (MK B n I L Q R) (fun (y27 : Int32) => some y27) n' (oI o) (nI i) = some (oI o') ∧ (∀ b, o' = some b → 1 ≤ b ∧ b < 6 ∧ 0 < du b) ∧ (o' = none → ∀ t, 1 ≤ t → t < 6 → du t = 0) := by
  have hLB : LB = 114600000000000000 := rfl
  have hmx : (9223372036854775807 : Int64).toInt = 9223372036854775807 := rfl
  intro m
  induction m with
  | zero =>
    intro n' i o hl hn h1 ho hz
    obtain ⟨n1, rfl⟩ := suc_of hn
    refine ⟨o, ?_, fun b hb => by have := ho b hb; omega, fun h t t1 t2 => hz h t t1 (by omega)⟩
    rw [fX10_nearest_L4, if_pos (by rw [l6, nI_leI (by omega) (by omega)]; omega)]
  | succ m ih =>
    intro n' i o hl hn h1 ho hz
    obtain ⟨n1, rfl⟩ := suc_of hn
    have hdi := hdb i (by omega)
    rw [fX10_nearest_L4, if_neg (by rw [l6, nI_leI (by omega) (by omega)]; omega), g_Mdue, ob1_some, a_Mdue (by omega), ob1_some, hd i (by omega)]
    by_cases c0 : du i = 0
    · rw [if_pos (by rw [l0, nI_leI (by omega) (by omega)]; omega), bnd_eq, nI_1]
      refine ih n1 (i + 1) o (by omega) (by omega) (by omega) (fun b hb => by have := ho b hb; omega) (fun h t t1 t2 => ?_)
      by_cases e : t = i
      · rw [e]; exact c0
      · exact hz h t t1 (by omega)
    · have hne := hm i h1 (by omega) (by omega)
      obtain ⟨d, hdd⟩ : ∃ d, s.1 i = some d := by
        cases e : s.1 i with
        | none => exact absurd e hne
        | some d => exact ⟨d, rfl⟩
      have hbd := hb i d hdd
      have hfi := hF.1 i (by omega)
      rw [hdd] at hfi
      have hfi : L 124 i = lZ d := hfi
      have hn0 : ¬ (9223372036854775807 : Int64) ≤ lZ d := by
        rw [Int64.le_iff_toInt_le, lZ_T (by omega) (by omega), hmx]
        omega
      have take := ih n1 (i + 1) (some i) (by omega) (by omega) (by omega) (fun b hb => by rw [← Option.some.inj hb]; omega) (fun h => by cases h)
      rw [if_neg (by rw [l0, nI_leI (by omega) (by omega)]; omega), g_Mfar, ob1_some, a_Mfar (by omega), ob1_some, hfi, if_neg hn0]
      cases o with
      | none =>
        rw [if_pos (show oI none < 0 by decide), bnd_eq, nI_1]
        exact take
      | some b =>
        obtain ⟨b1, b2, b3⟩ := ho b rfl
        have keep := ih n1 (i + 1) (some b) (by omega) (by omega) (by omega) (fun b' hb => by rw [← Option.some.inj hb]; omega) (fun h => by cases h)
        have eo : oI (some b) = nI b := rfl
        rw [eo] at keep
        rw [eo, if_neg (nI_pos (by omega)), ob1_some, a_Mfar (by omega), ob1_some, ob1_some, a_Mfar (show b < 6 by omega), ob1_some]
        by_cases c : L 124 b ≤ L 124 i
        · rw [if_pos c, bnd_eq, nI_1]
          exact keep
        · rw [if_neg c, bnd_eq, nI_1]
          exact take
theorem neg1_sub (a : Int32) : (-1 : Int32) - ((-1 : Int32) - a) = a := by
  apply Int32.toBitVec_inj.mp
  show (-1 : Int32).toBitVec - ((-1 : Int32).toBitVec - a.toBitVec) = a.toBitVec
  bv_omega
theorem code_neg {r : Nat} (h : r < 2147483647) : (-1 : Int32) - nI r < 0 := by
  rw [Int32.lt_iff_toInt_lt, Int32.toInt_sub, nI_toInt (by omega), show (-1 : Int32).toInt = -1 from rfl, show (0 : Int32).toInt = 0 from rfl, Int.bmod_eq_of_le (by omega) (by omega)]
  omega
theorem m_sends_L2 {B n : Nat} {L : Nat → Nat → Int64} {Q : Nat → Nat → Option Nat} {R : Nat → RDt} {N : NET} {s : BFS} {Ia : Nat → Nat → Int32} (hM : MNet L 109 N) (hO : NetOK N) (hF : FB Ia L N s) (k : AH → Option AH) : ∀ (m n' v : Nat) (F : Nat → Nat) (I : Nat → Nat → Int32), m < n' → v < 6 → augOK N s m v F → (∀ a, a ≠ 122 → I a = Ia a) → (∀ q, q < 13 → I 122 q = nI (F q)) →
    ∃ I' : Nat → Nat → Int32, fX10_sends_L2 (B + 108) k n' (nI v) (MK B n I L Q R) = k (MK B n I' L Q R) ∧ (∀ a, a ≠ 122 → I' a = Ia a) ∧ ∀ q, q < 13 → I' 122 q = nI (augN N s.2 m v F q) := by
  have h13 := hO.2.2.1
  intro m
  induction m with
  | zero =>
    intro n' v F I hn hv hA hI hq
    obtain ⟨n1, rfl⟩ := suc_of hn
    have hv0 : v = 0 := hA
    subst hv0
    refine ⟨I, ?_, hI, hq⟩
    rw [fX10_sends_L2, if_pos (show nI 0 = 0 from rfl)]
  | succ m ih =>
    intro n' v F I hn hv hA hI hq
    obtain ⟨n1, rfl⟩ := suc_of hn
    by_cases c0 : v = 0
    · subst c0
      refine ⟨I, ?_, hI, ?_⟩
      · rw [fX10_sends_L2, if_pos (show nI 0 = 0 from rfl)]
      · have e : augN N s.2 (m + 1) 0 F = F := if_pos rfl
        rw [e]; exact hq
    · rcases hA with h | ⟨a1, a2, a3, a4, a5⟩
      · exact absurd h c0
      · have e : augN N s.2 (m + 1) v F = augN N s.2 m (prevT N v (s.2 v)) (stepF N v (s.2 v) F) := if_neg c0
        obtain ⟨⟨k1, k2, k3, k4, k5, k6, k7⟩, kf, kt, kne, ktl⟩ := hO.2.2.2.1 _ a1
        have hby : I 125 v = codeR N v (s.2 v) := by rw [hI 125 (by decide)]; exact hF.2 v a2 c0 a3
        have o0 : ∀ I : Nat → Nat → Int32, fX10_ofRoad (B + 108) (nI (s.2 v)) 0 (MK B n I L Q R) = some (lN (dFrom (nRd N (s.2 v)))) := fun I => m_ofRoad hM h13 a1 (by decide : 0 < 8)
        have o1 : ∀ I : Nat → Nat → Int32, fX10_ofRoad (B + 108) (nI (s.2 v)) 1 (MK B n I L Q R) = some (lN (dTo (nRd N (s.2 v)))) := fun I => m_ofRoad hM h13 a1 (by decide : 1 < 8)
        have hq13 : s.2 v < 13 := by omega
        rw [fX10_sends_L2, if_neg (by rw [l0, nI_eq (by omega) (by omega)]; exact c0), g_Mby, ob1_some, a_Mby hv, ob1_some, hby]
        by_cases c1 : dTo (nRd N (s.2 v)) = v
        · have ec : codeR N v (s.2 v) = nI (s.2 v) := if_pos c1
          have ep : prevT N v (s.2 v) = dFrom (nRd N (s.2 v)) := if_pos c1
          rw [ep] at e a5
          obtain ⟨I', r1, r2, r3⟩ := ih n1 (dFrom (nRd N (s.2 v))) (stepF N v (s.2 v) F) (u2 I 122 (s.2 v) (nI (F (s.2 v) + 1))) (by omega) k6 a5 (fun a ha => by rw [u2_nk ha]; exact hI a ha) (fun q h => by
            rw [mu2]
            show _ = nI (if q = s.2 v then (if dTo (nRd N (s.2 v)) = v then F (s.2 v) + 1 else F (s.2 v) - 1) else F q)
            by_cases g : q = s.2 v
            · rw [if_pos g, if_pos g, if_pos c1]
            · rw [if_neg g, if_neg g]; exact hq q h)
          refine ⟨I', ?_, r2, by rw [e]; exact r3⟩
          rw [ec, if_neg (nI_pos (by omega)), g_Mflow, ob1_some, a_Mflow hq13, ob1_some, hq _ hq13, nI_1, s_Mflow hq13, ob1_some, o0, ob1_some, bnd_eq, l_toI (by omega)]
          exact r1
        · have ec : codeR N v (s.2 v) = (-1 : Int32) - nI (s.2 v) := if_neg c1
          have ep : prevT N v (s.2 v) = dTo (nRd N (s.2 v)) := if_neg c1
          rw [ep] at e a5
          have h0 := a4 c1
          obtain ⟨I', r1, r2, r3⟩ := ih n1 (dTo (nRd N (s.2 v))) (stepF N v (s.2 v) F) (u2 I 122 (s.2 v) (nI (F (s.2 v) - 1))) (by omega) k7 a5 (fun a ha => by rw [u2_nk ha]; exact hI a ha) (fun q h => by
            rw [mu2]
            show _ = nI (if q = s.2 v then (if dTo (nRd N (s.2 v)) = v then F (s.2 v) + 1 else F (s.2 v) - 1) else F q)
            by_cases g : q = s.2 v
            · rw [if_pos g, if_pos g, if_neg c1]
            · rw [if_neg g, if_neg g]; exact hq q h)
          refine ⟨I', ?_, r2, by rw [e]; exact r3⟩
          have hs1 : nI (F (s.2 v)) - 1 = nI (F (s.2 v) - 1) := pk_sub (show 1 ≤ F (s.2 v) by omega)
          rw [ec, if_pos (code_neg (by omega)), g_Mflow, ob1_some, neg1_sub, bnd_eq, a_Mflow hq13, ob1_some, hq _ hq13, hs1, s_Mflow hq13, ob1_some, o1, ob1_some, bnd_eq, l_toI (by omega)]
          exact r1
/-! the whole search -/
def VOf (v : Nat × Bool) (c : Nat) : Prop := (v.2 = true → mxL < c) ∧ (v.2 = false → v.1 = c)
theorem VOf.add {v : Nat × Bool} {c d : Nat} (h : VOf v c) : VOf (sAdd v d 1) (c + d) := by
  obtain ⟨w, o⟩ := v
  obtain ⟨h1, h2⟩ := h
  cases o with
  | true => exact ⟨fun _ => (by have := h1 rfl; omega), fun q => (by cases q)⟩
  | false =>
    have h2 : w = c := h2 rfl
    subst h2
    by_cases g : w + d * 1 ≤ mxL
    · rw [sAdd_in g]
      exact ⟨fun q => (by cases q), fun _ => (by show w + d * 1 = w + d; omega)⟩
    · rw [sAdd_out g]
      exact ⟨fun _ => (by omega), fun q => (by cases q)⟩
theorem m_best_L121 {B n : Nat} {Q : Nat → Nat → Option Nat} {R : Nat → RDt} {N : NET} {D : Nat} (hO : NetOK N) (hD : D ≤ 36) (k : AH → Option (Int64 × AH)) : ∀ (m n' : Nat) (I : Nat → Nat → Int32) (L : Nat → Nat → Int64) (fl du : Nat → Nat) (v : Nat × Bool) (c : Nat), m < n' → m ≤ D → MNet L 109 N → Cheap N fl (D - m) → (∀ q, q < 13 → I 122 q = nI (fl q)) → (∀ t, t < 6 → I 123 t = nI (du t)) → (∀ t, t < 6 → du t ≤ 36) → sumN 6 du = m → du 0 = 0 → (∀ t, 1 ≤ t → t < 6 → netF N fl t + (du t : Int) = asks N t 3) → (∀ t, 1 ≤ t → t < 6 → 0 < du t → Rch N t) → SumM I L v → VOf v c → costF N fl = (c : Int) →
    ∃ (I' : Nat → Nat → Int32) (L' : Nat → Nat → Int64) (fl' : Nat → Nat) (v' : Nat × Bool) (c' : Nat), fX10_bestOf_L121 (B + 108) k n' (nI m) (MK B n I L Q R) = k (MK B n I' L' Q R) ∧ FM I I' L L' ∧ Cheap N fl' D ∧ (∀ t, 1 ≤ t → t < 6 → netF N fl' t = asks N t 3) ∧ SumM I' L' v' ∧ VOf v' c' ∧ costF N fl' = (c' : Int) := by
  have h13 := hO.2.2.1
  have hLB : LB = 114600000000000000 := rfl
  intro m
  induction m with
  | zero =>
    intro n' I L fl du v c hn hmD hM hC hq hd hdb hsd hd0 hnet hrch hS hV hc
    obtain ⟨n1, rfl⟩ := suc_of hn
    refine ⟨I, L, fl, v, c, ?_, FM.rf, hC, fun t t1 t2 => ?_, hS, hV, hc⟩
    · rw [fX10_bestOf_L121, if_pos (by decide)]
    · have h1 := hnet t t1 t2
      have h2 := sumN_ge (f := du) 6 t2
      have : du t = 0 := by omega
      rw [this] at h1
      omega
  | succ m ih =>
    intro n' I L fl du v c hn hmD hM hC hq hd hdb hsd hd0 hnet hrch hS hV hc
    obtain ⟨n1, rfl⟩ := suc_of hn
    obtain ⟨⟨π, hf⟩, hw, hfb⟩ := id hC
    have hE : EnvF I L N fl := ⟨hM, hO, hq, fun q hq => by have := hfb q hq; omega⟩
    obtain ⟨I1, L1, r1, r2, r3, r4⟩ := m_layFar (B := B) (n := n) (Q := Q) (R := R) hE hf hw
    have hbn : Bnd (bfN N fl 6) := BI.bnd hf ⟨by
      obtain ⟨rk, hc, h6⟩ := bf_chain hO hf hw 6
      exact ⟨rk, hc⟩, bf_up hO (fun r hr => by have := hfb r hr; omega) 6⟩
    have hmet : ∀ t, 1 ≤ t → t < 6 → 0 < du t → (bfN N fl 6).1 t ≠ none := fun t t1 t2 t3 => by
      obtain ⟨d, q1, _⟩ := send_ok hO hC (by omega) (hrch t t1 t2 t3)
      rw [q1]
      exact fun e => by cases e
    obtain ⟨o, s1, s2, s3⟩ := m_near_L4 (B := B) (n := n) (I := I1) (L := L1) (Q := Q) (R := R) (du := du) r2 hbn (fun t ht => by rw [r3.1 123 (by decide)]; exact hd t ht) hdb hmet 5 lf 1 none (by omega) (by decide) (by omega) (fun b hb => by cases hb) (fun _ t t1 t2 => by omega)
    obtain ⟨t, rfl⟩ : ∃ t, o = some t := by
      cases o with
      | some t => exact ⟨t, rfl⟩
      | none =>
        exfalso
        have z := s3 rfl
        have hz : sumN 6 du = 0 := by
          rw [sumN_cong (g := fun _ => 0) 6 (fun j hj => by
            by_cases e : j = 0
            · rw [e]; exact hd0
            · exact z j (by omega) hj), sumN_zero]
        omega
    obtain ⟨t1, t2, t3⟩ := s2 t rfl
    obtain ⟨d, q1, q2, q3, q4, q5, q6, q7, _⟩ := send_ok hO hC (by omega) (hrch t t1 t2 t3)
    have hfar : L1 124 t = lN d.toNat := by
      rw [r2.1 t t2, q1, lZ_nat, Int.toNat_of_nonneg q2]
      rfl
    have hmxd : d.toNat ≤ mxL := by rw [mxL_eq]; omega
    have hS1 : SumM I1 L1 v := by
      obtain ⟨x1, x2, x3⟩ := hS
      exact ⟨by rw [r3.1 108 (by decide)]; exact x1, by rw [r3.2 108 (by decide)]; exact x2, x3⟩
    obtain ⟨I2, L2, a1, a2, a3⟩ : ∃ (I' : Nat → Nat → Int32) (L' : Nat → Nat → Int64), fX10_adds (B + 108) (lN d.toNat) (MK B n I1 L1 Q R) = some (MK B n I' L' Q R) ∧ SumM I' L' (sAdd v d.toNat 1) ∧ FS I1 I' L1 L' := by
      cases hv2 : v.2 with
      | false => exact m_adds hS1 hmxd hv2
      | true =>
        obtain ⟨w, o⟩ := v
        have hv2 : o = true := hv2
        subst hv2
        obtain ⟨x1, x2, x3⟩ := hS1
        have x1 : I1 108 19 = 1 := x1
        have x2 : L1 108 20 = lN w := x2
        refine ⟨u2 I1 108 19 1, u2 L1 108 20 (lN w), ?_, ⟨u2_eq, u2_eq, x3⟩, fun a ha => ⟨u2_nk ha, u2_nk ha⟩, fun j hj => u2_ne (by omega)⟩
        unfold fX10_adds
        rw [g_MisOver, ob1_some, bnd_eq, x1, if_neg (by decide)]
        dsimp only
        rw [p_MisOver, ob1_some, g_Msum0, ob1_some, g_MisOver, ob1_some, u2_eq, if_neg (by decide), x2, Int64.add_zero, p_Msum0, ob1_some]
    have hM1 : MNet L1 109 N := r4.1
    have hM2 : MNet L2 109 N := by unfold MNet at *; rw [(a3.1 109 (by decide)).2]; exact hM1
    have hFB2 : FB I2 L2 N (bfN N fl 6) := by
      unfold FB at *
      rw [(a3.1 124 (by decide)).2, (a3.1 125 (by decide)).1]
      exact r2
    have hq2 : ∀ q, q < 13 → I2 122 q = nI (fl q) := fun q hq13 => by rw [(a3.1 122 (by decide)).1, r3.1 122 (by decide)]; exact hq q hq13
    obtain ⟨I3, b1, b2, b3⟩ := m_sends_L2 (B := B) (n := n) (Q := Q) (R := R) hM2 hO hFB2 (fun (g26 : AH) => some g26) 6 lf t fl I2 (by decide) t2 q7 (fun _ _ => rfl) hq2
    have hd3 : I3 123 t = nI (du t) := by rw [b2 123 (by decide), (a3.1 123 (by decide)).1, r3.1 123 (by decide)]; exact hd t t2
    have hdt := hdb t t2
    have hupd := sumN_upd (f := fun u => if u = t then du t - 1 else du u) (g := du) 6 t2 (fun j _ hj => if_neg hj)
    simp only [if_true] at hupd
    have hfm : FM I (u2 I3 123 t (nI (du t - 1))) L L2 := by
      refine FM.tr (FM.tr (⟨fun a h1 h2 => ⟨r3.1 a (by omega), r3.2 a (by omega)⟩, fun j _ => by rw [r3.1 108 (by decide)]⟩ : FM I I1 L L1) a3.fm) ⟨fun a h1 h2 => ⟨by rw [u2_nk (by omega), b2 a (by omega)], rfl⟩, fun j _ => by rw [u2_nk (by decide), b2 108 (by decide)]⟩
    obtain ⟨I4, L4, fl', v', c', e1, e2, e3⟩ := ih n1 (u2 I3 123 t (nI (du t - 1))) L2 (sendN N fl t) (fun u => if u = t then du t - 1 else du u) (sAdd v d.toNat 1) (c + d.toNat) (by omega) (by omega) hM2 (by rw [show D - m = D - (m + 1) + 1 by omega]; exact q4) (fun q hq13 => by rw [u2_nk (by decide)]; exact b3 q hq13) (fun u hu => by
        rw [mu2]
        show _ = nI (if u = t then du t - 1 else du u)
        by_cases e : u = t
        · rw [if_pos e, if_pos e]
        · rw [if_neg e, if_neg e, b2 123 (by decide), (a3.1 123 (by decide)).1, r3.1 123 (by decide)]; exact hd u hu) (fun u hu => by
        show (if u = t then du t - 1 else du u) ≤ 36
        have := hdb u hu
        split <;> omega) (by omega) (by
        show (if 0 = t then du t - 1 else du 0) = 0
        rw [if_neg (by omega)]; exact hd0) (fun u u1 u2' => by
        have g1 := hnet u u1 u2'
        have g2 := q5 u
        rw [if_neg (show ¬ 0 = u by omega)] at g2
        show netF N (sendN N fl t) u + ((if u = t then du t - 1 else du u : Nat) : Int) = _
        by_cases e : u = t
        · subst e
          rw [if_pos rfl] at g2
          rw [if_pos rfl]
          omega
        · rw [if_neg (fun h => e h.symm)] at g2
          rw [if_neg e]
          omega) (fun u u1 u2' u3 => by
        have u3 : 0 < (if u = t then du t - 1 else du u) := u3
        refine hrch u u1 u2' ?_
        by_cases e : u = t
        · rw [e]; exact t3
        · rw [if_neg e] at u3; exact u3) (by
        obtain ⟨y1, y2, y3⟩ := a2
        exact ⟨by rw [u2_nk (by decide), b2 108 (by decide)]; exact y1, y2, y3⟩) hV.add (by rw [q6, hc]; omega)
    refine ⟨I4, L4, fl', v', c', ?_, hfm.tr e2, e3⟩
    have s1 : fX10_nearest (B + 108) (MK B n I1 L1 Q R) = some (nI t) := s1
    have b1 : fX10_sends (B + 108) (nI t) (MK B n I2 L2 Q R) = some (MK B n I3 L2 Q R) := b1
    have hs1 : nI (du t) - 1 = nI (du t - 1) := pk_sub (show 1 ≤ du t by omega)
    rw [fX10_bestOf_L121, if_neg (by rw [l0, nI_leI (by omega) (by omega)]; omega), r1, ob1_some, s1, ob1_some, g_Mfar, ob1_some, a_Mfar t2, ob1_some, hfar, a1, ob1_some, b1, ob1_some, g_Mdue, ob1_some, a_Mdue t2, ob1_some, hd3, hs1, s_Mdue t2, ob1_some, nI_m1 (by omega), bnd_eq, Nat.add_sub_cancel]
    exact e1
