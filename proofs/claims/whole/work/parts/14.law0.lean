def sc (L : Nat) (xs : Nat → Int32) (i : Int32) : Option Int32 := if i < 0 ∨ L ≤ i.toNatClampNeg then none else some (xs i.toNatClampNeg)
theorem sc_s {L : Nat} {xs : Nat → Int32} {i v : Int32} (q : sc L xs i = some v) : vp_in i L ∧ v = xs i.toNatClampNeg := by
  unfold sc at q
  by_cases e : i < 0 ∨ L ≤ i.toNatClampNeg
  · rw [if_pos e] at q
    cases q
  · rw [if_neg e] at q
    cases q
    exact ⟨e, rfl⟩
section RL_
variable {p : Program} {l : Launch} {e : Env} {R : Room} {s : State} {m : MethodId} {args : Array Value} {below : List Frame} {meth : Method} {c : Code} {Q : State → Prop} {G : GG} {b0 nL : Nat} {h0 : AH} {cells slots : Nat} {h : AH} {pc : Nat} {lv : List (Nat × Value)} {st : List Value} {cc : ByteArray} {own : String} {ret : Option FieldType}

theorem r_sld (K : CX p s m args meth c cc nL own ret G b0) {b L : Nat} {xs : Nat → Int32} {i v : Int32} (hX : va_X b L xs s s.heap) (hbl : b < s.heap.size) (hbA : ¬ AB b0 b) (d : decode cc pc = .ok (.iaload, 1)) (q : sc L xs i = some v) (kk : WA p l e R s m args below meth c Q G b0 nL h0 cells slots h (pc + 1) lv (.int v :: st)) : WA p l e R s m args below meth c Q G b0 nL h0 cells slots h pc lv (.int i :: .ref b :: st) := by
  intro H locs ls hP hE hS hl
  obtain ⟨q1, rfl⟩ := sc_s q
  exact va_sld K.1 K.2.1 hX hbl hbA hS q1 d (kk H locs ls hP hE hS hl)
theorem r_slen (K : CX p s m args meth c cc nL own ret G b0) {b L : Nat} {xs : Nat → Int32} (hX : va_X b L xs s s.heap) (hbl : b < s.heap.size) (hbA : ¬ AB b0 b) (d : decode cc pc = .ok (.arraylength, 1)) (kk : WA p l e R s m args below meth c Q G b0 nL h0 cells slots h (pc + 1) lv (.int (Int32.ofNat L) :: st)) : WA p l e R s m args below meth c Q G b0 nL h0 cells slots h pc lv (.ref b :: st) := by
  intro H locs ls hP hE hS hl
  exact va_slen K.1 K.2.1 hX hbl hbA hS d (kk H locs ls hP hE hS hl)
end RL_
theorem gw_sub {w : Cond} (h : w ∈ gw) : w ∈ lw_tbl := (List.mem_filter.mp h).1
/-- what the walks lean on, at the law's entry -/
theorem start_G {s : State} {args : Array Value} (hts : ∀ w ∈ lw_tbl, w.before args s = true) (hgv : (Jvm.Cond.and given_1 narrow_1).before args s = true) : ∃ G : GG, KK G s ∧ ST G s.heap.size s s.heap := by
  have htw : ∀ w ∈ gw, w.before args s = true := fun w hw => hts w (gw_sub hw)
  have hC : ∀ k : Nat, ∃ (cC : ClassId) (iS : Nat → Nat), ∀ q : vw_C, vwCl[k]? = some q → u_Kn s q.1 q.2.1 q.2.2 cC iS := by
    intro k
    match k with
    | 0 => obtain ⟨cC, iS, h⟩ := u_known (C := RX0) (T := TX0) (N := 6) (n := 6) htw inX0 (htw _ q_217); exact ⟨cC, iS, fun q hq => by cases hq; exact h⟩
    | 1 => obtain ⟨cC, iS, h⟩ := u_known (C := RX1) (T := TX1) (N := 5) (n := 5) htw inX1 (htw _ q_100); exact ⟨cC, iS, fun q hq => by cases hq; exact h⟩
    | 2 => obtain ⟨cC, iS, h⟩ := u_known (C := RX2) (T := TX2) (N := 7) (n := 7) htw inX2 (htw _ q_180); exact ⟨cC, iS, fun q hq => by cases hq; exact h⟩
    | 3 => obtain ⟨cC, iS, h⟩ := u_known (C := RX3) (T := TX3) (N := 7) (n := 7) htw inX3 (htw _ q_109); exact ⟨cC, iS, fun q hq => by cases hq; exact h⟩
    | 4 => obtain ⟨cC, iS, h⟩ := u_known (C := RX4) (T := TX4) (N := 2) (n := 2) htw inX4 (htw _ q_343); exact ⟨cC, iS, fun q hq => by cases hq; exact h⟩
    | 5 => obtain ⟨cC, iS, h⟩ := u_known (C := RX5) (T := TX5) (N := 8) (n := 8) htw inX5 (htw _ q_260); exact ⟨cC, iS, fun q hq => by cases hq; exact h⟩
    | 6 => obtain ⟨cC, iS, h⟩ := u_known (C := RX6) (T := TX6) (N := 2) (n := 2) htw inX6 (htw _ q_223); exact ⟨cC, iS, fun q hq => by cases hq; exact h⟩
    | 7 => obtain ⟨cC, iS, h⟩ := u_known (C := RX7) (T := TX7) (N := 4) (n := 4) htw inX7 (htw _ q_299); exact ⟨cC, iS, fun q hq => by cases hq; exact h⟩
    | 8 => obtain ⟨cC, iS, h⟩ := u_known (C := RX8) (T := TX8) (N := 3) (n := 3) htw inX8 (htw _ q_324); exact ⟨cC, iS, fun q hq => by cases hq; exact h⟩
    | 9 => obtain ⟨cC, iS, h⟩ := u_known (C := RX9) (T := TX9) (N := 17) (n := 17) htw inX9 (htw _ q_92); exact ⟨cC, iS, fun q hq => by cases hq; exact h⟩
    | 10 => obtain ⟨cC, iS, h⟩ := u_known (C := RX10) (T := TX10) (N := 31) (n := 31) htw inX10 (htw _ q_900); exact ⟨cC, iS, fun q hq => by cases hq; exact h⟩
    | n + 11 => exact ⟨0, fun _ => 0, fun q hq => by cases hq⟩
  obtain ⟨dC, hC⟩ := Classical.axiomOfChoice hC
  obtain ⟨dI, hC⟩ := Classical.axiomOfChoice hC
  have prim : ∀ ty : FieldType, (Cond.arrayClass ty).before args s = true → (∀ C, ty ≠ .object C) → ∃ cA : ClassId, ArrOfT s cA ty ∧ va_RA s cA ty := by
    intro ty hw hn
    obtain ⟨c, k, comp, h1, h2, h3⟩ := Cond.arrayClass_spec hw
    refine ⟨c, fun N z => ⟨(fun k h => by cases h), k, h2, comp, h3⟩, ?_⟩
    cases ty with
    | object C => exact absurd rfl (hn C)
    | _ => exact h1
  have refs : ∀ C : String, (Cond.arrayOver (.object C)).before args s = true → ∃ cA : ClassId, ArrOfT s cA (.object C) ∧ va_RA s cA (.object C) := by
    intro C hw
    obtain ⟨comp, c, k, h1, h2, h3, h4, h5⟩ := Cond.arrayOver_spec hw
    exact ⟨c, fun N z => ⟨(fun k h => by cases h), k, h3, comp, h4⟩, k, comp, h3, h4, h1, h5⟩
  have hA : ∀ k : Nat, ∃ cA : ClassId, ∀ ty : FieldType, ([.int, .long, .boolean, .array .int, .object RX3, .object RX5, .object RX8, .object RX4] : List FieldType)[k]? = some ty → ArrOfT s cA ty ∧ va_RA s cA ty := by
    intro k
    have one : ∀ {ty : FieldType}, (∃ cA : ClassId, ArrOfT s cA ty ∧ va_RA s cA ty) → ∃ cA : ClassId, ∀ t : FieldType, some ty = some t → ArrOfT s cA t ∧ va_RA s cA t := by
      intro ty ⟨cA, h⟩
      exact ⟨cA, fun t ht => by cases ht; exact h⟩
    match k with
    | 0 => exact one (prim .int (htw _ (gw_at 148 (by decide +kernel) (by decide +kernel))) (fun C h => by cases h))
    | 1 => exact one (prim .long (htw _ (gw_at 147 (by decide +kernel) (by decide +kernel))) (fun C h => by cases h))
    | 2 => exact one (prim .boolean (htw _ (gw_at 239 (by decide +kernel) (by decide +kernel))) (fun C h => by cases h))
    | 3 =>
      obtain ⟨comp, c, k, h1, h3, h4, h5⟩ := Cond.arrayOver_specA (t := .int) (hts _ (List.mem_of_getElem? (i := 108) (by decide +kernel)))
      exact one ⟨c, fun N z => ⟨(fun k h => by cases h), k, h3, comp, h4⟩, h5⟩
    | 4 => exact one (refs RX3 (hts _ (List.mem_of_getElem? (i := 106) (by decide +kernel))))
    | 5 => exact one (refs RX5 (hts _ (List.mem_of_getElem? (i := 215) (by decide +kernel))))
    | 6 => exact one (refs RX8 (hts _ (List.mem_of_getElem? (i := 319) (by decide +kernel))))
    | 7 => exact one (refs RX4 (hts _ (List.mem_of_getElem? (i := 321) (by decide +kernel))))
    | n + 8 => exact ⟨0, fun ty hty => by cases hty⟩
  obtain ⟨dA, hA⟩ := Classical.axiomOfChoice hA
  have hs := flat_of_before _ hgv
  have hAb : ∀ a : Nat, a < s.heap.size → ¬ AB s.heap.size a := fun a h => Nat.not_le.mpr h
  have tab : ∀ (nm : String) (f : Nat → Value) (w : (Cond.laysStatic "TollWays" nm "[I").before args s = true) (h1 : (Cond.arrayOf (.static "TollWays" nm "[I") .int).before args s = true) (h2 : (Cond.eq (.length (.static "TollWays" nm "[I")) (.int 4)).before args s = true) (h3 : ∀ j : Nat, j < 4 → ∃ z : Int32, (Cond.eq (.elem (.static "TollWays" nm "[I") (.int (Int32.ofNat j))) (.int z)).before args s = true ∧ f j = .int z),
      ∃ t : Nat, va_Z "TollWays" nm "[I" (.ref t) (AB s.heap.size) s s.heap ∧ va_T .int t 4 f (AB s.heap.size) s s.heap := by
    intro nm f w h1 h2 h3
    obtain ⟨t, ht, hT⟩ := va_Tof (N := 4) (f := f) (A := AB s.heap.size) (by decide) h1 (va_eqt h2) (fun j hj => by
      obtain ⟨z, hz, hf⟩ := h3 j hj
      rw [hf]
      exact va_eqt hz) hAb
    exact ⟨t, va_Zref w (htw _ (gw_at 75 (by decide +kernel) (by decide +kernel))) ht hAb, hT⟩
  obtain ⟨tL, zL, TL⟩ := tab "LEAST_TRAIT" trL (hts _ (List.mem_of_getElem? (i := 488) (by decide +kernel))) (hs _ (by decide +kernel)) (hs _ (by decide +kernel)) (fun j hj => by
    match j, hj with
    | 0, _ => exact ⟨1, hs _ (by decide +kernel), rfl⟩
    | 1, _ => exact ⟨0, hs _ (by decide +kernel), rfl⟩
    | 2, _ => exact ⟨1, hs _ (by decide +kernel), rfl⟩
    | 3, _ => exact ⟨0, hs _ (by decide +kernel), rfl⟩)
  obtain ⟨tM, zM, TM⟩ := tab "MOST_TRAIT" trM (hts _ (List.mem_of_getElem? (i := 490) (by decide +kernel))) (hs _ (by decide +kernel)) (hs _ (by decide +kernel)) (fun j hj => by
    match j, hj with
    | 0, _ => exact ⟨5, hs _ (by decide +kernel), rfl⟩
    | 1, _ => exact ⟨12, hs _ (by decide +kernel), rfl⟩
    | 2, _ => exact ⟨9, hs _ (by decide +kernel), rfl⟩
    | 3, _ => exact ⟨9, hs _ (by decide +kernel), rfl⟩)
  refine ⟨((dC, dI), dA, tL, tM), ⟨⟨fun c q hq => hC c q hq, fun k q hq => ?_⟩, ?_, ⟨?_, ?_, ?_, ?_⟩, ?_⟩, ⟨zL, TL⟩, zM, TM⟩
  · match k, hq with
    | 0, hq => cases hq; exact hA 0 _ rfl
    | 1, hq => cases hq; exact hA 1 _ rfl
    | 2, hq => cases hq; exact hA 2 _ rfl
    | 3, hq => cases hq; exact hA 3 _ rfl
    | 4, hq => cases hq; exact hA 4 _ rfl
    | 5, hq => cases hq; exact hA 5 _ rfl
    | 6, hq => cases hq; exact hA 6 _ rfl
    | 7, hq => cases hq; exact hA 7 _ rfl
    | n + 8, hq => cases hq
  · intro q hq
    simp only [nw_i, List.mem_cons, List.not_mem_nil, or_false] at hq
    rcases hq with rfl | rfl | rfl | rfl | rfl | rfl | rfl | rfl | rfl | rfl
    · exact va_Nw.of rfl (hts _ (List.mem_of_getElem? (i := 218) (by decide +kernel)))
    · exact va_Nw.of rfl (hts _ (List.mem_of_getElem? (i := 224) (by decide +kernel)))
    · exact va_Nw.of rfl (hts _ (List.mem_of_getElem? (i := 261) (by decide +kernel)))
    · exact va_Nw.of rfl (hts _ (List.mem_of_getElem? (i := 267) (by decide +kernel)))
    · exact va_Nw.of rfl (hts _ (List.mem_of_getElem? (i := 300) (by decide +kernel)))
    · exact va_Nw.of rfl (hts _ (List.mem_of_getElem? (i := 323) (by decide +kernel)))
    · exact va_Nw.of rfl (hts _ (List.mem_of_getElem? (i := 325) (by decide +kernel)))
    · exact va_Nw.of rfl (hts _ (List.mem_of_getElem? (i := 344) (by decide +kernel)))
    · exact va_Nw.of rfl (hts _ (List.mem_of_getElem? (i := 425) (by decide +kernel)))
    · exact va_Nw.of rfl (hts _ (List.mem_of_getElem? (i := 736) (by decide +kernel)))
  · exact va_AO.of (hts _ (List.mem_of_getElem? (i := 106) (by decide +kernel)))
  · exact va_AO.of (hts _ (List.mem_of_getElem? (i := 215) (by decide +kernel)))
  · exact va_AO.of (hts _ (List.mem_of_getElem? (i := 319) (by decide +kernel)))
  · exact va_AO.of (hts _ (List.mem_of_getElem? (i := 321) (by decide +kernel)))
  · exact hts (Cond.arrayOver (.array .int)) (List.mem_of_getElem? (i := 108) (by decide +kernel))
