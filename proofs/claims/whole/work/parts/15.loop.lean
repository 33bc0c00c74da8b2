/-! THE CLAIM OUT OF ONE WALK OF THE LAW'S BODY. Your part is whole_start (and what it stands on); all else here is the same for every law, but numbers. -/
def R_law : String := "TollWaysLaw"
def lw_P (b : Addr) (xs : List Int32) (args : Array Value) (s : State) : Prop := args = #[.ref b] ∧ s.IntsAt b xs ∧ xs.length ≤ 5632 ∧ (Jvm.Cond.and given_1 narrow_1).before args s = true
/-- what a walk over the start with the record d0 says of its end, said of the start itself -/
theorem lw_closed {s t : State} {o : Outcome} {d0 : Drawn} {L : List Loc} {k n : Nat} (hd0 : s.drawn.sameBut d0 lw_cs) (hv : ∃ v, o = .returned v) (hW : (s.setDrawn d0).WarmedH t.vm) (hs : (s.setDrawn d0).sameButNew ({ t with vm := s.vm } : State) L k n) : State.butDraws s t lw_cs (fun t1 => Framed s o t1 L k n) := by
  have h2 : t.drawn = d0 := congrArg State.drawn hs.1
  refine ⟨⟨hv, hW, State.sameButNew.setDrawn hs s.drawn⟩, ?_, by decide⟩
  rw [h2]
  exact hd0
def lw_Q (_ : Array Value) (s : State) (o : Outcome) (t : State) : Prop := o = .returned (some (.int 1)) ∧ State.butDraws s t lw_cs (fun t1 => Framed s o t1 [] 600000 7302249)
def lw_Z (below : List Frame) (a : Array Value) (s : State) : State → Prop := fun t => ∃ o, t.status = .running ∧ Ended t below o ∧ lw_Q a s o t
/-- the law's own end, with 1 on the stack, nothing written that was there before, its room as the claim has it; d0: the record of draws at this point (at the entry s.drawn: begin with 'refine W.base ?_' and 'have hd0 := Drawn.sameBut.refl s.drawn lw_cs') -/
theorem lw_ret {p : Program} {l : Launch} {e : Env} {s : State} {m : MethodId} {below : List Frame} {meth : Method} {c : Code} {b : Nat} {d0 : Drawn} (hd0 : s.drawn.sameBut d0 lw_cs) (hx : p.tables.exec = Jvm.exec) (hb : c.code = code) (hr : meth.sig.returnType = ret) (hlocks : meth.locks = false) {pc : Nat} {H : Heap} {ls : Array Slot} (hdg : decode code pc = .ok (.ireturn, 1)) : W p l e room_1 (s.setDrawn d0) m #[Value.ref b] below meth c H [] 600000 7302249 (lw_Z below #[Value.ref b] s) (F0 m pc ls [.int 1]) := by
  intro T hT X
  obtain ⟨fs, hret, hrun, hended, hW, hframe⟩ := X.leave (v := some (.int 1)) (hlocks := hlocks) (fun h => by rw [hr] at h; cases h)
  have hmeth' : T.vm.method? m = some meth := X.method'
  refine ⟨T.setFrames fs, ?_, .returned (some (.int 1)), hrun, hended, rfl, lw_closed hd0 ⟨_, rfl⟩ hW hframe⟩
  jvm_step X.here [X.here.top, hx, hb, hdg, hmeth', hr, ret, narrow_b1]
  (try refine ⟨rfl, ?_⟩); (try refine ⟨rfl, ?_⟩)
  first | (intro acts; rw [hret _ acts rfl rfl rfl]) | rw [hret _ _ rfl rfl rfl]
  exact Steps.refl _
/-- what holds at the law's entry: the machine, the code, the tables' words (any of lw_tbl by 'hts w (by decide +kernel)'), the script of L ints xs at the cell b, what the Statement gives of the start (any of its parts by flat_of_before) -/
def lw_At (p : Program) (s : State) (m : MethodId) (meth : Method) (c : Code) (b L : Nat) (xs : Nat → Int32) : Prop :=
  p.tables.exec = Jvm.exec ∧ c.code = code ∧ meth.sig.returnType = ret ∧ c.maxLocals = 4 ∧ s.vm.findClass R_law = some m.cls ∧ (∀ w ∈ lw_tbl, w.before #[Value.ref b] s = true) ∧ va_X b L xs s s.heap ∧ b < s.heap.size ∧ meth.locks = false ∧ (Jvm.Cond.and given_1 narrow_1).before #[Value.ref b] s = true
def fL_L18 (L : Nat) (xs : Nat → Int32) (a1 a2 : Nat) : Nat → Int32 → AH → Option Int32
  | 0, _, _ => none
  | n + 1, x3, h =>
    if Int32.ofNat L - (11 : Int32) < x3 then
      some (1 : Int32)
    else
      ob1 (sc L xs x3) fun v =>
      bnd (v &&& (63 : Int32)) fun y =>
      if y = (0 : Int32) then fL_c0 L xs x3 a1 a2 (fun g => bnd (x3 + (11 : Int32)) fun z => fL_L18 L xs a1 a2 n z g) h else
      if y = (1 : Int32) then fL_c1 L xs x3 a1 a2 (fun g => bnd (x3 + (11 : Int32)) fun z => fL_L18 L xs a1 a2 n z g) h else
      if y = (2 : Int32) then fL_c2 L xs x3 a1 a2 (fun g => bnd (x3 + (11 : Int32)) fun z => fL_L18 L xs a1 a2 n z g) h else
      if y = (3 : Int32) then fL_c3 L xs x3 a1 a2 (fun g => bnd (x3 + (11 : Int32)) fun z => fL_L18 L xs a1 a2 n z g) h else
      if y = (4 : Int32) then fL_c4 L xs x3 a1 a2 (fun g => bnd (x3 + (11 : Int32)) fun z => fL_L18 L xs a1 a2 n z g) h else
      if y = (5 : Int32) then fL_c5 L xs x3 a1 a2 (fun g => bnd (x3 + (11 : Int32)) fun z => fL_L18 L xs a1 a2 n z g) h else
      if y = (6 : Int32) then fL_c6 L xs x3 a1 a2 (fun g => bnd (x3 + (11 : Int32)) fun z => fL_L18 L xs a1 a2 n z g) h else
      if y = (7 : Int32) then fL_c7 L xs x3 a1 a2 (fun g => bnd (x3 + (11 : Int32)) fun z => fL_L18 L xs a1 a2 n z g) h else
      if y = (8 : Int32) then fL_c8 L xs x3 a1 a2 (fun g => bnd (x3 + (11 : Int32)) fun z => fL_L18 L xs a1 a2 n z g) h else
      if y = (9 : Int32) then fL_c9 L xs x3 a1 a2 (fun g => bnd (x3 + (11 : Int32)) fun z => fL_L18 L xs a1 a2 n z g) h else
      if y = (10 : Int32) then fL_c10 L xs x3 a1 a2 (fun g => bnd (x3 + (11 : Int32)) fun z => fL_L18 L xs a1 a2 n z g) h else
      if y = (11 : Int32) then fL_c11 L xs x3 a1 a2 (fun g => bnd (x3 + (11 : Int32)) fun z => fL_L18 L xs a1 a2 n z g) h else
      if y = (12 : Int32) then fL_c12 L xs x3 a1 a2 (fun g => bnd (x3 + (11 : Int32)) fun z => fL_L18 L xs a1 a2 n z g) h else
      if y = (13 : Int32) then fL_c13 L xs x3 a1 a2 (fun g => bnd (x3 + (11 : Int32)) fun z => fL_L18 L xs a1 a2 n z g) h else
      if y = (14 : Int32) then fL_c14 L xs x3 a1 a2 (fun g => bnd (x3 + (11 : Int32)) fun z => fL_L18 L xs a1 a2 n z g) h else
      if y = (15 : Int32) then fL_c15 L xs x3 a1 a2 (fun g => bnd (x3 + (11 : Int32)) fun z => fL_L18 L xs a1 a2 n z g) h else
      if y = (16 : Int32) then fL_c16 L xs x3 a1 a2 (fun g => bnd (x3 + (11 : Int32)) fun z => fL_L18 L xs a1 a2 n z g) h else
      if y = (17 : Int32) then fL_c17 L xs x3 a1 a2 (fun g => bnd (x3 + (11 : Int32)) fun z => fL_L18 L xs a1 a2 n z g) h else
      if y = (18 : Int32) then fL_c18 L xs x3 a1 a2 (fun g => bnd (x3 + (11 : Int32)) fun z => fL_L18 L xs a1 a2 n z g) h else
      if y = (19 : Int32) then fL_c19 L xs x3 a1 a2 (fun g => bnd (x3 + (11 : Int32)) fun z => fL_L18 L xs a1 a2 n z g) h else
      if y = (20 : Int32) then fL_c20 L xs x3 a1 a2 (fun g => bnd (x3 + (11 : Int32)) fun z => fL_L18 L xs a1 a2 n z g) h else
      if y = (21 : Int32) then fL_c21 L xs x3 a1 a2 (fun g => bnd (x3 + (11 : Int32)) fun z => fL_L18 L xs a1 a2 n z g) h else
      if y = (22 : Int32) then fL_c22 L xs x3 a1 a2 (fun g => bnd (x3 + (11 : Int32)) fun z => fL_L18 L xs a1 a2 n z g) h else
      if y = (23 : Int32) then fL_c23 L xs x3 a1 a2 (fun g => bnd (x3 + (11 : Int32)) fun z => fL_L18 L xs a1 a2 n z g) h else
      if y = (24 : Int32) then fL_c24 L xs x3 a1 a2 (fun g => bnd (x3 + (11 : Int32)) fun z => fL_L18 L xs a1 a2 n z g) h else
      if y = (25 : Int32) then fL_c25 L xs x3 a1 a2 (fun g => bnd (x3 + (11 : Int32)) fun z => fL_L18 L xs a1 a2 n z g) h else
      if y = (26 : Int32) then fL_c26 L xs x3 a1 a2 (fun g => bnd (x3 + (11 : Int32)) fun z => fL_L18 L xs a1 a2 n z g) h else
      if y = (27 : Int32) then fL_c27 L xs x3 a1 a2 (fun g => bnd (x3 + (11 : Int32)) fun z => fL_L18 L xs a1 a2 n z g) h else
      if y = (28 : Int32) then fL_c28 L xs x3 a1 a2 (fun g => bnd (x3 + (11 : Int32)) fun z => fL_L18 L xs a1 a2 n z g) h else
      if y = (29 : Int32) then fL_c29 L xs x3 a1 a2 (fun g => bnd (x3 + (11 : Int32)) fun z => fL_L18 L xs a1 a2 n z g) h else
      if y = (30 : Int32) then fL_c30 L xs x3 a1 a2 (fun g => bnd (x3 + (11 : Int32)) fun z => fL_L18 L xs a1 a2 n z g) h else
      if y = (31 : Int32) then fL_c31 L xs x3 a1 a2 (fun g => bnd (x3 + (11 : Int32)) fun z => fL_L18 L xs a1 a2 n z g) h else
      if y = (32 : Int32) then fL_c32 L xs x3 a1 a2 (fun g => bnd (x3 + (11 : Int32)) fun z => fL_L18 L xs a1 a2 n z g) h else
      if y = (33 : Int32) then fL_c33 L xs x3 a1 a2 (fun g => bnd (x3 + (11 : Int32)) fun z => fL_L18 L xs a1 a2 n z g) h else
      if y = (34 : Int32) then fL_c34 L xs x3 a1 a2 (fun g => bnd (x3 + (11 : Int32)) fun z => fL_L18 L xs a1 a2 n z g) h else
      if y = (35 : Int32) then fL_c35 L xs x3 a1 a2 (fun g => bnd (x3 + (11 : Int32)) fun z => fL_L18 L xs a1 a2 n z g) h else
      if y = (36 : Int32) then fL_c36 L xs x3 a1 a2 (fun g => bnd (x3 + (11 : Int32)) fun z => fL_L18 L xs a1 a2 n z g) h else
      if y = (37 : Int32) then fL_c37 L xs x3 a1 a2 (fun g => bnd (x3 + (11 : Int32)) fun z => fL_L18 L xs a1 a2 n z g) h else
      if y = (38 : Int32) then fL_c38 L xs x3 a1 a2 (fun g => bnd (x3 + (11 : Int32)) fun z => fL_L18 L xs a1 a2 n z g) h else
      if y = (39 : Int32) then fL_c39 L xs x3 a1 a2 (fun g => bnd (x3 + (11 : Int32)) fun z => fL_L18 L xs a1 a2 n z g) h else
      if y = (40 : Int32) then fL_c40 L xs x3 a1 a2 (fun g => bnd (x3 + (11 : Int32)) fun z => fL_L18 L xs a1 a2 n z g) h else
      if y = (41 : Int32) then fL_c41 L xs x3 a1 a2 (fun g => bnd (x3 + (11 : Int32)) fun z => fL_L18 L xs a1 a2 n z g) h else
      if y = (42 : Int32) then fL_c42 L xs x3 a1 a2 (fun g => bnd (x3 + (11 : Int32)) fun z => fL_L18 L xs a1 a2 n z g) h else
      bnd (x3 + (11 : Int32)) fun z => fL_L18 L xs a1 a2 n z h
set_option maxHeartbeats 4000000 in
set_option maxRecDepth 100000 in
theorem wL_loop {p : Program} {l : Launch} {e : Env} {s : State} {m : MethodId} {below : List Frame} {meth : Method} {c : Code} {G : GG} {h0 : AH} {b L : Nat} {xs : Nat → Int32} {a1 a2 : Nat} (K : CX p s m #[Value.ref b] meth c cL_law 4 RL ret G s.heap.size) (hX : va_X b L xs s s.heap) (hbl : b < s.heap.size) : ∀ (n : Nat) (x3 : Int32) (h : AH) (cb sb : Nat), cb + 15 * n ≤ 600000 → sb + 105 * n ≤ 7302249 → fL_L18 L xs a1 a2 n x3 h = some 1 → WA p l e room_1 s m #[Value.ref b] below meth c (lw_Z below #[Value.ref b] s) G s.heap.size 4 h0 cb sb h 18 [(0, .ref b), (1, .ref a1), (2, .ref a2), (3, .int x3)] [] := by
  have hbA : ¬ AB s.heap.size b := Nat.not_le.mpr hbl
  intro n
  induction n with
  | zero =>
    intro x3 h cb sb _ _ hf
    rw [fL_L18] at hf
    cases hf
  | succ n ih =>
    intro x3 h cb sb hc hs hf
    rw [fL_L18] at hf
    have hK : ∀ (cb1 sb1 : Nat), cb1 + 15 * n ≤ 600000 → sb1 + 105 * n ≤ 7302249 → ∀ g : AH, (bnd (x3 + (11 : Int32)) fun z => fL_L18 L xs a1 a2 n z g) = some 1 → WA p l e room_1 s m #[Value.ref b] below meth c (lw_Z below #[Value.ref b] s) G s.heap.size 4 h0 cb1 sb1 g 1837 [(0, .ref b), (1, .ref a1), (2, .ref a2), (3, .int x3)] [] := by
      intro cb1 sb1 h1 h2 g hf
      obtain ⟨z, ez, hf⟩ := bnd_g hf
      refine r_iinc (v := z) (lv1 := [(3, .int z), (0, .ref b), (1, .ref a1), (2, .ref a2)]) K 3 dL_law_1837 rfl (by rw [ez]; rfl) (by decide) rfl ?_
      refine r_goto (tgt := 18) K dL_law_1840 (by decide) ?_
      refine r_lv [1, 2, 3, 0] rfl ?_
      exact ih z g cb1 sb1 h1 h2 hf
    refine r_iload_n K 3 dL_law_18 rfl ?_
    refine r_aload_n K 0 dL_law_19 rfl ?_
    refine r_slen K hX hbl hbA dL_law_20 ?_
    refine r_bipush (v := (11 : Int32)) K dL_law_21 (by decide) ?_
    refine r_isub K dL_law_23 ?_
    refine r_icmp_gt (tgt := 1843) K dL_law_24 (by decide) (fun c1 => ?_) (fun c1 => ?_)
    · replace hf := ite_t hf c1
      refine r_iconst (v := (1 : Int32)) K dL_law_1843 (by decide) ?_
      intro H locs ls hP hE hS hl
      refine va_forget (fun q hq => hS.2.2 q hq) ?_
      refine W.widen (k := 600000) (n := 7302249) (by omega) (by omega) ?_
      refine W.base ?_
      exact lw_ret (Drawn.sameBut.refl s.drawn lw_cs) K.1 K.2.1 K.2.2.2.2.2.1 K.2.2.2.2.2.2.1 dL_law_1844
    · replace hf := ite_f hf c1
      obtain ⟨v, ev, hf⟩ := ob1_s hf
      obtain ⟨y, ey, hf⟩ := bnd_g hf
      refine r_aload_n K 0 dL_law_27 rfl ?_
      refine r_iload_n K 3 dL_law_28 rfl ?_
      refine r_sld K hX hbl hbA dL_law_29 ev ?_
      refine r_bipush (v := (63 : Int32)) K dL_law_30 (by decide) ?_
      refine r_iand K dL_law_32 ?_
      refine r_nmi ey ?_
      by_cases d0 : y = (0 : Int32)
      · replace hf := ite_t hf d0
        refine r_tin (v := (0 : Int32)) (tgt := 220) K dL_law_33 d0 (by decide) (by decide) rfl (by decide) ?_
        exact wL_c0 (by omega) (by omega) K hX hbl hbA _ (hK (cb + 15) (sb + 105) (by omega) (by omega)) h hf
      replace hf := ite_f hf d0
      by_cases d1 : y = (1 : Int32)
      · replace hf := ite_t hf d1
        refine r_tin (v := (1 : Int32)) (tgt := 243) K dL_law_33 d1 (by decide) (by decide) rfl (by decide) ?_
        exact wL_c1 (by omega) (by omega) K hX hbl hbA _ (hK (cb + 15) (sb + 105) (by omega) (by omega)) h hf
      replace hf := ite_f hf d1
      by_cases d2 : y = (2 : Int32)
      · replace hf := ite_t hf d2
        refine r_tin (v := (2 : Int32)) (tgt := 426) K dL_law_33 d2 (by decide) (by decide) rfl (by decide) ?_
        exact wL_c2 (by omega) (by omega) K hX hbl hbA _ (hK (cb + 15) (sb + 105) (by omega) (by omega)) h hf
      replace hf := ite_f hf d2
      by_cases d3 : y = (3 : Int32)
      · replace hf := ite_t hf d3
        refine r_tin (v := (3 : Int32)) (tgt := 449) K dL_law_33 d3 (by decide) (by decide) rfl (by decide) ?_
        exact wL_c3 (by omega) (by omega) K hX hbl hbA _ (hK (cb + 15) (sb + 105) (by omega) (by omega)) h hf
      replace hf := ite_f hf d3
      by_cases d4 : y = (4 : Int32)
      · replace hf := ite_t hf d4
        refine r_tin (v := (4 : Int32)) (tgt := 513) K dL_law_33 d4 (by decide) (by decide) rfl (by decide) ?_
        exact wL_c4 (by omega) (by omega) K hX hbl hbA _ (hK (cb + 15) (sb + 105) (by omega) (by omega)) h hf
      replace hf := ite_f hf d4
      by_cases d5 : y = (5 : Int32)
      · replace hf := ite_t hf d5
        refine r_tin (v := (5 : Int32)) (tgt := 547) K dL_law_33 d5 (by decide) (by decide) rfl (by decide) ?_
        exact wL_c5 (by omega) (by omega) K hX hbl hbA _ (hK (cb + 15) (sb + 105) (by omega) (by omega)) h hf
      replace hf := ite_f hf d5
      by_cases d6 : y = (6 : Int32)
      · replace hf := ite_t hf d6
        refine r_tin (v := (6 : Int32)) (tgt := 591) K dL_law_33 d6 (by decide) (by decide) rfl (by decide) ?_
        exact wL_c6 (by omega) (by omega) K hX hbl hbA _ (hK (cb + 15) (sb + 105) (by omega) (by omega)) h hf
      replace hf := ite_f hf d6
      by_cases d7 : y = (7 : Int32)
      · replace hf := ite_t hf d7
        refine r_tin (v := (7 : Int32)) (tgt := 634) K dL_law_33 d7 (by decide) (by decide) rfl (by decide) ?_
        exact wL_c7 (by omega) (by omega) K hX hbl hbA _ (hK (cb + 15) (sb + 105) (by omega) (by omega)) h hf
      replace hf := ite_f hf d7
      by_cases d8 : y = (8 : Int32)
      · replace hf := ite_t hf d8
        refine r_tin (v := (8 : Int32)) (tgt := 667) K dL_law_33 d8 (by decide) (by decide) rfl (by decide) ?_
        exact wL_c8 (by omega) (by omega) K hX hbl hbA _ (hK (cb + 15) (sb + 105) (by omega) (by omega)) h hf
      replace hf := ite_f hf d8
      by_cases d9 : y = (9 : Int32)
      · replace hf := ite_t hf d9
        refine r_tin (v := (9 : Int32)) (tgt := 690) K dL_law_33 d9 (by decide) (by decide) rfl (by decide) ?_
        exact wL_c9 (by omega) (by omega) K hX hbl hbA _ (hK (cb + 15) (sb + 105) (by omega) (by omega)) h hf
      replace hf := ite_f hf d9
      by_cases d10 : y = (10 : Int32)
      · replace hf := ite_t hf d10
        refine r_tin (v := (10 : Int32)) (tgt := 703) K dL_law_33 d10 (by decide) (by decide) rfl (by decide) ?_
        exact wL_c10 (by omega) (by omega) K hX hbl hbA _ (hK (cb + 15) (sb + 105) (by omega) (by omega)) h hf
      replace hf := ite_f hf d10
      by_cases d11 : y = (11 : Int32)
      · replace hf := ite_t hf d11
        refine r_tin (v := (11 : Int32)) (tgt := 716) K dL_law_33 d11 (by decide) (by decide) rfl (by decide) ?_
        exact wL_c11 (by omega) (by omega) K hX hbl hbA _ (hK (cb + 15) (sb + 105) (by omega) (by omega)) h hf
      replace hf := ite_f hf d11
      by_cases d12 : y = (12 : Int32)
      · replace hf := ite_t hf d12
        refine r_tin (v := (12 : Int32)) (tgt := 739) K dL_law_33 d12 (by decide) (by decide) rfl (by decide) ?_
        exact wL_c12 (by omega) (by omega) K hX hbl hbA _ (hK (cb + 15) (sb + 105) (by omega) (by omega)) h hf
      replace hf := ite_f hf d12
      by_cases d13 : y = (13 : Int32)
      · replace hf := ite_t hf d13
        refine r_tin (v := (13 : Int32)) (tgt := 782) K dL_law_33 d13 (by decide) (by decide) rfl (by decide) ?_
        exact wL_c13 (by omega) (by omega) K hX hbl hbA _ (hK (cb + 15) (sb + 105) (by omega) (by omega)) h hf
      replace hf := ite_f hf d13
      by_cases d14 : y = (14 : Int32)
      · replace hf := ite_t hf d14
        refine r_tin (v := (14 : Int32)) (tgt := 805) K dL_law_33 d14 (by decide) (by decide) rfl (by decide) ?_
        exact wL_c14 (by omega) (by omega) K hX hbl hbA _ (hK (cb + 15) (sb + 105) (by omega) (by omega)) h hf
      replace hf := ite_f hf d14
      by_cases d15 : y = (15 : Int32)
      · replace hf := ite_t hf d15
        refine r_tin (v := (15 : Int32)) (tgt := 838) K dL_law_33 d15 (by decide) (by decide) rfl (by decide) ?_
        exact wL_c15 (by omega) (by omega) K hX hbl hbA _ (hK (cb + 15) (sb + 105) (by omega) (by omega)) h hf
      replace hf := ite_f hf d15
      by_cases d16 : y = (16 : Int32)
      · replace hf := ite_t hf d16
        refine r_tin (v := (16 : Int32)) (tgt := 881) K dL_law_33 d16 (by decide) (by decide) rfl (by decide) ?_
        exact wL_c16 (by omega) (by omega) K hX hbl hbA _ (hK (cb + 15) (sb + 105) (by omega) (by omega)) h hf
      replace hf := ite_f hf d16
      by_cases d17 : y = (17 : Int32)
      · replace hf := ite_t hf d17
        refine r_tin (v := (17 : Int32)) (tgt := 904) K dL_law_33 d17 (by decide) (by decide) rfl (by decide) ?_
        exact wL_c17 (by omega) (by omega) K hX hbl hbA _ (hK (cb + 15) (sb + 105) (by omega) (by omega)) h hf
      replace hf := ite_f hf d17
      by_cases d18 : y = (18 : Int32)
      · replace hf := ite_t hf d18
        refine r_tin (v := (18 : Int32)) (tgt := 928) K dL_law_33 d18 (by decide) (by decide) rfl (by decide) ?_
        exact wL_c18 (by omega) (by omega) K hX hbl hbA _ (hK (cb + 15) (sb + 105) (by omega) (by omega)) h hf
      replace hf := ite_f hf d18
      by_cases d19 : y = (19 : Int32)
      · replace hf := ite_t hf d19
        refine r_tin (v := (19 : Int32)) (tgt := 982) K dL_law_33 d19 (by decide) (by decide) rfl (by decide) ?_
        exact wL_c19 (by omega) (by omega) K hX hbl hbA _ (hK (cb + 15) (sb + 105) (by omega) (by omega)) h hf
      replace hf := ite_f hf d19
      by_cases d20 : y = (20 : Int32)
      · replace hf := ite_t hf d20
        refine r_tin (v := (20 : Int32)) (tgt := 1026) K dL_law_33 d20 (by decide) (by decide) rfl (by decide) ?_
        exact wL_c20 (by omega) (by omega) K hX hbl hbA _ (hK (cb + 15) (sb + 105) (by omega) (by omega)) h hf
      replace hf := ite_f hf d20
      by_cases d21 : y = (21 : Int32)
      · replace hf := ite_t hf d21
        refine r_tin (v := (21 : Int32)) (tgt := 1059) K dL_law_33 d21 (by decide) (by decide) rfl (by decide) ?_
        exact wL_c21 (by omega) (by omega) K hX hbl hbA _ (hK (cb + 15) (sb + 105) (by omega) (by omega)) h hf
      replace hf := ite_f hf d21
      by_cases d22 : y = (22 : Int32)
      · replace hf := ite_t hf d22
        refine r_tin (v := (22 : Int32)) (tgt := 1083) K dL_law_33 d22 (by decide) (by decide) rfl (by decide) ?_
        exact wL_c22 (by omega) (by omega) K hX hbl hbA _ (hK (cb + 15) (sb + 105) (by omega) (by omega)) h hf
      replace hf := ite_f hf d22
      by_cases d23 : y = (23 : Int32)
      · replace hf := ite_t hf d23
        refine r_tin (v := (23 : Int32)) (tgt := 1116) K dL_law_33 d23 (by decide) (by decide) rfl (by decide) ?_
        exact wL_c23 (by omega) (by omega) K hX hbl hbA _ (hK (cb + 15) (sb + 105) (by omega) (by omega)) h hf
      replace hf := ite_f hf d23
      by_cases d24 : y = (24 : Int32)
      · replace hf := ite_t hf d24
        refine r_tin (v := (24 : Int32)) (tgt := 1130) K dL_law_33 d24 (by decide) (by decide) rfl (by decide) ?_
        exact wL_c24 (by omega) (by omega) K hX hbl hbA _ (hK (cb + 15) (sb + 105) (by omega) (by omega)) h hf
      replace hf := ite_f hf d24
      by_cases d25 : y = (25 : Int32)
      · replace hf := ite_t hf d25
        refine r_tin (v := (25 : Int32)) (tgt := 1164) K dL_law_33 d25 (by decide) (by decide) rfl (by decide) ?_
        exact wL_c25 (by omega) (by omega) K hX hbl hbA _ (hK (cb + 15) (sb + 105) (by omega) (by omega)) h hf
      replace hf := ite_f hf d25
      by_cases d26 : y = (26 : Int32)
      · replace hf := ite_t hf d26
        refine r_tin (v := (26 : Int32)) (tgt := 1198) K dL_law_33 d26 (by decide) (by decide) rfl (by decide) ?_
        exact wL_c26 (by omega) (by omega) K hX hbl hbA _ (hK (cb + 15) (sb + 105) (by omega) (by omega)) h hf
      replace hf := ite_f hf d26
      by_cases d27 : y = (27 : Int32)
      · replace hf := ite_t hf d27
        refine r_tin (v := (27 : Int32)) (tgt := 1231) K dL_law_33 d27 (by decide) (by decide) rfl (by decide) ?_
        exact wL_c27 (by omega) (by omega) K hX hbl hbA _ (hK (cb + 15) (sb + 105) (by omega) (by omega)) h hf
      replace hf := ite_f hf d27
      by_cases d28 : y = (28 : Int32)
      · replace hf := ite_t hf d28
        refine r_tin (v := (28 : Int32)) (tgt := 1254) K dL_law_33 d28 (by decide) (by decide) rfl (by decide) ?_
        exact wL_c28 (by omega) (by omega) K hX hbl hbA _ (hK (cb + 15) (sb + 105) (by omega) (by omega)) h hf
      replace hf := ite_f hf d28
      by_cases d29 : y = (29 : Int32)
      · replace hf := ite_t hf d29
        refine r_tin (v := (29 : Int32)) (tgt := 1382) K dL_law_33 d29 (by decide) (by decide) rfl (by decide) ?_
        exact wL_c29 (by omega) (by omega) K hX hbl hbA _ (hK (cb + 15) (sb + 105) (by omega) (by omega)) h hf
      replace hf := ite_f hf d29
      by_cases d30 : y = (30 : Int32)
      · replace hf := ite_t hf d30
        refine r_tin (v := (30 : Int32)) (tgt := 1395) K dL_law_33 d30 (by decide) (by decide) rfl (by decide) ?_
        exact wL_c30 (by omega) (by omega) K hX hbl hbA _ (hK (cb + 15) (sb + 105) (by omega) (by omega)) h hf
      replace hf := ite_f hf d30
      by_cases d31 : y = (31 : Int32)
      · replace hf := ite_t hf d31
        refine r_tin (v := (31 : Int32)) (tgt := 1408) K dL_law_33 d31 (by decide) (by decide) rfl (by decide) ?_
        exact wL_c31 (by omega) (by omega) K hX hbl hbA _ (hK (cb + 15) (sb + 105) (by omega) (by omega)) h hf
      replace hf := ite_f hf d31
      by_cases d32 : y = (32 : Int32)
      · replace hf := ite_t hf d32
        refine r_tin (v := (32 : Int32)) (tgt := 1451) K dL_law_33 d32 (by decide) (by decide) rfl (by decide) ?_
        exact wL_c32 (by omega) (by omega) K hX hbl hbA _ (hK (cb + 15) (sb + 105) (by omega) (by omega)) h hf
      replace hf := ite_f hf d32
      by_cases d33 : y = (33 : Int32)
      · replace hf := ite_t hf d33
        refine r_tin (v := (33 : Int32)) (tgt := 1484) K dL_law_33 d33 (by decide) (by decide) rfl (by decide) ?_
        exact wL_c33 (by omega) (by omega) K hX hbl hbA _ (hK (cb + 15) (sb + 105) (by omega) (by omega)) h hf
      replace hf := ite_f hf d33
      by_cases d34 : y = (34 : Int32)
      · replace hf := ite_t hf d34
        refine r_tin (v := (34 : Int32)) (tgt := 1527) K dL_law_33 d34 (by decide) (by decide) rfl (by decide) ?_
        exact wL_c34 (by omega) (by omega) K hX hbl hbA _ (hK (cb + 15) (sb + 105) (by omega) (by omega)) h hf
      replace hf := ite_f hf d34
      by_cases d35 : y = (35 : Int32)
      · replace hf := ite_t hf d35
        refine r_tin (v := (35 : Int32)) (tgt := 1570) K dL_law_33 d35 (by decide) (by decide) rfl (by decide) ?_
        exact wL_c35 (by omega) (by omega) K hX hbl hbA _ (hK (cb + 15) (sb + 105) (by omega) (by omega)) h hf
      replace hf := ite_f hf d35
      by_cases d36 : y = (36 : Int32)
      · replace hf := ite_t hf d36
        refine r_tin (v := (36 : Int32)) (tgt := 1614) K dL_law_33 d36 (by decide) (by decide) rfl (by decide) ?_
        exact wL_c36 (by omega) (by omega) K hX hbl hbA _ (hK (cb + 15) (sb + 105) (by omega) (by omega)) h hf
      replace hf := ite_f hf d36
      by_cases d37 : y = (37 : Int32)
      · replace hf := ite_t hf d37
        refine r_tin (v := (37 : Int32)) (tgt := 1647) K dL_law_33 d37 (by decide) (by decide) rfl (by decide) ?_
        exact wL_c37 (by omega) (by omega) K hX hbl hbA _ (hK (cb + 15) (sb + 105) (by omega) (by omega)) h hf
      replace hf := ite_f hf d37
      by_cases d38 : y = (38 : Int32)
      · replace hf := ite_t hf d38
        refine r_tin (v := (38 : Int32)) (tgt := 1671) K dL_law_33 d38 (by decide) (by decide) rfl (by decide) ?_
        exact wL_c38 (by omega) (by omega) K hX hbl hbA _ (hK (cb + 15) (sb + 105) (by omega) (by omega)) h hf
      replace hf := ite_f hf d38
      by_cases d39 : y = (39 : Int32)
      · replace hf := ite_t hf d39
        refine r_tin (v := (39 : Int32)) (tgt := 1704) K dL_law_33 d39 (by decide) (by decide) rfl (by decide) ?_
        exact wL_c39 (by omega) (by omega) K hX hbl hbA _ (hK (cb + 15) (sb + 105) (by omega) (by omega)) h hf
      replace hf := ite_f hf d39
      by_cases d40 : y = (40 : Int32)
      · replace hf := ite_t hf d40
        refine r_tin (v := (40 : Int32)) (tgt := 1777) K dL_law_33 d40 (by decide) (by decide) rfl (by decide) ?_
        exact wL_c40 (by omega) (by omega) K hX hbl hbA _ (hK (cb + 15) (sb + 105) (by omega) (by omega)) h hf
      replace hf := ite_f hf d40
      by_cases d41 : y = (41 : Int32)
      · replace hf := ite_t hf d41
        refine r_tin (v := (41 : Int32)) (tgt := 1811) K dL_law_33 d41 (by decide) (by decide) rfl (by decide) ?_
        exact wL_c41 (by omega) (by omega) K hX hbl hbA _ (hK (cb + 15) (sb + 105) (by omega) (by omega)) h hf
      replace hf := ite_f hf d41
      by_cases d42 : y = (42 : Int32)
      · replace hf := ite_t hf d42
        refine r_tin (v := (42 : Int32)) (tgt := 1824) K dL_law_33 d42 (by decide) (by decide) rfl (by decide) ?_
        exact wL_c42 (by omega) (by omega) K hX hbl hbA _ (hK (cb + 15) (sb + 105) (by omega) (by omega)) h hf
      replace hf := ite_f hf d42
      refine r_tout (N := 43) (tgt := 1837) K dL_law_33 (fun j hj => by match j, hj with | 0, _ => exact d0 | 1, _ => exact d1 | 2, _ => exact d2 | 3, _ => exact d3 | 4, _ => exact d4 | 5, _ => exact d5 | 6, _ => exact d6 | 7, _ => exact d7 | 8, _ => exact d8 | 9, _ => exact d9 | 10, _ => exact d10 | 11, _ => exact d11 | 12, _ => exact d12 | 13, _ => exact d13 | 14, _ => exact d14 | 15, _ => exact d15 | 16, _ => exact d16 | 17, _ => exact d17 | 18, _ => exact d18 | 19, _ => exact d19 | 20, _ => exact d20 | 21, _ => exact d21 | 22, _ => exact d22 | 23, _ => exact d23 | 24, _ => exact d24 | 25, _ => exact d25 | 26, _ => exact d26 | 27, _ => exact d27 | 28, _ => exact d28 | 29, _ => exact d29 | 30, _ => exact d30 | 31, _ => exact d31 | 32, _ => exact d32 | 33, _ => exact d33 | 34, _ => exact d34 | 35, _ => exact d35 | 36, _ => exact d36 | 37, _ => exact d37 | 38, _ => exact d38 | 39, _ => exact d39 | 40, _ => exact d40 | 41, _ => exact d41 | 42, _ => exact d42 | n + 43, h => exact absurd h (by omega)) (by decide) (by decide) (by decide) ?_
      exact hK cb sb (by omega) (by omega) h hf
def fL_law (L : Nat) (xs : Nat → Int32) (h : AH) : Option Int32 :=
  bnd h.1 fun b1 =>
  bnd (hnew h (.inr (9, [.null, .null, .int 0, .null, .int 0, .null, .null, .null, .int 0, .null, .null, .null, .null, .null, .null, .null, .null]))) fun g2 =>
  ob1 (fX9_init b1 g2) fun g3 =>
  bnd g3.1 fun b5 =>
  bnd (hnew g3 (.inr (10, [.null, .null, .null, .int 0, .null, .int 0, .int 0, .int 0, .null, .int 0, .null, .null, .null, .null, .null, .null, .null, .null, .int 0, .int 0, .long 0, .null, .null, .null, .null, .null, .null, .null, .null, .null, .null]))) fun g6 =>
  ob1 (fX10_init b5 g6) fun g7 =>
  fL_L18 L xs b1 b5 lf (0 : Int32) g7
set_option maxHeartbeats 4000000 in
set_option maxRecDepth 100000 in
theorem wL_law {p : Program} {l : Launch} {e : Env} {s : State} {m : MethodId} {below : List Frame} {meth : Method} {c : Code} {G : GG} {b L : Nat} {xs : Nat → Int32} (K : CX p s m #[Value.ref b] meth c cL_law 4 RL ret G s.heap.size) (hX : va_X b L xs s s.heap) (hbl : b < s.heap.size) (h : AH) (hf : fL_law L xs h = some 1) : WA p l e room_1 s m #[Value.ref b] below meth c (lw_Z below #[Value.ref b] s) G s.heap.size 4 h 0 0 h 0 [(0, .ref b)] [] := by
  unfold fL_law at hf
  obtain ⟨b1, eb1, hf⟩ := bnd_g hf
  obtain ⟨g2, eg2, hf⟩ := bnd_g hf
  have ob1 : isO g2 b1 9 := isO_new eb1 eg2
  refine r_new (ci := 9) (N := 17) (ty0 := tyX9) (cells1 := 1) (slots1 := 17) K dL_law_0 inX9 rfl tyX9_ok q_91 q_92 q_75 (fun j hj => by match j, hj with | 0, _ => rfl | 1, _ => rfl | 2, _ => rfl | 3, _ => rfl | 4, _ => rfl | 5, _ => rfl | 6, _ => rfl | 7, _ => rfl | 8, _ => rfl | 9, _ => rfl | 10, _ => rfl | 11, _ => rfl | 12, _ => rfl | 13, _ => rfl | 14, _ => rfl | 15, _ => rfl | 16, _ => rfl | n + 17, h => exact absurd h (by omega)) eb1 eg2 rfl rfl (Nat.le_of_ble_eq_true rfl) (Nat.le_of_ble_eq_true rfl) ?_
  refine r_dup K dL_law_3 rfl ?_
  obtain ⟨g3, e4, hf⟩ := ob1_s hf
  refine r_callI (As := []) (rest := [.ref b1]) (st1 := [.ref b1]) (cells1 := 108) (slots1 := 6656) (rt := none) (b := b1) K (mX9_init l ob1 e4) dL_law_4 rfl ceX9_init q_93 q_94 q_75 q_95 ⟨Nat.le_of_ble_eq_true rfl, Nat.le_of_ble_eq_true rfl⟩ (Nat.le_of_ble_eq_true rfl) ⟨by show 108 ≤ 600000; omega, by show 6656 ≤ 7302249; omega⟩ ?_ rfl rfl rfl rfl
  refine r_astore_n (lv1 := [(1, .ref b1), (0, .ref b)]) K dL_law_7 (by decide) rfl ?_
  obtain ⟨b5, eb5, hf⟩ := bnd_g hf
  obtain ⟨g6, eg6, hf⟩ := bnd_g hf
  have ob5 : isO g6 b5 10 := isO_new eb5 eg6
  refine r_new (ci := 10) (N := 31) (ty0 := tyX10) (cells1 := 109) (slots1 := 6687) K dL_law_8 inX10 rfl tyX10_ok q_899 q_900 q_85 (fun j hj => by match j, hj with | 0, _ => rfl | 1, _ => rfl | 2, _ => rfl | 3, _ => rfl | 4, _ => rfl | 5, _ => rfl | 6, _ => rfl | 7, _ => rfl | 8, _ => rfl | 9, _ => rfl | 10, _ => rfl | 11, _ => rfl | 12, _ => rfl | 13, _ => rfl | 14, _ => rfl | 15, _ => rfl | 16, _ => rfl | 17, _ => rfl | 18, _ => rfl | 19, _ => rfl | 20, _ => rfl | 21, _ => rfl | 22, _ => rfl | 23, _ => rfl | 24, _ => rfl | 25, _ => rfl | 26, _ => rfl | 27, _ => rfl | 28, _ => rfl | 29, _ => rfl | 30, _ => rfl | n + 31, h => exact absurd h (by omega)) eb5 eg6 rfl rfl (Nat.le_of_ble_eq_true rfl) (Nat.le_of_ble_eq_true rfl) ?_
  refine r_dup K dL_law_11 rfl ?_
  obtain ⟨g7, e8, hf⟩ := ob1_s hf
  refine r_callI (As := []) (rest := [.ref b5]) (st1 := [.ref b5]) (cells1 := 132) (slots1 := 16705) (rt := none) (b := b5) K (mX10_init l ob5 e8) dL_law_12 rfl ceX10_init q_901 q_902 q_85 q_903 ⟨Nat.le_of_ble_eq_true rfl, Nat.le_of_ble_eq_true rfl⟩ (Nat.le_of_ble_eq_true rfl) ⟨by show 132 ≤ 600000; omega, by show 16705 ≤ 7302249; omega⟩ ?_ rfl rfl rfl rfl
  refine r_astore_n (lv1 := [(2, .ref b5), (1, .ref b1), (0, .ref b)]) K dL_law_15 (by decide) rfl ?_
  refine r_iconst (v := (0 : Int32)) K dL_law_16 (by decide) ?_
  refine r_istore_n (lv1 := [(3, .int (0 : Int32)), (2, .ref b5), (1, .ref b1), (0, .ref b)]) K dL_law_17 (by decide) rfl ?_
  refine r_lv [3, 2, 1, 0] rfl ?_
  exact wL_loop K hX hbl lf (0 : Int32) _ 132 16705 (by decide) (by decide) hf
