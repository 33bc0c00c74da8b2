section RC_
variable {p : Program} {l : Launch} {e : Env} {R : Room} {s : State} {m : MethodId} {args : Array Value} {below : List Frame} {meth : Method} {c : Code} {Q : State → Prop} {G : GG} {b0 nL : Nat} {h0 : AH} {cells slots : Nat} {h : AH} {pc : Nat} {lv : List (Nat × Value)} {st : List Value} {cc : ByteArray} {own : String} {ret : Option FieldType}

/-- a contract's end: what is answered, the abstract heap behind it -/
def QG (G : GG) (b0 : Nat) (h : AH) (ov : Option Value) (h1 : AH) : Array Value → State → Outcome → State → Prop := fun _ st oc t => (oc = .returned ov ∧ HP G b0 h1 t.heap ∧ EX h h1) ∧ va_F (AB b0) st t
/-- the contract of a method: from the abstract heap h it answers ov, and leaves h1 -/
def MM (l : Launch) (y : MethodName) (cc : ByteArray) (n : Nat) (rt : Option FieldType) (rm : Room) (G : GG) (b0 : Nat) (h : AH) (av : List Value) (ov : Option Value) (h1 : AH) : Prop := Met l y (.code y cc n rt :: gw) rm (va_Pc av (PRE G b0 h)) (QG G b0 h ov h1) rm.cells rm.slots (AB b0)
theorem MM.of {y : MethodName} {cc : ByteArray} {n : Nat} {rt : Option FieldType} {rm : Room} {av : List Value} {ov : Option Value} {h1 : AH} {lv0 : List (Nat × Value)} {own : String} (hy : plainName y.cls = true) (ho : y.cls = own) (ha : (lg_sl av).length ≤ n) (hlv : lv_args 0 av = lv0)
    (body : ∀ p e s m args below meth c, CX p s m args meth c cc n own rt G b0 → meth.name = y.name → WA p l e rm s m args below meth c (MQ below (QG G b0 h ov h1) args s rm.cells rm.slots (AB b0)) G b0 n h 0 0 h 0 lv0 []) : MM l y cc n rt rm G b0 h av ov h1 := by
  refine Met.ofW (cc := cc) (maxL := n) (ret := rt) hy rfl ?_
  intro p e s m args below meth c s₁ B hml hv
  obtain ⟨rfl, hP, hK, hb, hST⟩ := hv
  have hts := atoms_spec (ws := .code y cc n rt :: gw) B.pre
  have hown : s.vm.findClass own = some m.cls := by rw [← ho]; exact findClass_of_methodNamed B.named
  have hl := lv_entry av (n := n) ha
  rw [lg_entry_eq]
  rw [hlv] at hl
  exact body p e s m _ below meth c ⟨B.exec, B.bytes, hml, hown, fun w hw => hts w (List.mem_cons_of_mem _ hw), B.returns, B.notSynchronized, hK, hb, hST⟩ (name_of_methodNamed B.named B.method).1 s.heap [] _ hP EX.rf va_S.rf hl
theorem r_callG {H0 H : Heap} {locs : List Loc} {ls : Array Slot} {rest st0 : List Value} {a : Array Value} {mc ms : Nat} {ov : Option Value} {h1 : AH} (hr : va_Run p l e R s m args below meth c H locs cells slots mc ms (F0 m pc ls st0) rest (QG G b0 h ov h1 a) (AB b0)) (hS : va_S (AB b0) H0 H locs)
    (kk : ∀ (H1 : Heap) (locs1 : List Loc), HP G b0 h1 H1 → EX h h1 → va_S (AB b0) H0 H1 locs1 → W p l e R s m args below meth c H1 locs1 (cells + mc) (slots + ms) Q (F0 m (pc + 3) ls (ov.toList ++ rest))) : W p l e R s m args below meth c H locs cells slots Q (F0 m pc ls st0) := by
  intro T hT X
  obtain ⟨v, st₀, t, T', L, g0, X', hL, e1, e2, ⟨⟨hv, hp, hx⟩, hz, hk⟩, stp⟩ := hr T hT X
  cases hv
  rw [g0] at hz hk
  obtain ⟨t2, a1, b1⟩ := kk T'.heap (locs ++ L) (by rw [e1]; exact hp) hx
    ⟨Nat.le_trans hS.1 (by rw [e1]; exact hz), fun q h1 h2 => by rw [e1, hk q (Nat.lt_of_lt_of_le h1 hS.1) h2]; exact hS.2.1 q h1 h2, fun q hq => by
      rcases List.mem_append.mp hq with h | h
      · exact hS.2.2 q h
      · exact hL q h⟩ T' rfl X'
  exact ⟨t2, stp t2 a1, b1⟩
theorem PRE.at {H : Heap} {locs : List Loc} {cc : ByteArray} {own : String} {ret : Option FieldType} (K : CX p s m args meth c cc nL own ret G b0) (hP : HP G b0 h H) (hS : va_S (AB b0) s.heap H locs) {U : State} (hU : U.heap = H) (hW : s.WarmedH U.vm) : PRE G b0 h U := by
  refine ⟨by rw [hU]; exact hP, K.2.2.2.2.2.2.2.1.warm hW, by rw [hU, hP.1]; exact hP.2.1, ?_⟩
  rw [hU]
  exact (K.2.2.2.2.2.2.2.2.2.kept (fun a h1 h2 => hS.2.1 a h1 h2)).moved hW.alike
theorem gw_gi {w : Cond} (hw : w ∈ gw) : w ∈ gw ∧ ((w.onTables && w.keeps) = true ∨ ∃ ty, w = .arrayClass ty) := ⟨hw, good_of_word (List.mem_filter.mp hw).2⟩
/-- of a callee: its name, its code, its number of arguments -/
def CE (y : MethodName) (n : Nat) : Prop := y.cls ≠ "java/lang/invoke/MethodHandle" ∧ y.cls ≠ "java/lang/invoke/VarHandle" ∧ (parseMethodDescriptor y.desc).map (fun d => d.parameters.length) = some n
theorem r_callV (K : CX p s m args meth c cc nL own ret G b0) {y : MethodName} {c1 : ByteArray} {n : Nat} {rt : Option FieldType} {rm : Room} {As rest : List Value} {ov : Option Value} {h1 : AH} {i : Nat} {C : String} {T : u_T} {N b ci : Nat} (hM : isO h b ci → MM l y c1 n rt rm G b0 h (.ref b :: As) ov h1) (d : decode cc pc = .ok (.invokevirtual i, 3)) (hc : vwCl[ci]? = some (C, T, N)) (hO : EX h0 h → isO h b ci) (hy : y.cls = C) (hE : CE y As.length) (w1 : Cond.methodLink own i y ∈ gw) (w2 : Cond.instanceMethod y ∈ gw) (w3 : Cond.selects C y y ∈ gw) (w4 : Cond.initialized C ∈ gw) (w5 : Cond.code y c1 n rt ∈ gw) (hR : rm.frames + 1 ≤ R.frames ∧ 8 + (n + 11) + rm.locals ≤ R.locals) (hW : (rest.map fun v => v.category).sum ≤ 8) (hf : cells + rm.cells ≤ R.cells ∧ slots + rm.slots ≤ R.slots) {cells1 slots1 : Nat} {st1 : List Value} (kk : WA p l e R s m args below meth c Q G b0 nL h0 cells1 slots1 h1 (pc + 3) lv st1) (k1 : cells + rm.cells = cells1) (k2 : slots + rm.slots = slots1) (k3 : ov.toList ++ rest = st1) (hst : As.reverse ++ .ref b :: rest = st) : WA p l e R s m args below meth c Q G b0 nL h0 cells slots h pc lv st := by
  intro H locs ls hP hX hS hl
  subst hst
  subst k1
  subst k2
  subst k3
  obtain ⟨fs, hb⟩ := hO hX
  have cw : CallW R s args own C i y c1 n rt (.code y c1 n rt :: gw) rm rm.cells rm.slots As.length := cwV As.length K.2.2.2.2.1 (fun w hw => by
    simp only [wsV, List.cons_append, List.nil_append, List.mem_cons] at hw
    rcases hw with rfl | rfl | rfl | rfl | rfl | hw
    · exact gw_gi w1
    · exact gw_gi w2
    · exact gw_gi w3
    · exact gw_gi w4
    · exact gw_gi w5
    · exact gw_gi hw) rfl rfl rfl ⟨hy, hE⟩ hR
  exact r_callG (va_runV ⟨K.1, K.2.1, K.2.2.1, K.2.2.2.1, K.2.2.2.2.1⟩ (hM ⟨fs, hb⟩) cw ⟨PRE.blind, va_recv K.2.2.2.2.2.2.2.1.1 (hP.one hb) hc (q0 := 0) rfl, fun U hU hW => ⟨rfl, PRE.at K hP hS hU hW⟩⟩ rfl rfl hl.1 rfl (lv_room hW) d hf) hS (fun H1 locs1 hP1 hX1 hS1 => kk H1 locs1 ls hP1 (hX.tr hX1) hS1 hl)
theorem r_callS (K : CX p s m args meth c cc nL own ret G b0) {y : MethodName} {c1 : ByteArray} {n : Nat} {rt : Option FieldType} {rm : Room} {As rest : List Value} {ov : Option Value} {h1 : AH} {i : Nat} (hM : MM l y c1 n rt rm G b0 h As ov h1) (d : decode cc pc = .ok (.invokestatic i, 3)) (hE : CE y As.length) (w1 : Cond.methodLink own i y ∈ gw) (w2 : Cond.static y ∈ gw) (w4 : Cond.initialized y.cls ∈ gw) (w5 : Cond.code y c1 n rt ∈ gw) (hR : rm.frames + 1 ≤ R.frames ∧ 8 + (n + 11) + rm.locals ≤ R.locals) (hW : (rest.map fun v => v.category).sum ≤ 8) (hf : cells + rm.cells ≤ R.cells ∧ slots + rm.slots ≤ R.slots) {cells1 slots1 : Nat} {st1 : List Value} (kk : WA p l e R s m args below meth c Q G b0 nL h0 cells1 slots1 h1 (pc + 3) lv st1) (k1 : cells + rm.cells = cells1) (k2 : slots + rm.slots = slots1) (k3 : ov.toList ++ rest = st1) (hst : As.reverse ++ rest = st) : WA p l e R s m args below meth c Q G b0 nL h0 cells slots h pc lv st := by
  intro H locs ls hP hX hS hl
  subst hst
  subst k1
  subst k2
  subst k3
  have cw : CallB R s args own i y c1 n rt (.code y c1 n rt :: gw) rm rm.cells rm.slots As.length ∧ (Cond.static y).before args s = true := va_cwS As.length K.2.2.2.2.1 (fun w hw => by
    simp only [va_wsS, List.cons_append, List.nil_append, List.mem_cons] at hw
    rcases hw with rfl | rfl | rfl | rfl | hw
    · exact gw_gi w1
    · exact gw_gi w2
    · exact gw_gi w4
    · exact gw_gi w5
    · exact gw_gi hw) rfl rfl rfl hE hR
  exact r_callG (va_runS ⟨K.1, K.2.1, K.2.2.1, K.2.2.2.1, K.2.2.2.2.1⟩ hM cw ⟨PRE.blind, fun U hU hW => ⟨rfl, PRE.at K hP hS hU hW⟩⟩ rfl rfl hl.1 rfl (lv_room hW) d hf) hS (fun H1 locs1 hP1 hX1 hS1 => kk H1 locs1 ls hP1 (hX.tr hX1) hS1 hl)
theorem r_callSN (K : CX p s m args meth c cc nL own ret G b0) {y : MethodName} {c1 : ByteArray} {n : Nat} {rt : Option FieldType} {rm : Room} {As rest : List Value} {ov : Option Value} {h1 : AH} {i : Nat} (hM : MM l y c1 n rt rm G b0 h As ov h1) (d : decode cc pc = .ok (.invokestatic i, 3)) (hE : CE y As.length) (w1 : (own, i, y) ∈ nw_i) (w2 : Cond.static y ∈ gw) (w4 : Cond.initialized y.cls ∈ gw) (w5 : Cond.code y c1 n rt ∈ gw) (hR : rm.frames + 1 ≤ R.frames ∧ 8 + (n + 11) + rm.locals ≤ R.locals) (hW : (rest.map fun v => v.category).sum ≤ 8) (hf : cells + rm.cells ≤ R.cells ∧ slots + rm.slots ≤ R.slots) {cells1 slots1 : Nat} {st1 : List Value} (kk : WA p l e R s m args below meth c Q G b0 nL h0 cells1 slots1 h1 (pc + 3) lv st1) (k1 : cells + rm.cells = cells1) (k2 : slots + rm.slots = slots1) (k3 : ov.toList ++ rest = st1) (hst : As.reverse ++ rest = st) : WA p l e R s m args below meth c Q G b0 nL h0 cells slots h pc lv st := by
  intro H locs ls hP hX hS hl
  subst hst
  subst k1
  subst k2
  subst k3
  have cw : va_CN R s args own i y "TollWays" c1 n rt (.code y c1 n rt :: gw) rm rm.cells rm.slots As.length := va_cnB As.length K.2.2.2.2.1 (gw_good w5) rfl rfl rfl (K.2.2.2.2.2.2.2.1.2.1 _ w1) (K.2.2.2.2.1 _ w4) hE hR
  exact r_callG (va_runSN ⟨K.1, K.2.1, K.2.2.1, K.2.2.2.1, K.2.2.2.2.1⟩ hM ⟨cw, K.2.2.2.2.1 _ w2, trivial⟩ ⟨PRE.blind, fun U hU hW => ⟨rfl, PRE.at K hP hS hU hW⟩⟩ rfl rfl hl.1 rfl (lv_room hW) d hf) hS (fun H1 locs1 hP1 hX1 hS1 => kk H1 locs1 ls hP1 (hX.tr hX1) hS1 hl)
theorem r_callI (K : CX p s m args meth c cc nL own ret G b0) {y : MethodName} {c1 : ByteArray} {n : Nat} {rt : Option FieldType} {rm : Room} {As rest : List Value} {ov : Option Value} {h1 : AH} {i : Nat} {b : Nat} (hM : MM l y c1 n none rm G b0 h (.ref b :: As) ov h1) (d : decode cc pc = .ok (.invokespecial i, 3)) (hy : y.name = "<init>") (hE : CE y As.length) (w1 : Cond.methodLink own i y ∈ gw) (w2 : Cond.instanceMethod y ∈ gw) (w4 : Cond.initialized y.cls ∈ gw) (w5 : Cond.code y c1 n none ∈ gw) (hR : rm.frames + 1 ≤ R.frames ∧ 8 + (n + 11) + rm.locals ≤ R.locals) (hW : (rest.map fun v => v.category).sum ≤ 8) (hf : cells + rm.cells ≤ R.cells ∧ slots + rm.slots ≤ R.slots) {cells1 slots1 : Nat} {st1 : List Value} (kk : WA p l e R s m args below meth c Q G b0 nL h0 cells1 slots1 h1 (pc + 3) lv st1) (k1 : cells + rm.cells = cells1) (k2 : slots + rm.slots = slots1) (k3 : ov.toList ++ rest = st1) (hst : As.reverse ++ .ref b :: rest = st) : WA p l e R s m args below meth c Q G b0 nL h0 cells slots h pc lv st := by
  intro H locs ls hP hX hS hl
  subst hst
  subst k1
  subst k2
  subst k3
  have cw := cwI (R := R) (rm := rm) As.length K.2.2.2.2.1 (gw_good w5) rfl rfl rfl (K.2.2.2.2.1 _ w4) (K.2.2.2.2.1 _ w1) (K.2.2.2.2.1 _ w2) hy hE hR
  exact r_callG (va_runI ⟨K.1, K.2.1, K.2.2.1, K.2.2.2.1, K.2.2.2.2.1⟩ hM cw ⟨PRE.blind, fun U hU hW => ⟨rfl, PRE.at K hP hS hU hW⟩⟩ rfl rfl hl.1 rfl (lv_room hW) d hf) hS (fun H1 locs1 hP1 hX1 hS1 => kk H1 locs1 ls hP1 (hX.tr hX1) hS1 hl)
theorem r_callIN (K : CX p s m args meth c cc nL own ret G b0) {y : MethodName} {c1 : ByteArray} {n : Nat} {rt : Option FieldType} {rm : Room} {As rest : List Value} {ov : Option Value} {h1 : AH} {i : Nat} {b : Nat} (hM : MM l y c1 n none rm G b0 h (.ref b :: As) ov h1) (d : decode cc pc = .ok (.invokespecial i, 3)) (hy : y.name = "<init>") (hE : CE y As.length) (w1 : (own, i, y) ∈ nw_i) (w2 : Cond.instanceMethod y ∈ gw) (w4 : Cond.initialized y.cls ∈ gw) (w5 : Cond.code y c1 n none ∈ gw) (hR : rm.frames + 1 ≤ R.frames ∧ 8 + (n + 11) + rm.locals ≤ R.locals) (hW : (rest.map fun v => v.category).sum ≤ 8) (hf : cells + rm.cells ≤ R.cells ∧ slots + rm.slots ≤ R.slots) {cells1 slots1 : Nat} {st1 : List Value} (kk : WA p l e R s m args below meth c Q G b0 nL h0 cells1 slots1 h1 (pc + 3) lv st1) (k1 : cells + rm.cells = cells1) (k2 : slots + rm.slots = slots1) (k3 : ov.toList ++ rest = st1) (hst : As.reverse ++ .ref b :: rest = st) : WA p l e R s m args below meth c Q G b0 nL h0 cells slots h pc lv st := by
  intro H locs ls hP hX hS hl
  subst hst
  subst k1
  subst k2
  subst k3
  have cw : va_CN R s args own i y "TollWays" c1 n none (.code y c1 n none :: gw) rm rm.cells rm.slots As.length := va_cnB As.length K.2.2.2.2.1 (gw_good w5) rfl rfl rfl (K.2.2.2.2.2.2.2.1.2.1 _ w1) (K.2.2.2.2.1 _ w4) hE hR
  exact r_callG (va_runIN ⟨K.1, K.2.1, K.2.2.1, K.2.2.2.1, K.2.2.2.2.1⟩ hM ⟨cw, hy, K.2.2.2.2.1 _ w2⟩ ⟨PRE.blind, fun U hU hW => ⟨rfl, PRE.at K hP hS hU hW⟩⟩ rfl rfl hl.1 rfl (lv_room hW) d hf) hS (fun H1 locs1 hP1 hX1 hS1 => kk H1 locs1 ls hP1 (hX.tr hX1) hS1 hl)
theorem r_iret (K : CX p s m args meth c cc nL own (some .int) G b0) {x r : Int32} {h1 : AH} {mc ms : Nat} (d : decode cc pc = .ok (.ireturn, 1))  (hf : some (x, h) = some (r, h1)) (g1 : cells ≤ mc) (g2 : slots ≤ ms) : WA p l e R s m args below meth c (MQ below (QG G b0 h0 (some (.int r)) h1) args s mc ms (AB b0)) G b0 nL h0 cells slots h pc lv [.int x] := by
  intro H locs ls hP hE hS hl
  cases hf
  exact W.widen g1 g2 (W.iret K.1 K.2.1 K.2.2.2.2.2.1  (fun t ht hW => ⟨⟨rfl, by rw [ht]; exact hP, hE⟩, hS.F ht⟩) hS.2.2 d K.2.2.2.2.2.2.1)
theorem r_zret (K : CX p s m args meth c cc nL own (some .boolean) G b0) {x r : Int32} {h1 : AH} {mc ms : Nat} (d : decode cc pc = .ok (.ireturn, 1)) (hz : narrow .boolean (.int x) = .int x) (hf : some (x, h) = some (r, h1)) (g1 : cells ≤ mc) (g2 : slots ≤ ms) : WA p l e R s m args below meth c (MQ below (QG G b0 h0 (some (.int r)) h1) args s mc ms (AB b0)) G b0 nL h0 cells slots h pc lv [.int x] := by
  intro H locs ls hP hE hS hl
  cases hf
  exact W.widen g1 g2 (W.zret K.1 K.2.1 K.2.2.2.2.2.1 hz (fun t ht hW => ⟨⟨rfl, by rw [ht]; exact hP, hE⟩, hS.F ht⟩) hS.2.2 d K.2.2.2.2.2.2.1)
theorem r_lret (K : CX p s m args meth c cc nL own (some .long) G b0) {x r : Int64} {h1 : AH} {mc ms : Nat} (d : decode cc pc = .ok (.lreturn, 1))  (hf : some (x, h) = some (r, h1)) (g1 : cells ≤ mc) (g2 : slots ≤ ms) : WA p l e R s m args below meth c (MQ below (QG G b0 h0 (some (.long r)) h1) args s mc ms (AB b0)) G b0 nL h0 cells slots h pc lv [.long x] := by
  intro H locs ls hP hE hS hl
  cases hf
  exact W.widen g1 g2 (W.lret K.1 K.2.1 K.2.2.2.2.2.1  (fun t ht hW => ⟨⟨rfl, by rw [ht]; exact hP, hE⟩, hS.F ht⟩) hS.2.2 d K.2.2.2.2.2.2.1)
theorem r_vret (K : CX p s m args meth c cc nL own none G b0) {h1 : AH} {mc ms : Nat} (d : decode cc pc = .ok (.return_, 1)) (hf : some h = some h1) (g1 : cells ≤ mc) (g2 : slots ≤ ms) : WA p l e R s m args below meth c (MQ below (QG G b0 h0 none h1) args s mc ms (AB b0)) G b0 nL h0 cells slots h pc lv [] := by
  intro H locs ls hP hE hS hl
  cases hf
  exact W.widen g1 g2 (W.vret K.1 K.2.1 K.2.2.2.2.2.1 (fun t ht hW => ⟨⟨rfl, by rw [ht]; exact hP, hE⟩, hS.F ht⟩) hS.2.2 d K.2.2.2.2.2.2.1)
theorem r_aret {rt : String} (K : CX p s m args meth c cc nL own (some (.object rt)) G b0) {x r : Nat} {h1 : AH} {mc ms : Nat} (d : decode cc pc = .ok (.areturn, 1)) (hf : some (x, h) = some (r, h1)) (g1 : cells ≤ mc) (g2 : slots ≤ ms) : WA p l e R s m args below meth c (MQ below (QG G b0 h0 (some (.ref r)) h1) args s mc ms (AB b0)) G b0 nL h0 cells slots h pc lv [.ref x] := by
  intro H locs ls hP hE hS hl
  cases hf
  exact W.widen g1 g2 (W.aret K.1 K.2.1 K.2.2.2.2.2.1 (Or.inl ⟨_, rfl⟩) (Or.inr ⟨_, rfl⟩) (fun t ht hW => ⟨⟨rfl, by rw [ht]; exact hP, hE⟩, hS.F ht⟩) hS.2.2 d K.2.2.2.2.2.2.1)
end RC_
